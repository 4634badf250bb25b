section
-- ===== PART A: goes FIRST, ahead of the names: the tables' words, and 'selects' of the private methods out of them =====
/-- a private method of a class that the tables say can be made, by its rows of tables_1 -/
def lw_okq (q : MethodName × Nat) : Prop := (q.1.cls ≠ "java/lang/invoke/MethodHandle" ∧ q.1.cls ≠ "java/lang/invoke/VarHandle") ∧ Cond.instantiable q.1.cls q.2 ∈ tables_1 ∧ Cond.privateMethod q.1 ∈ tables_1 ∧ Cond.instanceMethod q.1 ∈ tables_1
theorem lw_p0 : lw_okq (⟨"PennantRopes", "counted", "(I)I"⟩, 6) := ⟨⟨by decide +kernel, by decide +kernel⟩, List.mem_of_getElem? (i := 16) (by decide +kernel), List.mem_of_getElem? (i := 214) (by decide +kernel), List.mem_of_getElem? (i := 215) (by decide +kernel)⟩
theorem lw_p1 : lw_okq (⟨"PennantRopes", "ropeMixed", "(JI)J"⟩, 6) := ⟨⟨by decide +kernel, by decide +kernel⟩, List.mem_of_getElem? (i := 16) (by decide +kernel), List.mem_of_getElem? (i := 254) (by decide +kernel), List.mem_of_getElem? (i := 255) (by decide +kernel)⟩
theorem lw_p2 : lw_okq (⟨"PennantRopes", "ropeNumber", "(LPennantRopes$Rope;I)I"⟩, 6) := ⟨⟨by decide +kernel, by decide +kernel⟩, List.mem_of_getElem? (i := 16) (by decide +kernel), List.mem_of_getElem? (i := 259) (by decide +kernel), List.mem_of_getElem? (i := 260) (by decide +kernel)⟩
theorem lw_p3 : lw_okq (⟨"PennantRopes", "period", "(LPennantRopes$Rope;)I"⟩, 6) := ⟨⟨by decide +kernel, by decide +kernel⟩, List.mem_of_getElem? (i := 16) (by decide +kernel), List.mem_of_getElem? (i := 280) (by decide +kernel), List.mem_of_getElem? (i := 281) (by decide +kernel)⟩
theorem lw_p4 : lw_okq (⟨"PennantRopes", "hueMixed", "(JLPennantRopes$Rope;I)J"⟩, 6) := ⟨⟨by decide +kernel, by decide +kernel⟩, List.mem_of_getElem? (i := 16) (by decide +kernel), List.mem_of_getElem? (i := 295) (by decide +kernel), List.mem_of_getElem? (i := 296) (by decide +kernel)⟩
theorem lw_p5 : lw_okq (⟨"PennantRopes$Rope", "fittingPhases", "(II)I"⟩, 4) := ⟨⟨by decide +kernel, by decide +kernel⟩, List.mem_of_getElem? (i := 31) (by decide +kernel), List.mem_of_getElem? (i := 314) (by decide +kernel), List.mem_of_getElem? (i := 315) (by decide +kernel)⟩
theorem lw_p6 : lw_okq (⟨"PennantRopes$Rope", "lowestPhase", "(II)I"⟩, 4) := ⟨⟨by decide +kernel, by decide +kernel⟩, List.mem_of_getElem? (i := 31) (by decide +kernel), List.mem_of_getElem? (i := 322) (by decide +kernel), List.mem_of_getElem? (i := 323) (by decide +kernel)⟩
theorem lw_p7 : lw_okq (⟨"PennantRopes", "fillingHue", "(LPennantRopes$Rope;)I"⟩, 6) := ⟨⟨by decide +kernel, by decide +kernel⟩, List.mem_of_getElem? (i := 16) (by decide +kernel), List.mem_of_getElem? (i := 334) (by decide +kernel), List.mem_of_getElem? (i := 335) (by decide +kernel)⟩
theorem lw_p8 : lw_okq (⟨"PennantRopes", "greatestLength", "(LPennantRopes$Rope;)I"⟩, 6) := ⟨⟨by decide +kernel, by decide +kernel⟩, List.mem_of_getElem? (i := 16) (by decide +kernel), List.mem_of_getElem? (i := 340) (by decide +kernel), List.mem_of_getElem? (i := 341) (by decide +kernel)⟩
theorem lw_p9 : lw_okq (⟨"PennantRopes", "huesDueAt", "(LPennantRopes$Rope;I)I"⟩, 6) := ⟨⟨by decide +kernel, by decide +kernel⟩, List.mem_of_getElem? (i := 16) (by decide +kernel), List.mem_of_getElem? (i := 344) (by decide +kernel), List.mem_of_getElem? (i := 345) (by decide +kernel)⟩
theorem lw_p10 : lw_okq (⟨"PennantRopes", "reasonAgainstJoining", "(LPennantRopes$Rope;LPennantRopes$Rope;)I"⟩, 6) := ⟨⟨by decide +kernel, by decide +kernel⟩, List.mem_of_getElem? (i := 16) (by decide +kernel), List.mem_of_getElem? (i := 351) (by decide +kernel), List.mem_of_getElem? (i := 352) (by decide +kernel)⟩
theorem lw_p11 : lw_okq (⟨"PennantRopes", "draftJoined", "(LPennantRopes$Rope;LPennantRopes$Rope;)Z"⟩, 6) := ⟨⟨by decide +kernel, by decide +kernel⟩, List.mem_of_getElem? (i := 16) (by decide +kernel), List.mem_of_getElem? (i := 357) (by decide +kernel), List.mem_of_getElem? (i := 358) (by decide +kernel)⟩
theorem lw_p12 : lw_okq (⟨"PennantRopes", "draftLaid", "(II)Z"⟩, 6) := ⟨⟨by decide +kernel, by decide +kernel⟩, List.mem_of_getElem? (i := 16) (by decide +kernel), List.mem_of_getElem? (i := 368) (by decide +kernel), List.mem_of_getElem? (i := 369) (by decide +kernel)⟩
theorem lw_p13 : lw_okq (⟨"PennantRopes$Rope", "setColour", "(II)V"⟩, 4) := ⟨⟨by decide +kernel, by decide +kernel⟩, List.mem_of_getElem? (i := 31) (by decide +kernel), List.mem_of_getElem? (i := 377) (by decide +kernel), List.mem_of_getElem? (i := 378) (by decide +kernel)⟩
theorem lw_p14 : lw_okq (⟨"PennantRopes", "requireHue", "(I)V"⟩, 6) := ⟨⟨by decide +kernel, by decide +kernel⟩, List.mem_of_getElem? (i := 16) (by decide +kernel), List.mem_of_getElem? (i := 403) (by decide +kernel), List.mem_of_getElem? (i := 404) (by decide +kernel)⟩
theorem lw_p15 : lw_okq (⟨"java/lang/Throwable", "fillInStackTrace", "(I)Ljava/lang/Throwable;"⟩, 6) := ⟨⟨by decide +kernel, by decide +kernel⟩, List.mem_of_getElem? (i := 445) (by decide +kernel), List.mem_of_getElem? (i := 443) (by decide +kernel), List.mem_of_getElem? (i := 444) (by decide +kernel)⟩
def lw_privs_1 : List (MethodName × Nat) := [(⟨"PennantRopes", "counted", "(I)I"⟩, 6), (⟨"PennantRopes", "ropeMixed", "(JI)J"⟩, 6), (⟨"PennantRopes", "ropeNumber", "(LPennantRopes$Rope;I)I"⟩, 6), (⟨"PennantRopes", "period", "(LPennantRopes$Rope;)I"⟩, 6), (⟨"PennantRopes", "hueMixed", "(JLPennantRopes$Rope;I)J"⟩, 6), (⟨"PennantRopes$Rope", "fittingPhases", "(II)I"⟩, 4), (⟨"PennantRopes$Rope", "lowestPhase", "(II)I"⟩, 4), (⟨"PennantRopes", "fillingHue", "(LPennantRopes$Rope;)I"⟩, 6), (⟨"PennantRopes", "greatestLength", "(LPennantRopes$Rope;)I"⟩, 6), (⟨"PennantRopes", "huesDueAt", "(LPennantRopes$Rope;I)I"⟩, 6), (⟨"PennantRopes", "reasonAgainstJoining", "(LPennantRopes$Rope;LPennantRopes$Rope;)I"⟩, 6), (⟨"PennantRopes", "draftJoined", "(LPennantRopes$Rope;LPennantRopes$Rope;)Z"⟩, 6), (⟨"PennantRopes", "draftLaid", "(II)Z"⟩, 6), (⟨"PennantRopes$Rope", "setColour", "(II)V"⟩, 4), (⟨"PennantRopes", "requireHue", "(I)V"⟩, 6), (⟨"java/lang/Throwable", "fillInStackTrace", "(I)Ljava/lang/Throwable;"⟩, 6)]
theorem lw_r1 : ∀ q ∈ lw_privs_1, lw_okq q := List.forall_mem_cons.mpr ⟨lw_p0, List.forall_mem_cons.mpr ⟨lw_p1, List.forall_mem_cons.mpr ⟨lw_p2, List.forall_mem_cons.mpr ⟨lw_p3, List.forall_mem_cons.mpr ⟨lw_p4, List.forall_mem_cons.mpr ⟨lw_p5, List.forall_mem_cons.mpr ⟨lw_p6, List.forall_mem_cons.mpr ⟨lw_p7, List.forall_mem_cons.mpr ⟨lw_p8, List.forall_mem_cons.mpr ⟨lw_p9, List.forall_mem_cons.mpr ⟨lw_p10, List.forall_mem_cons.mpr ⟨lw_p11, List.forall_mem_cons.mpr ⟨lw_p12, List.forall_mem_cons.mpr ⟨lw_p13, List.forall_mem_cons.mpr ⟨lw_p14, List.forall_mem_cons.mpr ⟨lw_p15, fun _ h => absurd h List.not_mem_nil⟩⟩⟩⟩⟩⟩⟩⟩⟩⟩⟩⟩⟩⟩⟩⟩
theorem lw_p16 : lw_okq (⟨"PennantRopes$History", "dropOldest", "()V"⟩, 2) := ⟨⟨by decide +kernel, by decide +kernel⟩, List.mem_of_getElem? (i := 70) (by decide +kernel), List.mem_of_getElem? (i := 512) (by decide +kernel), List.mem_of_getElem? (i := 513) (by decide +kernel)⟩
theorem lw_p17 : lw_okq (⟨"PennantRopes$History", "rowAt", "(I)LPennantRopes$State;"⟩, 2) := ⟨⟨by decide +kernel, by decide +kernel⟩, List.mem_of_getElem? (i := 70) (by decide +kernel), List.mem_of_getElem? (i := 516) (by decide +kernel), List.mem_of_getElem? (i := 517) (by decide +kernel)⟩
theorem lw_p18 : lw_okq (⟨"PennantRopes", "requireLength", "(I)V"⟩, 6) := ⟨⟨by decide +kernel, by decide +kernel⟩, List.mem_of_getElem? (i := 16) (by decide +kernel), List.mem_of_getElem? (i := 532) (by decide +kernel), List.mem_of_getElem? (i := 533) (by decide +kernel)⟩
theorem lw_p19 : lw_okq (⟨"PennantRopes", "requireRoomForRope", "()V"⟩, 6) := ⟨⟨by decide +kernel, by decide +kernel⟩, List.mem_of_getElem? (i := 16) (by decide +kernel), List.mem_of_getElem? (i := 537) (by decide +kernel), List.mem_of_getElem? (i := 538) (by decide +kernel)⟩
theorem lw_p20 : lw_okq (⟨"PennantRopes", "existing", "(I)LPennantRopes$Rope;"⟩, 6) := ⟨⟨by decide +kernel, by decide +kernel⟩, List.mem_of_getElem? (i := 16) (by decide +kernel), List.mem_of_getElem? (i := 554) (by decide +kernel), List.mem_of_getElem? (i := 555) (by decide +kernel)⟩
theorem lw_p21 : lw_okq (⟨"PennantRopes", "requirePhase", "(II)V"⟩, 6) := ⟨⟨by decide +kernel, by decide +kernel⟩, List.mem_of_getElem? (i := 16) (by decide +kernel), List.mem_of_getElem? (i := 570) (by decide +kernel), List.mem_of_getElem? (i := 571) (by decide +kernel)⟩
theorem lw_p22 : lw_okq (⟨"PennantRopes", "changeLength", "(LPennantRopes$Rope;I)V"⟩, 6) := ⟨⟨by decide +kernel, by decide +kernel⟩, List.mem_of_getElem? (i := 16) (by decide +kernel), List.mem_of_getElem? (i := 602) (by decide +kernel), List.mem_of_getElem? (i := 603) (by decide +kernel)⟩
theorem lw_p23 : lw_okq (⟨"PennantRopes", "layBack", "(LPennantRopes$Rope;ILPennantRopes$Rope;)V"⟩, 6) := ⟨⟨by decide +kernel, by decide +kernel⟩, List.mem_of_getElem? (i := 16) (by decide +kernel), List.mem_of_getElem? (i := 615) (by decide +kernel), List.mem_of_getElem? (i := 616) (by decide +kernel)⟩
theorem lw_p24 : lw_okq (⟨"PennantRopes", "turnRound", "(LPennantRopes$Rope;)I"⟩, 6) := ⟨⟨by decide +kernel, by decide +kernel⟩, List.mem_of_getElem? (i := 16) (by decide +kernel), List.mem_of_getElem? (i := 630) (by decide +kernel), List.mem_of_getElem? (i := 631) (by decide +kernel)⟩
theorem lw_p25 : lw_okq (⟨"PennantRopes", "playPart", "(II)Z"⟩, 6) := ⟨⟨by decide +kernel, by decide +kernel⟩, List.mem_of_getElem? (i := 16) (by decide +kernel), List.mem_of_getElem? (i := 683) (by decide +kernel), List.mem_of_getElem? (i := 684) (by decide +kernel)⟩
theorem lw_p26 : lw_okq (⟨"PennantRopes", "playLaying", "(LPennantRopes$Rope;II)Z"⟩, 6) := ⟨⟨by decide +kernel, by decide +kernel⟩, List.mem_of_getElem? (i := 16) (by decide +kernel), List.mem_of_getElem? (i := 691) (by decide +kernel), List.mem_of_getElem? (i := 692) (by decide +kernel)⟩
theorem lw_p27 : lw_okq (⟨"PennantRopes", "requireWhat", "(II)V"⟩, 6) := ⟨⟨by decide +kernel, by decide +kernel⟩, List.mem_of_getElem? (i := 16) (by decide +kernel), List.mem_of_getElem? (i := 730) (by decide +kernel), List.mem_of_getElem? (i := 731) (by decide +kernel)⟩
theorem lw_p28 : lw_okq (⟨"PennantRopesModel", "isLaidAnywhere", "(I)Z"⟩, 16) := ⟨⟨by decide +kernel, by decide +kernel⟩, List.mem_of_getElem? (i := 808) (by decide +kernel), List.mem_of_getElem? (i := 877) (by decide +kernel), List.mem_of_getElem? (i := 878) (by decide +kernel)⟩
theorem lw_p29 : lw_okq (⟨"PennantRopesModel", "isLaid", "(II)Z"⟩, 16) := ⟨⟨by decide +kernel, by decide +kernel⟩, List.mem_of_getElem? (i := 808) (by decide +kernel), List.mem_of_getElem? (i := 881) (by decide +kernel), List.mem_of_getElem? (i := 882) (by decide +kernel)⟩
theorem lw_p30 : lw_okq (⟨"PennantRopesModel", "phaseOf", "(II)I"⟩, 16) := ⟨⟨by decide +kernel, by decide +kernel⟩, List.mem_of_getElem? (i := 808) (by decide +kernel), List.mem_of_getElem? (i := 885) (by decide +kernel), List.mem_of_getElem? (i := 886) (by decide +kernel)⟩
theorem lw_p31 : lw_okq (⟨"PennantRopesModel", "holds", "(I)Z"⟩, 16) := ⟨⟨by decide +kernel, by decide +kernel⟩, List.mem_of_getElem? (i := 808) (by decide +kernel), List.mem_of_getElem? (i := 892) (by decide +kernel), List.mem_of_getElem? (i := 893) (by decide +kernel)⟩
def lw_privs_2 : List (MethodName × Nat) := [(⟨"PennantRopes$History", "dropOldest", "()V"⟩, 2), (⟨"PennantRopes$History", "rowAt", "(I)LPennantRopes$State;"⟩, 2), (⟨"PennantRopes", "requireLength", "(I)V"⟩, 6), (⟨"PennantRopes", "requireRoomForRope", "()V"⟩, 6), (⟨"PennantRopes", "existing", "(I)LPennantRopes$Rope;"⟩, 6), (⟨"PennantRopes", "requirePhase", "(II)V"⟩, 6), (⟨"PennantRopes", "changeLength", "(LPennantRopes$Rope;I)V"⟩, 6), (⟨"PennantRopes", "layBack", "(LPennantRopes$Rope;ILPennantRopes$Rope;)V"⟩, 6), (⟨"PennantRopes", "turnRound", "(LPennantRopes$Rope;)I"⟩, 6), (⟨"PennantRopes", "playPart", "(II)Z"⟩, 6), (⟨"PennantRopes", "playLaying", "(LPennantRopes$Rope;II)Z"⟩, 6), (⟨"PennantRopes", "requireWhat", "(II)V"⟩, 6), (⟨"PennantRopesModel", "isLaidAnywhere", "(I)Z"⟩, 16), (⟨"PennantRopesModel", "isLaid", "(II)Z"⟩, 16), (⟨"PennantRopesModel", "phaseOf", "(II)I"⟩, 16), (⟨"PennantRopesModel", "holds", "(I)Z"⟩, 16)]
theorem lw_r2 : ∀ q ∈ lw_privs_2, lw_okq q := List.forall_mem_cons.mpr ⟨lw_p16, List.forall_mem_cons.mpr ⟨lw_p17, List.forall_mem_cons.mpr ⟨lw_p18, List.forall_mem_cons.mpr ⟨lw_p19, List.forall_mem_cons.mpr ⟨lw_p20, List.forall_mem_cons.mpr ⟨lw_p21, List.forall_mem_cons.mpr ⟨lw_p22, List.forall_mem_cons.mpr ⟨lw_p23, List.forall_mem_cons.mpr ⟨lw_p24, List.forall_mem_cons.mpr ⟨lw_p25, List.forall_mem_cons.mpr ⟨lw_p26, List.forall_mem_cons.mpr ⟨lw_p27, List.forall_mem_cons.mpr ⟨lw_p28, List.forall_mem_cons.mpr ⟨lw_p29, List.forall_mem_cons.mpr ⟨lw_p30, List.forall_mem_cons.mpr ⟨lw_p31, fun _ h => absurd h List.not_mem_nil⟩⟩⟩⟩⟩⟩⟩⟩⟩⟩⟩⟩⟩⟩⟩⟩
theorem lw_p32 : lw_okq (⟨"PennantRopesModel", "save", "()V"⟩, 16) := ⟨⟨by decide +kernel, by decide +kernel⟩, List.mem_of_getElem? (i := 808) (by decide +kernel), List.mem_of_getElem? (i := 896) (by decide +kernel), List.mem_of_getElem? (i := 897) (by decide +kernel)⟩
theorem lw_p33 : lw_okq (⟨"PennantRopesModel", "adds", "(I)V"⟩, 16) := ⟨⟨by decide +kernel, by decide +kernel⟩, List.mem_of_getElem? (i := 808) (by decide +kernel), List.mem_of_getElem? (i := 904) (by decide +kernel), List.mem_of_getElem? (i := 905) (by decide +kernel)⟩
theorem lw_p34 : lw_okq (⟨"PennantRopesModel", "clears", "(II)V"⟩, 16) := ⟨⟨by decide +kernel, by decide +kernel⟩, List.mem_of_getElem? (i := 808) (by decide +kernel), List.mem_of_getElem? (i := 908) (by decide +kernel), List.mem_of_getElem? (i := 909) (by decide +kernel)⟩
theorem lw_p35 : lw_okq (⟨"PennantRopesModel", "isRope", "(I)Z"⟩, 16) := ⟨⟨by decide +kernel, by decide +kernel⟩, List.mem_of_getElem? (i := 808) (by decide +kernel), List.mem_of_getElem? (i := 916) (by decide +kernel), List.mem_of_getElem? (i := 917) (by decide +kernel)⟩
theorem lw_p36 : lw_okq (⟨"PennantRopesModel", "drops", "(I)V"⟩, 16) := ⟨⟨by decide +kernel, by decide +kernel⟩, List.mem_of_getElem? (i := 808) (by decide +kernel), List.mem_of_getElem? (i := 920) (by decide +kernel), List.mem_of_getElem? (i := 921) (by decide +kernel)⟩
theorem lw_p37 : lw_okq (⟨"PennantRopesModel", "areThere", "(II)Z"⟩, 16) := ⟨⟨by decide +kernel, by decide +kernel⟩, List.mem_of_getElem? (i := 808) (by decide +kernel), List.mem_of_getElem? (i := 928) (by decide +kernel), List.mem_of_getElem? (i := 929) (by decide +kernel)⟩
theorem lw_p38 : lw_okq (⟨"PennantRopesModel", "isPhase", "(II)Z"⟩, 16) := ⟨⟨by decide +kernel, by decide +kernel⟩, List.mem_of_getElem? (i := 808) (by decide +kernel), List.mem_of_getElem? (i := 932) (by decide +kernel), List.mem_of_getElem? (i := 933) (by decide +kernel)⟩
theorem lw_p39 : lw_okq (⟨"PennantRopesModel", "why", "(III)I"⟩, 16) := ⟨⟨by decide +kernel, by decide +kernel⟩, List.mem_of_getElem? (i := 808) (by decide +kernel), List.mem_of_getElem? (i := 936) (by decide +kernel), List.mem_of_getElem? (i := 937) (by decide +kernel)⟩
theorem lw_p40 : lw_okq (⟨"PennantRopesModel", "hueAt", "(II)I"⟩, 16) := ⟨⟨by decide +kernel, by decide +kernel⟩, List.mem_of_getElem? (i := 808) (by decide +kernel), List.mem_of_getElem? (i := 940) (by decide +kernel), List.mem_of_getElem? (i := 941) (by decide +kernel)⟩
theorem lw_p41 : lw_okq (⟨"PennantRopesModel", "takes", "(III)Z"⟩, 16) := ⟨⟨by decide +kernel, by decide +kernel⟩, List.mem_of_getElem? (i := 808) (by decide +kernel), List.mem_of_getElem? (i := 944) (by decide +kernel), List.mem_of_getElem? (i := 945) (by decide +kernel)⟩
theorem lw_p42 : lw_okq (⟨"PennantRopesModel", "lays", "(III)V"⟩, 16) := ⟨⟨by decide +kernel, by decide +kernel⟩, List.mem_of_getElem? (i := 808) (by decide +kernel), List.mem_of_getElem? (i := 948) (by decide +kernel), List.mem_of_getElem? (i := 949) (by decide +kernel)⟩
theorem lw_p43 : lw_okq (⟨"PennantRopesModel", "placesOf", "(II)I"⟩, 16) := ⟨⟨by decide +kernel, by decide +kernel⟩, List.mem_of_getElem? (i := 808) (by decide +kernel), List.mem_of_getElem? (i := 952) (by decide +kernel), List.mem_of_getElem? (i := 953) (by decide +kernel)⟩
theorem lw_p44 : lw_okq (⟨"PennantRopesModel", "takesOff", "(II)V"⟩, 16) := ⟨⟨by decide +kernel, by decide +kernel⟩, List.mem_of_getElem? (i := 808) (by decide +kernel), List.mem_of_getElem? (i := 960) (by decide +kernel), List.mem_of_getElem? (i := 961) (by decide +kernel)⟩
theorem lw_p45 : lw_okq (⟨"PennantRopesModel", "remembers", "(I)V"⟩, 16) := ⟨⟨by decide +kernel, by decide +kernel⟩, List.mem_of_getElem? (i := 808) (by decide +kernel), List.mem_of_getElem? (i := 964) (by decide +kernel), List.mem_of_getElem? (i := 965) (by decide +kernel)⟩
theorem lw_p46 : lw_okq (⟨"PennantRopesModel", "clash", "(I)I"⟩, 16) := ⟨⟨by decide +kernel, by decide +kernel⟩, List.mem_of_getElem? (i := 808) (by decide +kernel), List.mem_of_getElem? (i := 972) (by decide +kernel), List.mem_of_getElem? (i := 973) (by decide +kernel)⟩
theorem lw_p47 : lw_okq (⟨"PennantRopesModel", "takers", "(II)I"⟩, 16) := ⟨⟨by decide +kernel, by decide +kernel⟩, List.mem_of_getElem? (i := 808) (by decide +kernel), List.mem_of_getElem? (i := 976) (by decide +kernel), List.mem_of_getElem? (i := 977) (by decide +kernel)⟩
def lw_privs_3 : List (MethodName × Nat) := [(⟨"PennantRopesModel", "save", "()V"⟩, 16), (⟨"PennantRopesModel", "adds", "(I)V"⟩, 16), (⟨"PennantRopesModel", "clears", "(II)V"⟩, 16), (⟨"PennantRopesModel", "isRope", "(I)Z"⟩, 16), (⟨"PennantRopesModel", "drops", "(I)V"⟩, 16), (⟨"PennantRopesModel", "areThere", "(II)Z"⟩, 16), (⟨"PennantRopesModel", "isPhase", "(II)Z"⟩, 16), (⟨"PennantRopesModel", "why", "(III)I"⟩, 16), (⟨"PennantRopesModel", "hueAt", "(II)I"⟩, 16), (⟨"PennantRopesModel", "takes", "(III)Z"⟩, 16), (⟨"PennantRopesModel", "lays", "(III)V"⟩, 16), (⟨"PennantRopesModel", "placesOf", "(II)I"⟩, 16), (⟨"PennantRopesModel", "takesOff", "(II)V"⟩, 16), (⟨"PennantRopesModel", "remembers", "(I)V"⟩, 16), (⟨"PennantRopesModel", "clash", "(I)I"⟩, 16), (⟨"PennantRopesModel", "takers", "(II)I"⟩, 16)]
theorem lw_r3 : ∀ q ∈ lw_privs_3, lw_okq q := List.forall_mem_cons.mpr ⟨lw_p32, List.forall_mem_cons.mpr ⟨lw_p33, List.forall_mem_cons.mpr ⟨lw_p34, List.forall_mem_cons.mpr ⟨lw_p35, List.forall_mem_cons.mpr ⟨lw_p36, List.forall_mem_cons.mpr ⟨lw_p37, List.forall_mem_cons.mpr ⟨lw_p38, List.forall_mem_cons.mpr ⟨lw_p39, List.forall_mem_cons.mpr ⟨lw_p40, List.forall_mem_cons.mpr ⟨lw_p41, List.forall_mem_cons.mpr ⟨lw_p42, List.forall_mem_cons.mpr ⟨lw_p43, List.forall_mem_cons.mpr ⟨lw_p44, List.forall_mem_cons.mpr ⟨lw_p45, List.forall_mem_cons.mpr ⟨lw_p46, List.forall_mem_cons.mpr ⟨lw_p47, fun _ h => absurd h List.not_mem_nil⟩⟩⟩⟩⟩⟩⟩⟩⟩⟩⟩⟩⟩⟩⟩⟩
theorem lw_p48 : lw_okq (⟨"PennantRopesModel", "laysFrom", "(II)V"⟩, 16) := ⟨⟨by decide +kernel, by decide +kernel⟩, List.mem_of_getElem? (i := 808) (by decide +kernel), List.mem_of_getElem? (i := 980) (by decide +kernel), List.mem_of_getElem? (i := 981) (by decide +kernel)⟩
theorem lw_p49 : lw_okq (⟨"PennantRopesModel", "unlikeTurned", "(I)I"⟩, 16) := ⟨⟨by decide +kernel, by decide +kernel⟩, List.mem_of_getElem? (i := 808) (by decide +kernel), List.mem_of_getElem? (i := 992) (by decide +kernel), List.mem_of_getElem? (i := 993) (by decide +kernel)⟩
theorem lw_p50 : lw_okq (⟨"PennantRopesModel", "turns", "(I)V"⟩, 16) := ⟨⟨by decide +kernel, by decide +kernel⟩, List.mem_of_getElem? (i := 808) (by decide +kernel), List.mem_of_getElem? (i := 996) (by decide +kernel), List.mem_of_getElem? (i := 997) (by decide +kernel)⟩
theorem lw_p51 : lw_okq (⟨"PennantRopesModel", "lastOf", "(II)I"⟩, 16) := ⟨⟨by decide +kernel, by decide +kernel⟩, List.mem_of_getElem? (i := 808) (by decide +kernel), List.mem_of_getElem? (i := 1000) (by decide +kernel), List.mem_of_getElem? (i := 1001) (by decide +kernel)⟩
theorem lw_p52 : lw_okq (⟨"PennantRopesModel", "whyNotJoined", "(II)I"⟩, 16) := ⟨⟨by decide +kernel, by decide +kernel⟩, List.mem_of_getElem? (i := 808) (by decide +kernel), List.mem_of_getElem? (i := 1008) (by decide +kernel), List.mem_of_getElem? (i := 1009) (by decide +kernel)⟩
theorem lw_p53 : lw_okq (⟨"PennantRopesModel", "phaseBehind", "(III)I"⟩, 16) := ⟨⟨by decide +kernel, by decide +kernel⟩, List.mem_of_getElem? (i := 808) (by decide +kernel), List.mem_of_getElem? (i := 1012) (by decide +kernel), List.mem_of_getElem? (i := 1013) (by decide +kernel)⟩
theorem lw_p54 : lw_okq (⟨"PennantRopesModel", "putAside", "()V"⟩, 16) := ⟨⟨by decide +kernel, by decide +kernel⟩, List.mem_of_getElem? (i := 808) (by decide +kernel), List.mem_of_getElem? (i := 1016) (by decide +kernel), List.mem_of_getElem? (i := 1017) (by decide +kernel)⟩
theorem lw_p55 : lw_okq (⟨"PennantRopesModel", "joinsWith", "(II)V"⟩, 16) := ⟨⟨by decide +kernel, by decide +kernel⟩, List.mem_of_getElem? (i := 808) (by decide +kernel), List.mem_of_getElem? (i := 1020) (by decide +kernel), List.mem_of_getElem? (i := 1021) (by decide +kernel)⟩
theorem lw_p56 : lw_okq (⟨"PennantRopesModel", "putBack", "()V"⟩, 16) := ⟨⟨by decide +kernel, by decide +kernel⟩, List.mem_of_getElem? (i := 808) (by decide +kernel), List.mem_of_getElem? (i := 1024) (by decide +kernel), List.mem_of_getElem? (i := 1025) (by decide +kernel)⟩
theorem lw_p57 : lw_okq (⟨"PennantRopesModel", "goes", "(Z)I"⟩, 16) := ⟨⟨by decide +kernel, by decide +kernel⟩, List.mem_of_getElem? (i := 808) (by decide +kernel), List.mem_of_getElem? (i := 1040) (by decide +kernel), List.mem_of_getElem? (i := 1041) (by decide +kernel)⟩
theorem lw_p58 : lw_okq (⟨"PennantRopesModel", "readsPart", "()V"⟩, 16) := ⟨⟨by decide +kernel, by decide +kernel⟩, List.mem_of_getElem? (i := 808) (by decide +kernel), List.mem_of_getElem? (i := 1044) (by decide +kernel), List.mem_of_getElem? (i := 1045) (by decide +kernel)⟩
theorem lw_p59 : lw_okq (⟨"PennantRopesModel", "readsNumber", "(II)I"⟩, 16) := ⟨⟨by decide +kernel, by decide +kernel⟩, List.mem_of_getElem? (i := 808) (by decide +kernel), List.mem_of_getElem? (i := 1048) (by decide +kernel), List.mem_of_getElem? (i := 1049) (by decide +kernel)⟩
theorem lw_p60 : lw_okq (⟨"PennantRopesModel", "reads", "(II)I"⟩, 16) := ⟨⟨by decide +kernel, by decide +kernel⟩, List.mem_of_getElem? (i := 808) (by decide +kernel), List.mem_of_getElem? (i := 1052) (by decide +kernel), List.mem_of_getElem? (i := 1053) (by decide +kernel)⟩
theorem lw_p61 : lw_okq (⟨"PennantRopesModel", "isNext", "(II)Z"⟩, 16) := ⟨⟨by decide +kernel, by decide +kernel⟩, List.mem_of_getElem? (i := 808) (by decide +kernel), List.mem_of_getElem? (i := 1056) (by decide +kernel), List.mem_of_getElem? (i := 1057) (by decide +kernel)⟩
theorem lw_p62 : lw_okq (⟨"PennantRopesModel", "does", "()Z"⟩, 16) := ⟨⟨by decide +kernel, by decide +kernel⟩, List.mem_of_getElem? (i := 808) (by decide +kernel), List.mem_of_getElem? (i := 1060) (by decide +kernel), List.mem_of_getElem? (i := 1061) (by decide +kernel)⟩
theorem lw_p63 : lw_okq (⟨"PennantRopesModel", "toldOfRope", "(II)I"⟩, 16) := ⟨⟨by decide +kernel, by decide +kernel⟩, List.mem_of_getElem? (i := 808) (by decide +kernel), List.mem_of_getElem? (i := 1088) (by decide +kernel), List.mem_of_getElem? (i := 1089) (by decide +kernel)⟩
def lw_privs_4 : List (MethodName × Nat) := [(⟨"PennantRopesModel", "laysFrom", "(II)V"⟩, 16), (⟨"PennantRopesModel", "unlikeTurned", "(I)I"⟩, 16), (⟨"PennantRopesModel", "turns", "(I)V"⟩, 16), (⟨"PennantRopesModel", "lastOf", "(II)I"⟩, 16), (⟨"PennantRopesModel", "whyNotJoined", "(II)I"⟩, 16), (⟨"PennantRopesModel", "phaseBehind", "(III)I"⟩, 16), (⟨"PennantRopesModel", "putAside", "()V"⟩, 16), (⟨"PennantRopesModel", "joinsWith", "(II)V"⟩, 16), (⟨"PennantRopesModel", "putBack", "()V"⟩, 16), (⟨"PennantRopesModel", "goes", "(Z)I"⟩, 16), (⟨"PennantRopesModel", "readsPart", "()V"⟩, 16), (⟨"PennantRopesModel", "readsNumber", "(II)I"⟩, 16), (⟨"PennantRopesModel", "reads", "(II)I"⟩, 16), (⟨"PennantRopesModel", "isNext", "(II)Z"⟩, 16), (⟨"PennantRopesModel", "does", "()Z"⟩, 16), (⟨"PennantRopesModel", "toldOfRope", "(II)I"⟩, 16)]
theorem lw_r4 : ∀ q ∈ lw_privs_4, lw_okq q := List.forall_mem_cons.mpr ⟨lw_p48, List.forall_mem_cons.mpr ⟨lw_p49, List.forall_mem_cons.mpr ⟨lw_p50, List.forall_mem_cons.mpr ⟨lw_p51, List.forall_mem_cons.mpr ⟨lw_p52, List.forall_mem_cons.mpr ⟨lw_p53, List.forall_mem_cons.mpr ⟨lw_p54, List.forall_mem_cons.mpr ⟨lw_p55, List.forall_mem_cons.mpr ⟨lw_p56, List.forall_mem_cons.mpr ⟨lw_p57, List.forall_mem_cons.mpr ⟨lw_p58, List.forall_mem_cons.mpr ⟨lw_p59, List.forall_mem_cons.mpr ⟨lw_p60, List.forall_mem_cons.mpr ⟨lw_p61, List.forall_mem_cons.mpr ⟨lw_p62, List.forall_mem_cons.mpr ⟨lw_p63, fun _ h => absurd h List.not_mem_nil⟩⟩⟩⟩⟩⟩⟩⟩⟩⟩⟩⟩⟩⟩⟩⟩
theorem lw_p64 : lw_okq (⟨"PennantRopesModel", "holes", "(I)I"⟩, 16) := ⟨⟨by decide +kernel, by decide +kernel⟩, List.mem_of_getElem? (i := 808) (by decide +kernel), List.mem_of_getElem? (i := 1092) (by decide +kernel), List.mem_of_getElem? (i := 1093) (by decide +kernel)⟩
theorem lw_p65 : lw_okq (⟨"PennantRopesModel", "firstHole", "(I)I"⟩, 16) := ⟨⟨by decide +kernel, by decide +kernel⟩, List.mem_of_getElem? (i := 808) (by decide +kernel), List.mem_of_getElem? (i := 1096) (by decide +kernel), List.mem_of_getElem? (i := 1097) (by decide +kernel)⟩
theorem lw_p66 : lw_okq (⟨"PennantRopesModel", "holesSideBySide", "(I)I"⟩, 16) := ⟨⟨by decide +kernel, by decide +kernel⟩, List.mem_of_getElem? (i := 808) (by decide +kernel), List.mem_of_getElem? (i := 1100) (by decide +kernel), List.mem_of_getElem? (i := 1101) (by decide +kernel)⟩
theorem lw_p67 : lw_okq (⟨"PennantRopesModel", "period", "(I)I"⟩, 16) := ⟨⟨by decide +kernel, by decide +kernel⟩, List.mem_of_getElem? (i := 808) (by decide +kernel), List.mem_of_getElem? (i := 1104) (by decide +kernel), List.mem_of_getElem? (i := 1105) (by decide +kernel)⟩
theorem lw_p68 : lw_okq (⟨"PennantRopesModel", "toldOfHue", "(III)I"⟩, 16) := ⟨⟨by decide +kernel, by decide +kernel⟩, List.mem_of_getElem? (i := 808) (by decide +kernel), List.mem_of_getElem? (i := 1115) (by decide +kernel), List.mem_of_getElem? (i := 1116) (by decide +kernel)⟩
theorem lw_p69 : lw_okq (⟨"PennantRopesModel", "orderOf", "(II)I"⟩, 16) := ⟨⟨by decide +kernel, by decide +kernel⟩, List.mem_of_getElem? (i := 808) (by decide +kernel), List.mem_of_getElem? (i := 1119) (by decide +kernel), List.mem_of_getElem? (i := 1120) (by decide +kernel)⟩
theorem lw_p70 : lw_okq (⟨"PennantRopesModel", "counted", "(I)I"⟩, 16) := ⟨⟨by decide +kernel, by decide +kernel⟩, List.mem_of_getElem? (i := 808) (by decide +kernel), List.mem_of_getElem? (i := 1131) (by decide +kernel), List.mem_of_getElem? (i := 1132) (by decide +kernel)⟩
theorem lw_p71 : lw_okq (⟨"PennantRopesModel", "sum", "(Z)I"⟩, 16) := ⟨⟨by decide +kernel, by decide +kernel⟩, List.mem_of_getElem? (i := 808) (by decide +kernel), List.mem_of_getElem? (i := 1135) (by decide +kernel), List.mem_of_getElem? (i := 1136) (by decide +kernel)⟩
theorem lw_p72 : lw_okq (⟨"PennantRopesModel", "huesLaid", "()I"⟩, 16) := ⟨⟨by decide +kernel, by decide +kernel⟩, List.mem_of_getElem? (i := 808) (by decide +kernel), List.mem_of_getElem? (i := 1139) (by decide +kernel), List.mem_of_getElem? (i := 1140) (by decide +kernel)⟩
theorem lw_p73 : lw_okq (⟨"PennantRopesModel", "canMeet", "(IIII)Z"⟩, 16) := ⟨⟨by decide +kernel, by decide +kernel⟩, List.mem_of_getElem? (i := 808) (by decide +kernel), List.mem_of_getElem? (i := 1151) (by decide +kernel), List.mem_of_getElem? (i := 1152) (by decide +kernel)⟩
theorem lw_p74 : lw_okq (⟨"PennantRopesModel", "meet", "(IIII)I"⟩, 16) := ⟨⟨by decide +kernel, by decide +kernel⟩, List.mem_of_getElem? (i := 808) (by decide +kernel), List.mem_of_getElem? (i := 1155) (by decide +kernel), List.mem_of_getElem? (i := 1156) (by decide +kernel)⟩
theorem lw_p75 : lw_okq (⟨"PennantRopesModel", "toldOfPhases", "(III)I"⟩, 16) := ⟨⟨by decide +kernel, by decide +kernel⟩, List.mem_of_getElem? (i := 808) (by decide +kernel), List.mem_of_getElem? (i := 1167) (by decide +kernel), List.mem_of_getElem? (i := 1168) (by decide +kernel)⟩
theorem lw_p76 : lw_okq (⟨"PennantRopesModel", "wouldTake", "(III)I"⟩, 16) := ⟨⟨by decide +kernel, by decide +kernel⟩, List.mem_of_getElem? (i := 808) (by decide +kernel), List.mem_of_getElem? (i := 1171) (by decide +kernel), List.mem_of_getElem? (i := 1172) (by decide +kernel)⟩
theorem lw_p77 : lw_okq (⟨"PennantRopesModel", "best", "(I)I"⟩, 16) := ⟨⟨by decide +kernel, by decide +kernel⟩, List.mem_of_getElem? (i := 808) (by decide +kernel), List.mem_of_getElem? (i := 1179) (by decide +kernel), List.mem_of_getElem? (i := 1180) (by decide +kernel)⟩
theorem lw_p78 : lw_okq (⟨"PennantRopesModel", "share", "()D"⟩, 16) := ⟨⟨by decide +kernel, by decide +kernel⟩, List.mem_of_getElem? (i := 808) (by decide +kernel), List.mem_of_getElem? (i := 1195) (by decide +kernel), List.mem_of_getElem? (i := 1196) (by decide +kernel)⟩
theorem lw_p79 : lw_okq (⟨"PennantRopesModel", "digestOne", "(J)V"⟩, 16) := ⟨⟨by decide +kernel, by decide +kernel⟩, List.mem_of_getElem? (i := 808) (by decide +kernel), List.mem_of_getElem? (i := 1204) (by decide +kernel), List.mem_of_getElem? (i := 1205) (by decide +kernel)⟩
def lw_privs_5 : List (MethodName × Nat) := [(⟨"PennantRopesModel", "holes", "(I)I"⟩, 16), (⟨"PennantRopesModel", "firstHole", "(I)I"⟩, 16), (⟨"PennantRopesModel", "holesSideBySide", "(I)I"⟩, 16), (⟨"PennantRopesModel", "period", "(I)I"⟩, 16), (⟨"PennantRopesModel", "toldOfHue", "(III)I"⟩, 16), (⟨"PennantRopesModel", "orderOf", "(II)I"⟩, 16), (⟨"PennantRopesModel", "counted", "(I)I"⟩, 16), (⟨"PennantRopesModel", "sum", "(Z)I"⟩, 16), (⟨"PennantRopesModel", "huesLaid", "()I"⟩, 16), (⟨"PennantRopesModel", "canMeet", "(IIII)Z"⟩, 16), (⟨"PennantRopesModel", "meet", "(IIII)I"⟩, 16), (⟨"PennantRopesModel", "toldOfPhases", "(III)I"⟩, 16), (⟨"PennantRopesModel", "wouldTake", "(III)I"⟩, 16), (⟨"PennantRopesModel", "best", "(I)I"⟩, 16), (⟨"PennantRopesModel", "share", "()D"⟩, 16), (⟨"PennantRopesModel", "digestOne", "(J)V"⟩, 16)]
theorem lw_r5 : ∀ q ∈ lw_privs_5, lw_okq q := List.forall_mem_cons.mpr ⟨lw_p64, List.forall_mem_cons.mpr ⟨lw_p65, List.forall_mem_cons.mpr ⟨lw_p66, List.forall_mem_cons.mpr ⟨lw_p67, List.forall_mem_cons.mpr ⟨lw_p68, List.forall_mem_cons.mpr ⟨lw_p69, List.forall_mem_cons.mpr ⟨lw_p70, List.forall_mem_cons.mpr ⟨lw_p71, List.forall_mem_cons.mpr ⟨lw_p72, List.forall_mem_cons.mpr ⟨lw_p73, List.forall_mem_cons.mpr ⟨lw_p74, List.forall_mem_cons.mpr ⟨lw_p75, List.forall_mem_cons.mpr ⟨lw_p76, List.forall_mem_cons.mpr ⟨lw_p77, List.forall_mem_cons.mpr ⟨lw_p78, List.forall_mem_cons.mpr ⟨lw_p79, fun _ h => absurd h List.not_mem_nil⟩⟩⟩⟩⟩⟩⟩⟩⟩⟩⟩⟩⟩⟩⟩⟩
theorem lw_p80 : lw_okq (⟨"PennantRopesModel", "digestRope", "(I)V"⟩, 16) := ⟨⟨by decide +kernel, by decide +kernel⟩, List.mem_of_getElem? (i := 808) (by decide +kernel), List.mem_of_getElem? (i := 1209) (by decide +kernel), List.mem_of_getElem? (i := 1210) (by decide +kernel)⟩
def lw_privs_6 : List (MethodName × Nat) := [(⟨"PennantRopesModel", "digestRope", "(I)V"⟩, 16)]
theorem lw_r6 : ∀ q ∈ lw_privs_6, lw_okq q := List.forall_mem_cons.mpr ⟨lw_p80, fun _ h => absurd h List.not_mem_nil⟩
def lw_privs : List (MethodName × Nat) := lw_privs_1 ++ (lw_privs_2 ++ (lw_privs_3 ++ (lw_privs_4 ++ (lw_privs_5 ++ (lw_privs_6)))))
def lw_tbl : List Cond := k2_sels lw_privs ++ tables_1
theorem lw_privs_ok : ∀ q ∈ lw_privs, lw_okq q := by
  show ∀ q ∈ lw_privs_1 ++ (lw_privs_2 ++ (lw_privs_3 ++ (lw_privs_4 ++ (lw_privs_5 ++ (lw_privs_6))))), lw_okq q
  exact List.forall_mem_append.mpr ⟨lw_r1, List.forall_mem_append.mpr ⟨lw_r2, List.forall_mem_append.mpr ⟨lw_r3, List.forall_mem_append.mpr ⟨lw_r4, List.forall_mem_append.mpr ⟨lw_r5, lw_r6⟩⟩⟩⟩⟩
/-- the streams that the claim lets the run draw from -/
abbrev lw_cs : List Choice := [Jvm.Choice.named "NaN.bits"]
theorem lw_bits : nanBits ∈ lw_cs := by first | decide | exact List.mem_cons_self | simp [lw_cs, nanBits]
-- ===== end of PART A; then your names; then what follows =====
end
section
/-! ===== BEGIN words of one list among another's, by their places ===== -/
theorem goodIn_r {big : List Cond} (ws : List Cond) (ps : List Nat) (hp : ws = ps.filterMap (fun i => big[i]?)) (h : ws.all goodWord = true) : GoodIn big ws := by
  intro w hw
  have h1 := List.all_eq_true.mp h w hw
  rw [hp] at hw
  obtain ⟨i, -, hi⟩ := List.mem_filterMap.mp hw
  have hm : w ∈ big := by first | exact List.mem_of_getElem? hi | exact List.getElem?_mem hi
  exact ⟨hm, good_of_word h1⟩
theorem goodIn_app {big a b : List Cond} (ha : GoodIn big a) (hb : GoodIn big b) : GoodIn big (a ++ b) := fun w h => (List.mem_append.mp h).elim (ha w) (hb w)
theorem goodIn_ca {big a b : List Cond} {c : Cond} (ha : GoodIn big (c :: a)) (hb : GoodIn big b) : GoodIn big (c :: (a ++ b)) := fun w h => (List.mem_cons.mp h).elim (fun e => ha w (List.mem_cons.mpr (Or.inl e))) (fun h => (List.mem_append.mp h).elim (fun h => ha w (List.mem_cons.mpr (Or.inr h))) (hb w))
theorem goodIn_sub {big ws : List Cond} (hm : ∀ w ∈ ws, w ∈ big) (h : ws.all goodWord = true) : GoodIn big ws := fun w hw => ⟨hm w hw, good_of_word (List.all_eq_true.mp h w hw)⟩
/-! ===== END ===== -/

/-! ===== BEGIN exceptions that leave a method, and their catching by the caller (launches without stack traces) ===== -/
section VXA
/-! The laws vx_back, vx_callV, vx_callS, vx_callSW, vx_throw0, vx_throwS follow proofs of the library, with one case more: JvmDerived/Free/Laws.lean (Back.of_free), Shelf42/LK1.lean (callV, callS), Shelf/KitTraced.lean (throwNew0V, throwNewS). -/
/-- where a method has thrown q: the class by its name, the cell, what was written, the world -/
def vx_T (XC : String → State → State → Prop) (st : State) (q : Addr) (t : State) (mc ms : Nat) (free : Addr → Prop) : Prop :=
  ∃ (E : String) (ce : Cell) (L : List Loc), XC E st t ∧ t.heap[q]? = some ce ∧ ce.vm = .none ∧ st.vm.findClass E = some ce.cls ∧ st.WarmedH t.vm ∧ st.sameButNew ({ t with vm := st.vm } : State) L mc ms ∧ ∀ z ∈ L, free z.base
def vx_Q (Qc : Array Value → State → Outcome → State → Prop) (XC : String → State → State → Prop) (mc ms : Nat) (free : Addr → Prop) : Array Value → State → Outcome → State → Prop := fun a st o t =>
  (Qc a st o t ∧ ∃ L, FrameEnd st o t L mc ms ∧ ∀ q ∈ L, free q.base) ∨ ∃ q, o = .threw q ∧ vx_T XC st q t mc ms free
/-- a callee that returns or throws -/
def vx_Met (l : Launch) (y : MethodName) (ws : List Cond) (rm : Room) (Pc : Array Value → State → Prop) (Qc : Array Value → State → Outcome → State → Prop) (XC : String → State → State → Prop) (mc ms : Nat) (free : Addr → Prop) : Prop :=
  MetFree l y (headSpec ws rm) Pc (fun _ _ _ _ _ => True) (vx_Q Qc XC mc ms free)
def vx_Post (XC : String → State → State → Prop) (mc ms : Nat) (free : Addr → Prop) : Pt → Array Value → Addr → Pt → Prop := fun A a q B =>
  ∃ (g : JFrame) (mk : MethodId) (t : State) (L : List Loc) (E : String) (ce : Cell), B.U.heap = t.heap ∧ B.U.vm = t.vm ∧ XC E (A.U.calling g mk a) t ∧ t.heap[q]? = some ce ∧ ce.vm = .none ∧ A.U.vm.findClass E = some ce.cls ∧ B.locs = A.locs ++ L ∧ (∀ z ∈ L, free z.base) ∧ B.cells = A.cells + mc ∧ B.slots = A.slots + ms
def vx_Back (l : Launch) (R : Room) (p : Program) (e : Env) (below : List Frame) (s : State) (sargs : Array Value) (y : MethodName) (len W9 : Nat)
    (Pre : Pt → Array Value → Prop) (Post : Pt → Array Value → Option Value → Pt → Prop) (PostX : Pt → Array Value → Addr → Pt → Prop) : Prop :=
  ∀ (m : MethodId) (meth : Method) (c : Code) (A : Pt) (g : JFrame) (ig : Instr) (mk : MethodId) (a : Array Value),
    Stand p l e R s m sargs below meth c A.U A.locs A.cells A.slots → g.method = m → g.locals.size = c.maxLocals → decode c.code g.pc = .ok (ig, len) →
    2 * g.monitorRoom + (g.stack.map fun v => v.category).sum ≤ W9 → A.U.methodNamed? y = some mk → Pre A a →
    (∃ (v : Option Value) (B : Pt), Stand p l e R s m sargs below meth c B.U B.locs B.cells B.slots ∧ Post A a v B ∧
      Steps p.tables e below (doInvoke e (A.U.setTop g) [] mk a).1 (B.U.setTop { g with pc := g.pc + len, stack := v.toList ++ g.stack })) ∨
    (∃ (q : Addr) (B : Pt), Stand p l e R s m sargs below meth c B.U B.locs B.cells B.slots ∧ PostX A a q B ∧
      Steps p.tables e below (doInvoke e (A.U.setTop g) [] mk a).1 ((B.U.setTop g).pushFrame (.throwing q)))
section Payer
variable {l : Launch} {R : Room} {p : Program} {e : Env} {below : List Frame} {s : State} {sargs : Array Value} {y : MethodName} {len W9 : Nat}
theorem vx_back {ws : List Cond} {rm : Room} {Pc : Array Value → State → Prop} {Qc : Array Value → State → Outcome → State → Prop} {XC : String → State → State → Prop} {mc ms : Nat} {free : Addr → Prop} {bytes : ByteArray} {maxL : Nat} {ret : Option FieldType}
    (hM : vx_Met l y ws rm Pc Qc XC mc ms free) (hblind : FrameBlind Pc) (hrc : rm.cells = mc) (hrs : rm.slots = ms)
    (hframes : rm.frames + 1 ≤ R.frames) (hlocals : W9 + (maxL + 11) + rm.locals ≤ R.locals)
    (hws : ∀ w ∈ ws, ∀ a' U, s.WarmedH U.vm → w.before a' U = true) (hcode : Cond.code y bytes maxL ret ∈ ws) (hinit : ∀ a' U, s.WarmedH U.vm → (Cond.initialized y.cls).before a' U = true) :
    vx_Back l R p e below s sargs y len W9 (PreOf R mc ms Pc) (PostOf Qc mc ms free) (vx_Post XC mc ms free) := by
  intro m meth c A g ig mk a X hg hsize hdg hW hn hp
  have h1 : (headSpec ws rm).pre.before a A.U = true := atoms_intro fun w hw => hws w hw _ _ X.warmed
  have h2 : (Cond.code y bytes maxL ret).before a A.U = true := hws _ hcode _ _ X.warmed
  have h3 : (Cond.initialized y.cls).before a A.U = true := hinit _ _ X.warmed
  have h4 : A.cells + (headSpec ws rm).room.cells ≤ R.cells := by rw [show (headSpec ws rm).room.cells = mc from hrc]; exact hp.1
  have h5 : A.slots + (headSpec ws rm).room.slots ≤ R.slots := by rw [show (headSpec ws rm).room.slots = ms from hrs]; exact hp.2.1
  have hPc : Pc a (A.U.calling g mk a) := hblind _ _ _ _ hp.2.2
  obtain ⟨U, Ls, c0, s0⟩ := A
  dsimp only [Pt.U, Pt.locs, Pt.cells, Pt.slots] at h1 h2 h3 h4 h5 X hn hPc ⊢
  obtain ⟨methY, cY, hmY, hcY, -, hlY, -, -, -, -⟩ := Cond.code_spec hn h2
  obtain ⟨kY, hkY, -⟩ := className_of_methodNamed hn
  have hinitY : kY.init = .initialized := Cond.initialized_spec (findClass_of_methodNamed hn) hkY h3
  have h : At U g.method c below := by rw [hg]; exact X.here
  have hlocals9 : W9 + (maxL + 11) + (headSpec ws rm).room.locals ≤ R.locals := hlocals
  have happ : (headSpec ws rm).appliesLoose y e.platform (U.calling g mk a) = true :=
    Spec.appliesLoose_calling (g := g) h hdg hn hkY hinitY
      (X.room_calling (g := g) (R' := (headSpec ws rm).room) hsize hmY hcY hframes (by rw [hlY]; omega) h4 h5) h1
  obtain ⟨mid, hmid⟩ := h.above
  have hfr : (U.setTop g).frames = (.java g :: mid) ++ below := by rw [State.frames_setTop' g h.top, hmid]; rfl
  obtain ⟨o, s₂, hsteps, -, hend, hq⟩ := Steps.callFree hM p X.admits X.cas X.clock (acts := []) hfr happ hPc trivial
  have hq' : vx_Q Qc XC mc ms free a (U.calling g mk a) o s₂ := hq
  rw [State.frames_setTop' g h.top] at hend
  obtain ⟨g₀, hg0⟩ := Option.isSome_iff_exists.mp h.top
  obtain ⟨r, hr⟩ := State.topJava?_eq_some.mp hg0
  have hr' : (({ U with heap := s₂.heap, slotsUsed := s₂.slotsUsed } : State).setVm s₂.vm).frames = .java g₀ :: r := hr
  rcases hq' with ⟨hqc, L, hfe, hL⟩ | ⟨q, rfl, E, ce, L, hx, hce, hcv, hcl, hW₂, hsm, hL⟩
  · obtain ⟨⟨v, rfl⟩, hW₂, e2, q2, q3, q4, q5, q6⟩ := id hfe
    have e3 : s₂ = ({ (U.calling g mk a).setFrames s₂.frames with heap := s₂.heap, slotsUsed := s₂.slotsUsed } : State).setVm s₂.vm := by
      have : s₂ = ({ s₂ with vm := (U.calling g mk a).vm } : State).setVm s₂.vm := rfl
      rw [e2] at this
      exact this
    obtain ⟨c₂, i₂, len₂, hc₂, hd₂, hf₂⟩ := hend
    have hW' : U.WarmedH s₂.vm := hW₂
    have hcc : c₂ = c := by
      have h1 : s₂.code? g.method = U.code? g.method := by
        rw [State.code?_eq, State.code?_eq, hW'.alike.method?]
      exact Option.some.inj (hc₂.symm.trans (h1.trans h.code))
    subst hcc
    have hlen : len₂ = len := by rw [hdg] at hd₂; cases hd₂; rfl
    subst hlen
    have hs₂ : s₂ = (({ U with heap := s₂.heap, slotsUsed := s₂.slotsUsed } : State).setVm s₂.vm).setTop { g with pc := g.pc + len₂, stack := v.toList ++ g.stack } := by
      refine e3.trans ?_
      rw [hf₂, State.calling_eq h.top, State.setFrames_setFrames, State.setTop_of_frames _ hr', hr]
      rfl
    have hsame : U.sameButNew ({ U with heap := s₂.heap, slotsUsed := s₂.slotsUsed } : State) L mc ms := by
      refine ⟨?_, q2, q3, q4, q5, q6⟩
      obtain ⟨t, ht, -⟩ := State.frames_cons hr
      show ({ U with heap := s₂.heap, slotsUsed := s₂.slotsUsed } : State) = { U.setFrames U.frames with heap := s₂.heap, slotsUsed := s₂.slotsUsed }
      rw [State.setFrames_self ht]
    subst hg
    refine Or.inl ⟨v, ⟨(({ U with heap := s₂.heap, slotsUsed := s₂.slotsUsed } : State).setVm s₂.vm), Ls ++ L, c0 + mc, s0 + ms⟩,
      ⟨X.admits, X.cas, X.clock, X.frames, X.room, X.hears, X.method, X.code, (X.here.setHeapUsed s₂.heap s₂.slotsUsed).setVm hW'.alike, X.tail, State.WarmedH.trans X.warmed hW', X.limits, X.bytes, X.same.trans (hsame.setVm s.vm)⟩,
      ⟨g, mk, s₂, L, rfl, rfl, hqc, rfl, hL, rfl, rfl⟩, ?_⟩
    show Steps p.tables e below _ ((({ U with heap := s₂.heap, slotsUsed := s₂.slotsUsed } : State).setVm s₂.vm).setTop { g with pc := g.pc + len₂, stack := v.toList ++ g.stack })
    rw [← hs₂]
    exact hsteps
  · obtain ⟨e2, q2, q3, q4, q5, q6⟩ := id hsm
    have e3 : s₂ = ({ (U.calling g mk a).setFrames s₂.frames with heap := s₂.heap, slotsUsed := s₂.slotsUsed } : State).setVm s₂.vm := by
      have : s₂ = ({ s₂ with vm := (U.calling g mk a).vm } : State).setVm s₂.vm := rfl
      rw [e2] at this
      exact this
    have hf₂ : s₂.frames = .throwing q :: .java g :: U.frames.tail := hend
    have hW' : U.WarmedH s₂.vm := hW₂
    have hs₂ : s₂ = ((({ U with heap := s₂.heap, slotsUsed := s₂.slotsUsed } : State).setVm s₂.vm).setTop g).pushFrame (.throwing q) := by
      refine e3.trans ?_
      rw [hf₂, State.calling_eq h.top, State.setFrames_setFrames, State.pushFrame, State.frames_setTop _ hr', State.setTop_of_frames _ hr', State.setFrames_setFrames, hr]
      rfl
    have hsame : U.sameButNew ({ U with heap := s₂.heap, slotsUsed := s₂.slotsUsed } : State) L mc ms := by
      refine ⟨?_, q2, q3, q4, q5, q6⟩
      obtain ⟨t, ht, -⟩ := State.frames_cons hr
      show ({ U with heap := s₂.heap, slotsUsed := s₂.slotsUsed } : State) = { U.setFrames U.frames with heap := s₂.heap, slotsUsed := s₂.slotsUsed }
      rw [State.setFrames_self ht]
    subst hg
    refine Or.inr ⟨q, ⟨(({ U with heap := s₂.heap, slotsUsed := s₂.slotsUsed } : State).setVm s₂.vm), Ls ++ L, c0 + mc, s0 + ms⟩,
      ⟨X.admits, X.cas, X.clock, X.frames, X.room, X.hears, X.method, X.code, (X.here.setHeapUsed s₂.heap s₂.slotsUsed).setVm hW'.alike, X.tail, State.WarmedH.trans X.warmed hW', X.limits, X.bytes, X.same.trans (hsame.setVm s.vm)⟩,
      ⟨g, mk, s₂, L, E, ce, rfl, rfl, hx, hce, hcv, hcl, rfl, hL, rfl, rfl⟩, ?_⟩
    show Steps p.tables e below _ (((({ U with heap := s₂.heap, slotsUsed := s₂.slotsUsed } : State).setVm s₂.vm).setTop g).pushFrame (.throwing q))
    rw [← hs₂]
    exact hsteps
end Payer
section Calls
variable {p : Program} {l : Launch} {e : Env} {R : Room} {s : State} {m : MethodId} {args : Array Value} {below : List Frame} {meth : Method} {c : Code} {T : State} {locs : List Loc} {cells slots : Nat}
theorem vx_callV (X : Stand p l e R s m args below meth c T locs cells slots) (hexec : p.tables.exec = Jvm.exec) {own C : String} {index : Nat} {y : MethodName} {bytes : ByteArray} {maxL : Nat} {ret : Option FieldType}
    (hown : s.vm.findClass own = some m.cls) (hlink : (Cond.methodLink own index y).before args s = true) (hinst : (Cond.instanceMethod y).before args s = true) (hsel : (Cond.selects C y y).before args s = true)
    (hcode : (Cond.code y bytes maxL ret).before args s = true) (hy : y.cls ≠ "java/lang/invoke/MethodHandle" ∧ y.cls ≠ "java/lang/invoke/VarHandle")
    {W9 : Nat} {Pre : Pt → Array Value → Prop} {Post : Pt → Array Value → Option Value → Pt → Prop} {PostX : Pt → Array Value → Addr → Pt → Prop} (hK : vx_Back l R p e below s args y 3 W9 Pre Post PostX)
    {b : Addr} {cellB : Cell} (hcell : T.heap[b]? = some cellB) (hobj : cellB.vm.isStatics = false) (hcls : s.vm.findClass C = some cellB.cls)
    {g : JFrame} (hg : g.method = m) (hsize : g.locals.size = c.maxLocals) {argsL rest : List Value} (hlen : ∀ sig, parseMethodDescriptor y.desc = some sig → argsL.length = sig.parameters.length)
    (hstack : g.stack = argsL.reverse ++ .ref b :: rest) (hW : 2 * g.monitorRoom + (rest.map fun v => v.category).sum ≤ W9) (hdg : decode c.code g.pc = .ok (.invokevirtual index, 3))
    (hpre : ∀ vm₁, s.WarmedH vm₁ → Pre ⟨T.setVm vm₁, locs, cells, slots⟩ (Value.ref b :: argsL).toArray) :
    (∃ (v : Option Value) (vm₁ : Vm) (B : Pt), s.WarmedH vm₁ ∧ Stand p l e R s m args below meth c B.U B.locs B.cells B.slots ∧ Post ⟨T.setVm vm₁, locs, cells, slots⟩ (Value.ref b :: argsL).toArray v B ∧
      ∀ target, Steps p.tables e below (B.U.setTop { g with pc := g.pc + 3, stack := v.toList ++ rest }) target → Steps p.tables e below (T.setTop g) target) ∨
    (∃ (q : Addr) (vm₁ : Vm) (B : Pt), s.WarmedH vm₁ ∧ Stand p l e R s m args below meth c B.U B.locs B.cells B.slots ∧ PostX ⟨T.setVm vm₁, locs, cells, slots⟩ (Value.ref b :: argsL).toArray q B ∧
      Steps p.tables e below (T.setTop g) ((B.U.setTop { g with stack := rest }).pushFrame (.throwing q))) := by
  obtain ⟨mk, methM, hnamed, hmethM, hstM, habM⟩ := Cond.instanceMethod_spec hinst
  obtain ⟨methM', cM, hmethM', -, -, -, -, -, -, hsigM⟩ := Cond.code_spec hnamed hcode
  cases hmethM.symm.trans hmethM'
  obtain ⟨c2, r2, m2, q1, q2, q3, q4, kP, hkP, hkPi⟩ := Cond.selects_spec hsel
  cases hcls.symm.trans q1
  cases (State.methodFound?_of_named hnamed hy).symm.trans q2
  cases hnamed.symm.trans q3
  have hselP : selectMethod e.platform s.vm cellB.cls mk = .method mk := by rw [Launch.admits_selectMethod X.admits]; exact q4
  obtain ⟨vm₁, X₁, hstep₁⟩ := X.invokevirtual hexec hown hlink hnamed hmethM hstM hkP hkPi hy (a := b) (cell := cellB) hcell
    (fun z h => by rw [h] at hobj; cases hobj) hselP hmethM habM hkP hkPi (g := g) hg (argsL := argsL) (rest := rest) (hlen _ hsigM) hstack hdg
  rcases hK m meth c ⟨T.setVm vm₁, locs, cells, slots⟩ { g with stack := rest } (.invokevirtual index) mk (Value.ref b :: argsL).toArray X₁ hg hsize hdg hW (X₁.named hnamed) (hpre vm₁ X₁.warmed) with ⟨v, B, X', hpost, hsteps⟩ | ⟨q, B, X', hpost, hsteps⟩
  · exact Or.inl ⟨v, vm₁, B, X₁.warmed, X', hpost, fun target h => hstep₁ _ fun acts => by rw [doInvoke_state]; exact hsteps.trans h⟩
  · exact Or.inr ⟨q, vm₁, B, X₁.warmed, X', hpost, hstep₁ _ fun acts => by rw [doInvoke_state]; exact hsteps⟩
theorem vx_callS (X : Stand p l e R s m args below meth c T locs cells slots) (hexec : p.tables.exec = Jvm.exec) {own : String} {index : Nat} {y : MethodName} {bytes : ByteArray} {maxL : Nat} {ret : Option FieldType}
    (hown : s.vm.findClass own = some m.cls) (hlink : (Cond.methodLink own index y).before args s = true) (hstat : (Cond.static y).before args s = true) (hinit : (Cond.initialized y.cls).before args s = true)
    (hcode : (Cond.code y bytes maxL ret).before args s = true) (hy : y.cls ≠ "java/lang/invoke/MethodHandle" ∧ y.cls ≠ "java/lang/invoke/VarHandle")
    {W9 : Nat} {Pre : Pt → Array Value → Prop} {Post : Pt → Array Value → Option Value → Pt → Prop} {PostX : Pt → Array Value → Addr → Pt → Prop} (hK : vx_Back l R p e below s args y 3 W9 Pre Post PostX)
    {g : JFrame} (hg : g.method = m) (hsize : g.locals.size = c.maxLocals) {argsL rest : List Value} (hlen : ∀ sig, parseMethodDescriptor y.desc = some sig → argsL.length = sig.parameters.length)
    (hstack : g.stack = argsL.reverse ++ rest) (hW : 2 * g.monitorRoom + (rest.map fun v => v.category).sum ≤ W9) (hdg : decode c.code g.pc = .ok (.invokestatic index, 3))
    (hpre : ∀ vm₁, s.WarmedH vm₁ → Pre ⟨T.setVm vm₁, locs, cells, slots⟩ argsL.toArray) :
    (∃ (v : Option Value) (vm₁ : Vm) (B : Pt), s.WarmedH vm₁ ∧ Stand p l e R s m args below meth c B.U B.locs B.cells B.slots ∧ Post ⟨T.setVm vm₁, locs, cells, slots⟩ argsL.toArray v B ∧
      ∀ target, Steps p.tables e below (B.U.setTop { g with pc := g.pc + 3, stack := v.toList ++ rest }) target → Steps p.tables e below (T.setTop g) target) ∨
    (∃ (q : Addr) (vm₁ : Vm) (B : Pt), s.WarmedH vm₁ ∧ Stand p l e R s m args below meth c B.U B.locs B.cells B.slots ∧ PostX ⟨T.setVm vm₁, locs, cells, slots⟩ argsL.toArray q B ∧
      Steps p.tables e below (T.setTop g) ((B.U.setTop { g with stack := rest }).pushFrame (.throwing q))) := by
  obtain ⟨mk, hnamed⟩ := Cond.code_named hcode
  obtain ⟨methM, cM, hmethM, -, -, -, -, -, -, hsigM⟩ := Cond.code_spec hnamed hcode
  have hstatic : methM.isStatic = true := Cond.static_spec hnamed hmethM hstat
  obtain ⟨kP, hkP, -⟩ := className_of_methodNamed hnamed
  have hinitP : kP.init = .initialized := Cond.initialized_spec (findClass_of_methodNamed hnamed) hkP hinit
  obtain ⟨vm₁, X₁, hstep₁⟩ := X.invokestatic hexec hown hlink hnamed hmethM hstatic hkP hinitP hy (g := g) hg (argsL := argsL) (rest := rest) (hlen _ hsigM) hstack hdg
  rcases hK m meth c ⟨T.setVm vm₁, locs, cells, slots⟩ { g with stack := rest } (.invokestatic index) mk argsL.toArray X₁ hg hsize hdg hW (X₁.named hnamed) (hpre vm₁ X₁.warmed) with ⟨v, B, X', hpost, hsteps⟩ | ⟨q, B, X', hpost, hsteps⟩
  · exact Or.inl ⟨v, vm₁, B, X₁.warmed, X', hpost, fun target h => hstep₁ _ fun acts => by rw [doInvoke_state]; exact hsteps.trans h⟩
  · exact Or.inr ⟨q, vm₁, B, X₁.warmed, X', hpost, hstep₁ _ fun acts => by rw [doInvoke_state]; exact hsteps⟩
end Calls
theorem vx_cls {s : State} {T : State} {vm₁ : Vm} {E : String} {k : ClassId} (hW : s.WarmedH vm₁) (h : (T.setVm vm₁).vm.findClass E = some k) : s.vm.findClass E = some k := by
  have h1 : vm₁.findClass E = some k := h
  rw [hW.alike.findClass] at h1
  exact h1
/-- the method's frame g, with q thrown over it -/
def vx_W (p : Program) (l : Launch) (e : Env) (R : Room) (s : State) (m : MethodId) (args : Array Value) (below : List Frame) (meth : Method) (c : Code) (H : Heap) (locs : List Loc) (cells slots : Nat) (Q : State → Prop) (g : JFrame) (q : Addr) : Prop :=
  ∀ T : State, T.heap = H → Stand p l e R s m args below meth c T locs cells slots → ∃ t, Steps p.tables e below ((T.setTop g).pushFrame (.throwing q)) t ∧ Q t
def vx_Run (p : Program) (l : Launch) (e : Env) (R : Room) (s : State) (m : MethodId) (args : Array Value) (below : List Frame) (meth : Method) (c : Code) (H : Heap) (locs : List Loc) (cells slots mc ms : Nat) (g : JFrame) (rest : List Value) (Qa : State → Outcome → State → Prop) (XC : String → State → State → Prop) (free : Addr → Prop) : Prop :=
  ∀ T : State, T.heap = H → Stand p l e R s m args below meth c T locs cells slots →
    (∃ (v : Option Value) (st₀ t T' : State) (L : List Loc), st₀.heap = H ∧ Stand p l e R s m args below meth c T' (locs ++ L) (cells + mc) (slots + ms) ∧ (∀ q ∈ L, free q.base) ∧ T'.heap = t.heap ∧ T'.vm = t.vm ∧ Qa st₀ (.returned v) t ∧
      Goes p e below T g T' { g with pc := g.pc + 3, stack := v.toList ++ rest }) ∨
    (∃ (q : Addr) (st₀ t T' : State) (L : List Loc) (E : String) (ce : Cell), st₀.heap = H ∧ Stand p l e R s m args below meth c T' (locs ++ L) (cells + mc) (slots + ms) ∧ (∀ z ∈ L, free z.base) ∧ T'.heap = t.heap ∧ T'.vm = t.vm ∧ XC E st₀ t ∧ t.heap[q]? = some ce ∧ ce.vm = .none ∧ s.vm.findClass E = some ce.cls ∧
      Steps p.tables e below (T.setTop g) ((T'.setTop { g with stack := rest }).pushFrame (.throwing q)))
def vx_X {S : Type} (px : S → Prop) (B : String → S → State → Prop) (A : Nat → Prop) : String → State → State → Prop := fun E st t => ∃ u : S, px u ∧ B E u t ∧ va_F A st t
section Runs
variable {p : Program} {l : Launch} {e : Env} {R : Room} {s : State} {m : MethodId} {args : Array Value} {below : List Frame} {meth : Method} {c : Code} {H : Heap} {locs : List Loc} {cells slots : Nat}
variable {y : MethodName} {bytes cc : ByteArray} {maxL nL mc ms n index : Nat} {ret : Option FieldType} {ws : List Cond} {rm : Room} {Pc : Array Value → State → Prop} {Qc : Array Value → State → Outcome → State → Prop} {XC : String → State → State → Prop} {free : Addr → Prop} {Ts : List Cond} {own C : String} {b : Addr} {As rest : List Value} {g : JFrame}
theorem vx_callBack (cb : CallB R s args own index y bytes maxL ret ws rm mc ms n) (hM : vx_Met l y ws rm Pc Qc XC mc ms free) (hbl : FrameBlind Pc) : vx_Back l R p e below s args y 3 8 (PreOf R mc ms Pc) (PostOf Qc mc ms free) (vx_Post XC mc ms free) := by
  obtain ⟨hrc, hrs, hfr, hlo, hws, hcw, -, hini, -⟩ := cb
  exact vx_back (bytes := bytes) (maxL := maxL) (ret := ret) hM hbl hrc hrs hfr hlo hws hcw (fun a' U hW => word_at hW (Or.inl (by first | rfl | simp [Cond.onTables, Cond.keeps, Cond.steady])) hini)
theorem vx_runV (S : CallFix p m c cc nL s args Ts own) (hM : vx_Met l y ws rm Pc Qc XC mc ms free) (cw : CallW R s args own C index y bytes maxL ret ws rm mc ms n) (hp : PreV s H C b Pc As)
    (hg : g.method = m) (hn : As.length = n) (hsize : g.locals.size = nL) (hstack : g.stack = As.reverse ++ .ref b :: rest) (hW : 2 * g.monitorRoom + (rest.map fun v => v.category).sum ≤ 8) (hdg : decode cc g.pc = .ok (.invokevirtual index, 3)) (hf : cells + mc ≤ R.cells ∧ slots + ms ≤ R.slots) :
    vx_Run p l e R s m args below meth c H locs cells slots mc ms g rest (Qc (Value.ref b :: As).toArray) XC free := by
  have hK : vx_Back l R p e below s args y 3 8 (PreOf R mc ms Pc) (PostOf Qc mc ms free) (vx_Post XC mc ms free) := vx_callBack cw.1 hM hp.1
  obtain ⟨⟨-, -, -, -, -, -, hcode, -, hy, hlen, hl⟩, hin, hse⟩ := cw
  obtain ⟨hx, hb, hml, ho, -⟩ := S
  obtain ⟨-, ⟨cellB, hcB, hoB, hclB⟩, hPc⟩ := hp
  intro T hT X
  rcases vx_callV X hx (C := C) (bytes := bytes) (maxL := maxL) (ret := ret) ho hl hin hse hcode hy hK (by rw [hT]; exact hcB) hoB hclB hg (hsize.trans hml.symm) (argsL := As) (rest := rest) (fun sig h => hn.trans (hlen sig h)) hstack hW (by rw [hb]; exact hdg)
    (fun vm₁ hW₁ => ⟨hf.1, hf.2, hPc (T.setVm vm₁) hT hW₁⟩) with ⟨v, vm₁, ⟨U', l2, c2, s2⟩, hW₁, X', ⟨g', mk, t, L, e1, e2, hq, h1, hL, h2, h3⟩, st⟩ | ⟨q, vm₁, ⟨U', l2, c2, s2⟩, hW₁, X', ⟨g', mk, t, L, E, ce, e1, e2, hq, hce, hcv, hcl, h1, hL, h2, h3⟩, st⟩
  · dsimp only [Pt.U, Pt.locs, Pt.cells, Pt.slots] at X' e1 e2 h1 h2 h3 st
    subst h1; subst h2; subst h3
    exact Or.inl ⟨v, (T.setVm vm₁).calling g' mk (Value.ref b :: As).toArray, t, U', L, hT, X', hL, e1, e2, hq, st⟩
  · dsimp only [Pt.U, Pt.locs, Pt.cells, Pt.slots] at X' e1 e2 h1 h2 h3 st hcl
    subst h1; subst h2; subst h3
    exact Or.inr ⟨q, (T.setVm vm₁).calling g' mk (Value.ref b :: As).toArray, t, U', L, E, ce, hT, X', hL, e1, e2, hq, hce, hcv, vx_cls hW₁ hcl, st⟩
theorem vx_runS (S : CallFix p m c cc nL s args Ts own) (hM : vx_Met l y ws rm Pc Qc XC mc ms free) (cw : CallB R s args own index y bytes maxL ret ws rm mc ms n ∧ (Cond.static y).before args s = true) (hp : PreS s H Pc As)
    (hg : g.method = m) (hn : As.length = n) (hsize : g.locals.size = nL) (hstack : g.stack = As.reverse ++ rest) (hW : 2 * g.monitorRoom + (rest.map fun v => v.category).sum ≤ 8) (hdg : decode cc g.pc = .ok (.invokestatic index, 3)) (hf : cells + mc ≤ R.cells ∧ slots + ms ≤ R.slots) :
    vx_Run p l e R s m args below meth c H locs cells slots mc ms g rest (Qc As.toArray) XC free := by
  have hK : vx_Back l R p e below s args y 3 8 (PreOf R mc ms Pc) (PostOf Qc mc ms free) (vx_Post XC mc ms free) := vx_callBack cw.1 hM hp.1
  obtain ⟨⟨-, -, -, -, -, -, hcode, hini, hy, hlen, hl⟩, hstt⟩ := cw
  obtain ⟨hx, hb, hml, ho, -⟩ := S
  intro T hT X
  rcases vx_callS X hx (bytes := bytes) (maxL := maxL) (ret := ret) ho hl hstt hini hcode hy hK hg (hsize.trans hml.symm) (argsL := As) (rest := rest) (fun sig h => hn.trans (hlen sig h)) hstack hW (by rw [hb]; exact hdg)
    (fun vm₁ hW₁ => ⟨hf.1, hf.2, hp.2 (T.setVm vm₁) hT hW₁⟩) with ⟨v, vm₁, ⟨U', l2, c2, s2⟩, hW₁, X', ⟨g', mk, t, L, e1, e2, hq, h1, hL, h2, h3⟩, st⟩ | ⟨q, vm₁, ⟨U', l2, c2, s2⟩, hW₁, X', ⟨g', mk, t, L, E, ce, e1, e2, hq, hce, hcv, hcl, h1, hL, h2, h3⟩, st⟩
  · dsimp only [Pt.U, Pt.locs, Pt.cells, Pt.slots] at X' e1 e2 h1 h2 h3 st
    subst h1; subst h2; subst h3
    exact Or.inl ⟨v, (T.setVm vm₁).calling g' mk As.toArray, t, U', L, hT, X', hL, e1, e2, hq, st⟩
  · dsimp only [Pt.U, Pt.locs, Pt.cells, Pt.slots] at X' e1 e2 h1 h2 h3 st hcl
    subst h1; subst h2; subst h3
    exact Or.inr ⟨q, (T.setVm vm₁).calling g' mk As.toArray, t, U', L, E, ce, hT, X', hL, e1, e2, hq, hce, hcv, vx_cls hW₁ hcl, st⟩
end Runs
section Rows
variable {p : Program} {l : Launch} {e : Env} {R : Room} {s : State} {m : MethodId} {args : Array Value} {below : List Frame} {meth : Method} {c : Code} {H : Heap} {locs : List Loc} {cells slots : Nat} {Q : State → Prop}
variable {mc ms : Nat} {free : Addr → Prop} {A0 A1 : Nat → Prop} {H0 : Heap} {a : Array Value} {pc : Nat} {ls : Array Slot} {st0 rest : List Value}
theorem vx_keep {st₀ t T' : State} {L : List Loc} (h0 : st₀.heap = H) (e1 : T'.heap = t.heap) (hS : va_S A0 H0 H locs) (hA : ∀ q, q < H.size → A1 q → A0 q) (hf : ∀ q, free q → A0 q) (hL : ∀ q ∈ L, free q.base) (hF : va_F A1 st₀ t) :
    H.size ≤ T'.heap.size ∧ (∀ q : Nat, q < H.size → ¬ A1 q → T'.heap[q]? = H[q]?) ∧ va_S A0 H0 T'.heap (locs ++ L) := by
  obtain ⟨hz, hk⟩ := hF
  rw [h0] at hz hk
  exact ⟨by rw [e1]; exact hz, fun q h1 h2 => by rw [e1]; exact hk q h1 h2,
    ⟨Nat.le_trans hS.1 (by rw [e1]; exact hz), fun q h1 h2 => by rw [e1, hk q (Nat.lt_of_lt_of_le h1 hS.1) (fun z => h2 (hA q (Nat.lt_of_lt_of_le h1 hS.1) z))]; exact hS.2.1 q h1 h2, fun q hq => by
      rcases List.mem_append.mp hq with h | h
      · exact hS.2.2 q h
      · exact hf _ (hL q h)⟩⟩
theorem vx_calli {S SX : Type} {post : Int32 → S → Prop} {px : SX → Prop} {B : S → State → Prop} {BX : String → SX → State → Prop} {AX : Nat → Prop} (hr : vx_Run p l e R s m args below meth c H locs cells slots mc ms (F0 m pc ls st0) rest (va_Qi post B A1 a) (vx_X px BX AX) free) (hS : va_S A0 H0 H locs) (hA : ∀ q, q < H.size → A1 q → A0 q) (hf : ∀ q, free q → A0 q) (hAX : ∀ q, q < H.size → AX q → A0 q)
    (kx : ∀ (E : String) (ce : Cell) (q9 : Addr) (u : SX) (t : State) (H1 : Heap) (locs1 : List Loc), t.heap = H1 → s.vm.Alike t.vm → px u → BX E u t → H.size ≤ H1.size → (∀ q : Nat, q < H.size → ¬ AX q → H1[q]? = H[q]?) → va_S A0 H0 H1 locs1 → H1[q9]? = some ce → ce.vm = .none → s.vm.findClass E = some ce.cls → vx_W p l e R s m args below meth c H1 locs1 (cells + mc) (slots + ms) Q (F0 m pc ls rest) q9)
    (kk : ∀ (r : Int32) (u : S) (t : State) (H1 : Heap) (locs1 : List Loc), t.heap = H1 → s.vm.Alike t.vm → post r u → B u t → H.size ≤ H1.size → (∀ q : Nat, q < H.size → ¬ A1 q → H1[q]? = H[q]?) → va_S A0 H0 H1 locs1 → W p l e R s m args below meth c H1 locs1 (cells + mc) (slots + ms) Q (F0 m (pc + 3) ls (.int r :: rest))) : W p l e R s m args below meth c H locs cells slots Q (F0 m pc ls st0) := by
  intro T hT X
  rcases hr T hT X with ⟨v, st₀, t, T', L, h0, X', hL, e1, e2, ⟨⟨r, u, hv, hp, hb⟩, hF⟩, st⟩ | ⟨q, st₀, t, T', L, E, ce, h0, X', hL, e1, e2, ⟨u, hp, hb, hF⟩, hce, hcv, hcl, st⟩
  · cases hv
    obtain ⟨k1, k2, k3⟩ := vx_keep h0 e1 hS hA hf hL hF
    obtain ⟨t2, a1, b1⟩ := kk r u t T'.heap (locs ++ L) e1.symm (by rw [← e2]; exact X'.warmed.alike) hp hb k1 k2 k3 T' rfl X'
    exact ⟨t2, st t2 a1, b1⟩
  · obtain ⟨k1, k2, k3⟩ := vx_keep h0 e1 hS hAX hf hL hF
    obtain ⟨t2, a1, b1⟩ := kx E ce q u t T'.heap (locs ++ L) e1.symm (by rw [← e2]; exact X'.warmed.alike) hp hb k1 k2 k3 (by rw [e1]; exact hce) hcv hcl T' rfl X'
    exact ⟨t2, st.trans a1, b1⟩
theorem vx_calll {S SX : Type} {post : Int64 → S → Prop} {px : SX → Prop} {B : S → State → Prop} {BX : String → SX → State → Prop} {AX : Nat → Prop} (hr : vx_Run p l e R s m args below meth c H locs cells slots mc ms (F0 m pc ls st0) rest (va_Ql post B A1 a) (vx_X px BX AX) free) (hS : va_S A0 H0 H locs) (hA : ∀ q, q < H.size → A1 q → A0 q) (hf : ∀ q, free q → A0 q) (hAX : ∀ q, q < H.size → AX q → A0 q)
    (kx : ∀ (E : String) (ce : Cell) (q9 : Addr) (u : SX) (t : State) (H1 : Heap) (locs1 : List Loc), t.heap = H1 → s.vm.Alike t.vm → px u → BX E u t → H.size ≤ H1.size → (∀ q : Nat, q < H.size → ¬ AX q → H1[q]? = H[q]?) → va_S A0 H0 H1 locs1 → H1[q9]? = some ce → ce.vm = .none → s.vm.findClass E = some ce.cls → vx_W p l e R s m args below meth c H1 locs1 (cells + mc) (slots + ms) Q (F0 m pc ls rest) q9)
    (kk : ∀ (r : Int64) (u : S) (t : State) (H1 : Heap) (locs1 : List Loc), t.heap = H1 → s.vm.Alike t.vm → post r u → B u t → H.size ≤ H1.size → (∀ q : Nat, q < H.size → ¬ A1 q → H1[q]? = H[q]?) → va_S A0 H0 H1 locs1 → W p l e R s m args below meth c H1 locs1 (cells + mc) (slots + ms) Q (F0 m (pc + 3) ls (.long r :: rest))) : W p l e R s m args below meth c H locs cells slots Q (F0 m pc ls st0) := by
  intro T hT X
  rcases hr T hT X with ⟨v, st₀, t, T', L, h0, X', hL, e1, e2, ⟨⟨r, u, hv, hp, hb⟩, hF⟩, st⟩ | ⟨q, st₀, t, T', L, E, ce, h0, X', hL, e1, e2, ⟨u, hp, hb, hF⟩, hce, hcv, hcl, st⟩
  · cases hv
    obtain ⟨k1, k2, k3⟩ := vx_keep h0 e1 hS hA hf hL hF
    obtain ⟨t2, a1, b1⟩ := kk r u t T'.heap (locs ++ L) e1.symm (by rw [← e2]; exact X'.warmed.alike) hp hb k1 k2 k3 T' rfl X'
    exact ⟨t2, st t2 a1, b1⟩
  · obtain ⟨k1, k2, k3⟩ := vx_keep h0 e1 hS hAX hf hL hF
    obtain ⟨t2, a1, b1⟩ := kx E ce q u t T'.heap (locs ++ L) e1.symm (by rw [← e2]; exact X'.warmed.alike) hp hb k1 k2 k3 (by rw [e1]; exact hce) hcv hcl T' rfl X'
    exact ⟨t2, st.trans a1, b1⟩
theorem vx_callf {S SX : Type} {post : UInt32 → S → Prop} {px : SX → Prop} {B : S → State → Prop} {BX : String → SX → State → Prop} {AX : Nat → Prop} (hr : vx_Run p l e R s m args below meth c H locs cells slots mc ms (F0 m pc ls st0) rest (va_Qf post B A1 a) (vx_X px BX AX) free) (hS : va_S A0 H0 H locs) (hA : ∀ q, q < H.size → A1 q → A0 q) (hf : ∀ q, free q → A0 q) (hAX : ∀ q, q < H.size → AX q → A0 q)
    (kx : ∀ (E : String) (ce : Cell) (q9 : Addr) (u : SX) (t : State) (H1 : Heap) (locs1 : List Loc), t.heap = H1 → s.vm.Alike t.vm → px u → BX E u t → H.size ≤ H1.size → (∀ q : Nat, q < H.size → ¬ AX q → H1[q]? = H[q]?) → va_S A0 H0 H1 locs1 → H1[q9]? = some ce → ce.vm = .none → s.vm.findClass E = some ce.cls → vx_W p l e R s m args below meth c H1 locs1 (cells + mc) (slots + ms) Q (F0 m pc ls rest) q9)
    (kk : ∀ (r : UInt32) (u : S) (t : State) (H1 : Heap) (locs1 : List Loc), t.heap = H1 → s.vm.Alike t.vm → post r u → B u t → H.size ≤ H1.size → (∀ q : Nat, q < H.size → ¬ A1 q → H1[q]? = H[q]?) → va_S A0 H0 H1 locs1 → W p l e R s m args below meth c H1 locs1 (cells + mc) (slots + ms) Q (F0 m (pc + 3) ls (.float r :: rest))) : W p l e R s m args below meth c H locs cells slots Q (F0 m pc ls st0) := by
  intro T hT X
  rcases hr T hT X with ⟨v, st₀, t, T', L, h0, X', hL, e1, e2, ⟨⟨r, u, hv, hp, hb⟩, hF⟩, st⟩ | ⟨q, st₀, t, T', L, E, ce, h0, X', hL, e1, e2, ⟨u, hp, hb, hF⟩, hce, hcv, hcl, st⟩
  · cases hv
    obtain ⟨k1, k2, k3⟩ := vx_keep h0 e1 hS hA hf hL hF
    obtain ⟨t2, a1, b1⟩ := kk r u t T'.heap (locs ++ L) e1.symm (by rw [← e2]; exact X'.warmed.alike) hp hb k1 k2 k3 T' rfl X'
    exact ⟨t2, st t2 a1, b1⟩
  · obtain ⟨k1, k2, k3⟩ := vx_keep h0 e1 hS hAX hf hL hF
    obtain ⟨t2, a1, b1⟩ := kx E ce q u t T'.heap (locs ++ L) e1.symm (by rw [← e2]; exact X'.warmed.alike) hp hb k1 k2 k3 (by rw [e1]; exact hce) hcv hcl T' rfl X'
    exact ⟨t2, st.trans a1, b1⟩
theorem vx_calld {S SX : Type} {post : UInt64 → S → Prop} {px : SX → Prop} {B : S → State → Prop} {BX : String → SX → State → Prop} {AX : Nat → Prop} (hr : vx_Run p l e R s m args below meth c H locs cells slots mc ms (F0 m pc ls st0) rest (va_Qd post B A1 a) (vx_X px BX AX) free) (hS : va_S A0 H0 H locs) (hA : ∀ q, q < H.size → A1 q → A0 q) (hf : ∀ q, free q → A0 q) (hAX : ∀ q, q < H.size → AX q → A0 q)
    (kx : ∀ (E : String) (ce : Cell) (q9 : Addr) (u : SX) (t : State) (H1 : Heap) (locs1 : List Loc), t.heap = H1 → s.vm.Alike t.vm → px u → BX E u t → H.size ≤ H1.size → (∀ q : Nat, q < H.size → ¬ AX q → H1[q]? = H[q]?) → va_S A0 H0 H1 locs1 → H1[q9]? = some ce → ce.vm = .none → s.vm.findClass E = some ce.cls → vx_W p l e R s m args below meth c H1 locs1 (cells + mc) (slots + ms) Q (F0 m pc ls rest) q9)
    (kk : ∀ (r : UInt64) (u : S) (t : State) (H1 : Heap) (locs1 : List Loc), t.heap = H1 → s.vm.Alike t.vm → post r u → B u t → H.size ≤ H1.size → (∀ q : Nat, q < H.size → ¬ A1 q → H1[q]? = H[q]?) → va_S A0 H0 H1 locs1 → W p l e R s m args below meth c H1 locs1 (cells + mc) (slots + ms) Q (F0 m (pc + 3) ls (.double r :: rest))) : W p l e R s m args below meth c H locs cells slots Q (F0 m pc ls st0) := by
  intro T hT X
  rcases hr T hT X with ⟨v, st₀, t, T', L, h0, X', hL, e1, e2, ⟨⟨r, u, hv, hp, hb⟩, hF⟩, st⟩ | ⟨q, st₀, t, T', L, E, ce, h0, X', hL, e1, e2, ⟨u, hp, hb, hF⟩, hce, hcv, hcl, st⟩
  · cases hv
    obtain ⟨k1, k2, k3⟩ := vx_keep h0 e1 hS hA hf hL hF
    obtain ⟨t2, a1, b1⟩ := kk r u t T'.heap (locs ++ L) e1.symm (by rw [← e2]; exact X'.warmed.alike) hp hb k1 k2 k3 T' rfl X'
    exact ⟨t2, st t2 a1, b1⟩
  · obtain ⟨k1, k2, k3⟩ := vx_keep h0 e1 hS hAX hf hL hF
    obtain ⟨t2, a1, b1⟩ := kx E ce q u t T'.heap (locs ++ L) e1.symm (by rw [← e2]; exact X'.warmed.alike) hp hb k1 k2 k3 (by rw [e1]; exact hce) hcv hcl T' rfl X'
    exact ⟨t2, st.trans a1, b1⟩
theorem vx_callv {S SX : Type} {post : S → Prop} {px : SX → Prop} {B : S → State → Prop} {BX : String → SX → State → Prop} {AX : Nat → Prop} (hr : vx_Run p l e R s m args below meth c H locs cells slots mc ms (F0 m pc ls st0) rest (va_Qv post B A1 a) (vx_X px BX AX) free) (hS : va_S A0 H0 H locs) (hA : ∀ q, q < H.size → A1 q → A0 q) (hf : ∀ q, free q → A0 q) (hAX : ∀ q, q < H.size → AX q → A0 q)
    (kx : ∀ (E : String) (ce : Cell) (q9 : Addr) (u : SX) (t : State) (H1 : Heap) (locs1 : List Loc), t.heap = H1 → s.vm.Alike t.vm → px u → BX E u t → H.size ≤ H1.size → (∀ q : Nat, q < H.size → ¬ AX q → H1[q]? = H[q]?) → va_S A0 H0 H1 locs1 → H1[q9]? = some ce → ce.vm = .none → s.vm.findClass E = some ce.cls → vx_W p l e R s m args below meth c H1 locs1 (cells + mc) (slots + ms) Q (F0 m pc ls rest) q9)
    (kk : ∀ (u : S) (t : State) (H1 : Heap) (locs1 : List Loc), t.heap = H1 → s.vm.Alike t.vm → post u → B u t → H.size ≤ H1.size → (∀ q : Nat, q < H.size → ¬ A1 q → H1[q]? = H[q]?) → va_S A0 H0 H1 locs1 → W p l e R s m args below meth c H1 locs1 (cells + mc) (slots + ms) Q (F0 m (pc + 3) ls (rest))) : W p l e R s m args below meth c H locs cells slots Q (F0 m pc ls st0) := by
  intro T hT X
  rcases hr T hT X with ⟨v, st₀, t, T', L, h0, X', hL, e1, e2, ⟨⟨u, hv, hp, hb⟩, hF⟩, st⟩ | ⟨q, st₀, t, T', L, E, ce, h0, X', hL, e1, e2, ⟨u, hp, hb, hF⟩, hce, hcv, hcl, st⟩
  · cases hv
    obtain ⟨k1, k2, k3⟩ := vx_keep h0 e1 hS hA hf hL hF
    obtain ⟨t2, a1, b1⟩ := kk u t T'.heap (locs ++ L) e1.symm (by rw [← e2]; exact X'.warmed.alike) hp hb k1 k2 k3 T' rfl X'
    exact ⟨t2, st t2 a1, b1⟩
  · obtain ⟨k1, k2, k3⟩ := vx_keep h0 e1 hS hAX hf hL hF
    obtain ⟨t2, a1, b1⟩ := kx E ce q u t T'.heap (locs ++ L) e1.symm (by rw [← e2]; exact X'.warmed.alike) hp hb k1 k2 k3 (by rw [e1]; exact hce) hcv hcl T' rfl X'
    exact ⟨t2, st.trans a1, b1⟩
/-- caught by the row x of this method's table; the rows ahead don't take it -/
theorem vx_catch {own name : String} {E : String} {ce : Cell} {q : Addr} (hown : s.vm.findClass own = some m.cls) (pre : List ExceptionTableEntry) (x : ExceptionTableEntry) (suf : List ExceptionTableEntry) (hsplit : c.exceptionTable.toList = pre ++ x :: suf)
    (hpass : ∀ z ∈ pre, covers z pc = false ∨ (z.catchType ≠ 0 ∧ ∃ nm : String, (Cond.classLink own z.catchType nm).before args s = true ∧ va_Nc E nm s)) (hx : covers x pc = true) (h0 : x.catchType ≠ 0)
    (hlink : (Cond.classLink own x.catchType name).before args s = true) (hcast : (Cond.castable E name).before args s = true) (hcell : H[q]? = some ce) (hv : ce.vm = .none) (hcl : s.vm.findClass E = some ce.cls)
    (kk : W p l e R s m args below meth c H locs cells slots Q (F0 m x.handlerPc ls [.ref q])) : vx_W p l e R s m args below meth c H locs cells slots Q (F0 m pc ls rest) q := by
  intro T hT X
  have hpl : e.platform.magicAccessors = ({} : Platform).magicAccessors := by rw [X.admits.platform]
  obtain ⟨c3, c4, hc3, hc4, hasg⟩ := Cond.castable_spec hcast
  cases Option.some.inj (hc3.symm.trans hcl)
  obtain ⟨c5, hc5, hcl5⟩ := Cond.classLink_spec hown hlink e.platform hpl
  cases Option.some.inj (hc4.symm.trans hc5)
  obtain ⟨vm', X', st⟩ := X.thenCaughtThrough q (g := F0 m pc ls rest) rfl (Steps.refl _) (by rw [hT]; exact hcell) (by rw [hv]; rfl) (by obtain ⟨k9, h9, -⟩ := Vm.findClass_spec hcl; exact ⟨k9, h9⟩) pre x suf hsplit
    (fun z hz => by
      rcases hpass z hz with h | ⟨hz0, nm, hl1, hn1⟩
      · exact Or.inl h
      · obtain ⟨c6, hc6, hcl6⟩ := Cond.classLink_spec hown hl1 e.platform hpl
        obtain ⟨a8, b8, h1, h2, h3⟩ := hn1
        cases Option.some.inj (h1.symm.trans hcl)
        cases Option.some.inj (h2.symm.trans hc6)
        exact Or.inr ⟨hz0, _, hcl6, h3⟩) hx (Or.inr ⟨h0, c4, hcl5, hasg⟩)
  obtain ⟨t, a1, b1⟩ := kk (T.setVm vm') hT X'
  exact ⟨t, st.trans a1, b1⟩
end Rows
section Ends
variable {p : Program} {l : Launch} {e : Env} {R : Room} {s : State} {m : MethodId} {args : Array Value} {below : List Frame} {meth : Method} {c : Code} {H : Heap} {locs : List Loc} {cells slots : Nat} {Q : State → Prop}
variable {mc ms : Nat} {free : Addr → Prop} {A0 A1 : Nat → Prop} {H0 : Heap} {a : Array Value} {ls : Array Slot} {st0 rest : List Value}
variable {Qc : Array Value → State → Outcome → State → Prop} {XC : String → State → State → Prop}
/-- what a body that may throw owes at its end -/
def vx_MQ (below : List Frame) (Qc : Array Value → State → Outcome → State → Prop) (XC : String → State → State → Prop) (a : Array Value) (s : State) (mc ms : Nat) (free : Addr → Prop) : State → Prop := fun t =>
  ∃ o, t.status = .running ∧ Ended t below o ∧ vx_Q Qc XC mc ms free a s o t
theorem vx_ret {g : JFrame} {mc ms : Nat} (k : W p l e R s m args below meth c H locs cells slots (MQ below Qc args s mc ms free) g) : W p l e R s m args below meth c H locs cells slots (vx_MQ below Qc XC args s mc ms free) g := by
  intro T hT X
  obtain ⟨t, a1, o, b1, b2, b3, b4⟩ := k T hT X
  exact ⟨t, a1, o, b1, b2, Or.inl ⟨b3, b4⟩⟩
/-- not caught here: it goes on to the caller -/
theorem vx_widen {g : JFrame} {q : Addr} {k n : Nat} (h1 : cells ≤ k) (h2 : slots ≤ n) (kk : vx_W p l e R s m args below meth c H locs k n Q g q) : vx_W p l e R s m args below meth c H locs cells slots Q g q := fun T hT X => kk T hT (stand_widen X h1 h2)
theorem vx_out {pc : Nat} {E : String} {ce : Cell} {q : Addr} {mc ms : Nat} (hout : ∀ x ∈ c.exceptionTable.toList, covers x pc = false) (hlocks : meth.locks = false) (hcell : H[q]? = some ce) (hv : ce.vm = .none) (hcl : s.vm.findClass E = some ce.cls)
    (hx : ∀ t : State, t.heap = H → s.vm.Alike t.vm → XC E s t) (hf : ∀ z ∈ locs, free z.base) (hc : cells ≤ mc) (hs : slots ≤ ms) :
    vx_W p l e R s m args below meth c H locs cells slots (vx_MQ below Qc XC args s mc ms free) (F0 m pc ls rest) q := by
  intro T hT X
  obtain ⟨st1, hrun, hend, hW, hsm⟩ := X.leaveThrown q (g := F0 m pc ls rest) rfl rfl rfl hout hlocks
  have hcell9 : (T.setFrames (.throwing q :: below)).heap[q]? = some ce := by
    show T.heap[q]? = some ce
    rw [hT]; exact hcell
  exact ⟨_, st1, .threw q, hrun, hend, Or.inr ⟨q, rfl, E, ce, locs, hx _ hT hW.alike, hcell9, hv, hcl, hW, hsm.mono hc hs, hf⟩⟩
theorem vx_frame {U : State} {k n : Nat} (h : s.sameButNew ({ U with vm := s.vm } : State) locs k n) : s.heap.size ≤ U.heap.size ∧ ∀ q : Nat, q < s.heap.size → (∀ z ∈ locs, z.base ≠ q) → U.heap[q]? = s.heap[q]? := by
  obtain ⟨-, h2, -, -, -, h6⟩ := h
  refine ⟨h2, fun q hq hz => ?_⟩
  obtain ⟨c9, e1, e2, e3, e4⟩ := h6 q _ (Array.getElem?_eq_getElem hq)
  have hs : c9.slots = (s.heap[q]).slots := Array.ext_getElem? fun i => e4 i fun hm => hz _ hm rfl
  have h9 : c9 = s.heap[q] := by
    rw [hs] at e2
    exact e2
  have e5 : U.heap[q]? = some c9 := e1
  rw [e5, h9, Array.getElem?_eq_getElem hq]
/-- the words of a throw but the four that speak of the heap -/
def vx_no (w : Cond) : Bool := decide (w ≠ .isRef (.static Bundle.tN "UNASSIGNED_STACK" Bundle.steD)) && decide (w ≠ .isRef (.static Bundle.tN "SUPPRESSED_SENTINEL" Bundle.listD)) && decide (w ≠ .laysStatic Bundle.tN "UNASSIGNED_STACK" Bundle.steD) && decide (w ≠ .laysStatic Bundle.tN "SUPPRESSED_SENTINEL" Bundle.listD)
def vx_at0 (own : String) (ic : Nat) (X : String) (names : List String) : List Cond := (Bundle.ownAtoms0 own ic X names).filter vx_no
def vx_atS (own : String) (ic : Nat) (X : String) (names : List String) : List Cond := (Bundle.ownAtoms own ic X names).filter vx_no
/-- a word that the tables alone decide, or a good one -/
def vx_ot (w : Cond) : Bool := w.onTables || goodWord w
theorem vx_ot_at {args a' : Array Value} {s U : State} {w : Cond} (hW : s.WarmedH U.vm) (hvm : s.vm = U.vm) (hg : vx_ot w = true) (h : w.before args s = true) : w.before a' U = true := by
  simp only [vx_ot, Bool.or_eq_true] at hg
  rcases hg with hg | hg
  · exact va_tabs hg hvm h
  · exact word_at hW (good_of_word hg) h
/-- a list's words: the good ones out of the method's own list, the others by premises of their own -/
theorem vx_hat {args : Array Value} {s : State} {L B : List Cond} (h1 : ∀ w ∈ L.filter goodWord, w.before args s = true) (h2 : ∀ w ∈ L.filter (fun w => !goodWord w), w ∈ B) (h3 : ∀ w ∈ B, w.before args s = true) : ∀ w ∈ L, w.before args s = true := by
  intro w hw
  by_cases g : goodWord w = true
  · exact h1 w (List.mem_filter.mpr ⟨hw, g⟩)
  · refine h3 w (h2 w (List.mem_filter.mpr ⟨hw, ?_⟩))
    show (!goodWord w) = true
    cases hgw : goodWord w
    · rfl
    · exact absurd hgw g
theorem vx_c {args : Array Value} {s : State} {w : Cond} {B : List Cond} (h : w.before args s = true) (t : ∀ w ∈ B, w.before args s = true) : ∀ w' ∈ w :: B, w'.before args s = true := fun w' h' => (List.mem_cons.mp h').elim (fun e => by rw [e]; exact h) (t w')
theorem vx_n {args : Array Value} {s : State} : ∀ w ∈ ([] : List Cond), w.before args s = true := fun _ h => nomatch h
theorem vx_own {args : Array Value} {s : State} {L : List Cond} (h1 : ∀ w ∈ L.filter vx_no, w.before args s = true)
    (hU : (Cond.isRef (.static Bundle.tN "UNASSIGNED_STACK" Bundle.steD)).before args s = true) (hN : (Cond.isRef (.static Bundle.tN "SUPPRESSED_SENTINEL" Bundle.listD)).before args s = true)
    (lU : (Cond.laysStatic Bundle.tN "UNASSIGNED_STACK" Bundle.steD).before args s = true) (lN : (Cond.laysStatic Bundle.tN "SUPPRESSED_SENTINEL" Bundle.listD).before args s = true) : ∀ w ∈ L, w.before args s = true := by
  intro w hw
  by_cases e1 : w = .isRef (.static Bundle.tN "UNASSIGNED_STACK" Bundle.steD)
  · rw [e1]; exact hU
  · by_cases e2 : w = .isRef (.static Bundle.tN "SUPPRESSED_SENTINEL" Bundle.listD)
    · rw [e2]; exact hN
    · by_cases e3 : w = .laysStatic Bundle.tN "UNASSIGNED_STACK" Bundle.steD
      · rw [e3]; exact lU
      · by_cases e4 : w = .laysStatic Bundle.tN "SUPPRESSED_SENTINEL" Bundle.listD
        · rw [e4]; exact lN
        · exact h1 w (List.mem_filter.mpr ⟨hw, by unfold vx_no; rw [decide_eq_true e1, decide_eq_true e2, decide_eq_true e3, decide_eq_true e4]; rfl⟩)
/-- where a static field lies, its class's statics cell in H -/
def vx_L (C n d : String) (A : Nat → Prop) (U : State) (H : Heap) : Prop := ∃ (c : ClassId) (k : Class) (i : Nat) (f : Field) (a : Nat) (cell : Cell), U.vm.findClass C = some c ∧ U.fieldFound? C n d = some (c, k, i, f) ∧ f.isStatic = true ∧ k.statics = some a ∧ H[a]? = some cell ∧ cell.vm.isStatics = true ∧ cell.cls = c ∧ f.slot < cell.slots.size ∧ k.staticTypes[f.slot]? = some f.type ∧ ¬ A a
theorem vx_L.moved {C n d : String} {A : Nat → Prop} {u U : State} {H : Heap} (hvm : u.vm.Alike U.vm) (h : vx_L C n d A u H) : vx_L C n d A U H := by
  obtain ⟨c, k, i, f, a, cell, h1, h2, h3, h4, h5, h6, h7, h8, h9, h10⟩ := h
  obtain ⟨k', hi', he⟩ := State.fieldFound?_setVm hvm h2
  exact ⟨c, k', i, f, a, cell, by rw [hvm.findClass]; exact h1, hi', h3, by rw [he]; exact h4, h5, h6, h7, h8, by rw [he]; exact h9, h10⟩
theorem vx_L.kept {C n d : String} {A : Nat → Prop} {U : State} {H H1 : Heap} (h : vx_L C n d A U H) (hq : ∀ a : Nat, a < H.size → ¬ A a → H1[a]? = H[a]?) : vx_L C n d A U H1 := by
  obtain ⟨c, k, i, f, a, cell, h1, h2, h3, h4, h5, h6, h7, h8, h9, h10⟩ := h
  exact ⟨c, k, i, f, a, cell, h1, h2, h3, h4, by rw [hq a (Array.getElem?_eq_some_iff.mp h5).1 h10]; exact h5, h6, h7, h8, h9, h10⟩
theorem vx_L.narrow {C n d : String} {A B : Nat → Prop} {U : State} {H : Heap} (h : vx_L C n d A U H) (hAB : ∀ q, B q → A q) : vx_L C n d B U H := by
  obtain ⟨c, k, i, f, a, cell, h1, h2, h3, h4, h5, h6, h7, h8, h9, h10⟩ := h
  exact ⟨c, k, i, f, a, cell, h1, h2, h3, h4, h5, h6, h7, h8, h9, fun z => h10 (hAB _ z)⟩
theorem vx_L.word {C n d : String} {A : Nat → Prop} {s : State} {args : Array Value} (h : vx_L C n d A s s.heap) : (Cond.laysStatic C n d).before args s = true := by
  obtain ⟨c, k, i, f, a, cell, h1, h2, h3, h4, h5, h6, h7, h8, h9, -⟩ := h
  show (Cond.laysStatic C n d).holds args s none s [] = true
  exact Cond.laysStatic_of h1 h2 h3 h4 h5 h6 h7 h8 h9
/-- .. and what it holds: null or some reference -/
def vx_Zq (C n d : String) (A : Nat → Prop) (U : State) (H : Heap) : Prop := va_Zq C n d A U H ∧ vx_L C n d A U H
theorem vx_Zq.moved {C n d : String} {A : Nat → Prop} {u U : State} {H : Heap} (hvm : u.vm.Alike U.vm) (h : vx_Zq C n d A u H) : vx_Zq C n d A U H := ⟨va_Zq.moved hvm h.1, vx_L.moved hvm h.2⟩
theorem vx_Zq.kept {C n d : String} {A : Nat → Prop} {U : State} {H H1 : Heap} (h : vx_Zq C n d A U H) (hq : ∀ a : Nat, a < H.size → ¬ A a → H1[a]? = H[a]?) : vx_Zq C n d A U H1 := ⟨va_Zq.kept h.1 hq, vx_L.kept h.2 hq⟩
theorem vx_Zq.narrow {C n d : String} {A B : Nat → Prop} {U : State} {H : Heap} (h : vx_Zq C n d A U H) (hAB : ∀ q, B q → A q) : vx_Zq C n d B U H := ⟨va_Zq.narrow h.1 hAB, vx_L.narrow h.2 hAB⟩
theorem vx_Zqof {args : Array Value} {s : State} {C n d : String} {A : Nat → Prop} (hl : (Cond.laysStatic C n d).before args s = true) (hini : (Cond.initialized C).before args s = true) (h : (Cond.isRef (.static C n d)).before args s = true) (hA : ∀ a : Nat, a < s.heap.size → ¬ A a) : vx_Zq C n d A s s.heap := by
  refine ⟨va_Zqof hl hini h hA, ?_⟩
  obtain ⟨c, k, i, f, a, cell, h1, h2, h3, h4, h5, h6, h7, h8, h9⟩ := Cond.laysStatic_spec hl
  exact ⟨c, k, i, f, a, cell, h1, h2, h3, h4, h5, h6, h7, h8, h9, hA a (Array.getElem?_eq_some_iff.mp h5).1⟩
theorem vx_isRef {C n d : String} {v : Value} {A : Nat → Prop} {s : State} {args : Array Value} (h : va_Z C n d v A s s.heap) (hv : v.isRef = true) : (Cond.isRef (.static C n d)).before args s = true := by
  obtain ⟨cf, kf, fi, f, a, cell, h1, h2, h3, h4, h5, h6, h7, -⟩ := h
  have he : (Term.static C n d).eval args s none [] s = some v := by
    simp [Term.eval, State.fieldNamed?, h1, h2, h4, h5, h6, h7]
  simp only [Cond.before, Cond.holds, Cond.value, he]
  cases v <;> simp_all [Value.isRef]
theorem vx_isRefq {C n d : String} {A : Nat → Prop} {s : State} {args : Array Value} (h : va_Zq C n d A s s.heap) : (Cond.isRef (.static C n d)).before args s = true := by
  rcases h with h | ⟨t, h⟩
  · exact vx_isRef h rfl
  · exact vx_isRef h rfl
/-- the same frame, seen from here: as if the method were called anew in this heap -/
theorem vx_rebase {T : State} (X : Stand p l e R s m args below meth c T locs cells slots) {R' : Room} (hf : R'.frames ≤ R.frames) (hl : R'.locals ≤ R.locals) (hc : cells + R'.cells ≤ R.cells) (hs : slots + R'.slots ≤ R.slots) :
    Stand p l e R' ((T.setVm s.vm).setFrames (.invoking m args :: below)) m args below meth c T [] 0 0 := by
  have htop : (T.setVm s.vm).topJava?.isSome := X.here.top
  have hF : ((T.setVm s.vm).setFrames (.invoking m args :: below)).frames = .invoking m args :: below := State.frames_setFrames _ (State.cur_lt_of_top htop)
  obtain ⟨g₀, hg0⟩ := Option.isSome_iff_exists.mp htop
  obtain ⟨r, hr⟩ := State.topJava?_eq_some.mp hg0
  have hl9 : e.platform.stackLimits (T.setVm s.vm).me = e.platform.stackLimits s.me := X.limits
  have hb9 : (T.setVm s.vm).me.stackBytes = s.me.stackBytes := X.bytes
  refine ⟨X.admits, X.cas, X.clock, hF, ?_, X.hears, X.method, X.code, X.here, X.tail, X.warmed, ?_, ?_, ?_⟩
  · have h := X.room
    have hU : ((T.setVm s.vm).setFrames (.invoking m args :: below)).localsInUse = s.localsInUse := by
      rw [State.localsInUse_invoking hF (meth := meth) (c := c) X.method X.code, State.localsInUse_invoking X.frames X.method X.code]
    simp only [State.hasRoom, Bool.and_eq_true, decide_eq_true_eq] at h ⊢
    obtain ⟨⟨⟨⟨h1, h2, h3, h4, h5, h6⟩, h7⟩, h8⟩, h9⟩ := h
    rw [X.frames, List.length_cons] at h2 h3
    have q1 := X.heapSize
    have q2 := X.used
    simp only [hF, hU, List.length_cons, State.stackLimits_setFrames, State.stackBytes_setFrames, hl9, hb9]
    refine ⟨⟨⟨⟨by omega, by omega, by omega, by omega, by omega, h6⟩, ?_⟩, ?_⟩, X.book⟩
    · show T.heap.size + R'.cells ≤ e.platform.maxCells
      omega
    · show T.slotsUsed + R'.slots ≤ e.platform.maxSlots
      omega
  · rw [State.stackLimits_setFrames]; rfl
  · rw [State.stackBytes_setFrames]; rfl
  · refine ⟨?_, Nat.le_refl _, Nat.le_refl _, ?_, ?_, fun a c9 h9 => ⟨c9, h9, rfl, rfl, fun _ _ => rfl⟩⟩
    · obtain ⟨t, ht, -⟩ := State.frames_cons hr
      show T.setVm s.vm = { ((T.setVm s.vm).setFrames (.invoking m args :: below)).setFrames (T.setVm s.vm).frames with heap := T.heap, slotsUsed := T.slotsUsed }
      rw [State.setFrames_setFrames, State.setFrames_self ht]
      rfl
    · show T.slotsUsed = T.slotsUsed + ((T.heap.toList.drop T.heap.size).map (·.slots.size)).sum
      rw [List.drop_eq_nil_of_le (Nat.le_of_eq Array.length_toList)]
      rfl
    · show ((T.heap.toList.drop T.heap.size).map (·.slots.size)).sum ≤ 0
      rw [List.drop_eq_nil_of_le (Nat.le_of_eq Array.length_toList)]
      exact Nat.le_refl _
/-- 'throw new E()': new; dup; invokespecial; athrow -/
theorem vx_throw0 {cc : ByteArray} {pc : Nat} (hexec : p.tables.exec = Jvm.exec) (hb : c.code = cc) (hl : l.stackTraces = false) {own cls : String} {names : List String} {ik ic mc ms : Nat} {A : Nat → Prop}
    (hown : s.vm.findClass own = some m.cls) (hcls : Bundle.fit cls = true) (hnames : ∀ n ∈ names, Bundle.fit n = true)
    (hk : (Cond.classLink own ik cls).before args s = true) (hini : (Cond.initialized cls).before args s = true) (hat : ∀ w ∈ vx_at0 own ic cls names, w.before args s = true)
    (hgood : ∀ w ∈ Cond.classLink own ik cls :: Cond.initialized cls :: vx_at0 own ic cls names, vx_ot w = true)
    (hU : vx_Zq Bundle.tN "UNASSIGNED_STACK" Bundle.steD A s s.heap) (hN : vx_Zq Bundle.tN "SUPPRESSED_SENTINEL" Bundle.listD A s s.heap) (hS : va_S A s.heap H locs) (hsize : ls.size = c.maxLocals)
    (d0 : decode cc pc = .ok (.new ik, 3)) (d3 : decode cc (pc + 3) = .ok (.dup, 1)) (d4 : decode cc (pc + 4) = .ok (.invokespecial ic, 3)) (d7 : decode cc (pc + 7) = .ok (.athrow, 1))
    (hout : ∀ x ∈ c.exceptionTable.toList, covers x (pc + 7) = false)
    (hRframes : names.length + 3 < R.frames) (hRlocals : (rest.map fun v => v.category).sum + (13 * (names.length + 1) + 42) ≤ R.locals) (hRcells : cells + 1 ≤ R.cells) (hRslots : slots + 6 ≤ R.slots) (hlocks : meth.locks = false)
    (hx : ∀ t : State, s.vm.Alike t.vm → H.size ≤ t.heap.size → (∀ q : Nat, q < H.size → t.heap[q]? = H[q]?) → XC cls s t)
    (hf : ∀ z ∈ locs, free z.base) (hc : cells + 1 ≤ mc) (hs : slots + 6 ≤ ms) :
    W p l e R s m args below meth c H locs cells slots (vx_MQ below Qc XC args s mc ms free) (F0 m pc ls rest) := by
  intro T hT X
  have htr : e.platform.stackTraces = false := (show e.platform.stackTraces = l.stackTraces by rw [X.admits.platform]).trans hl
  have Y := vx_rebase X (R' := { frames := R.frames, locals := R.locals, cells := 1, slots := 6 }) (Nat.le_refl _) (Nat.le_refl _) hRcells hRslots
  obtain ⟨s', hA⟩ : ∃ z, z = (T.setVm s.vm).setFrames (.invoking m args :: below) := ⟨_, rfl⟩
  rw [← hA] at Y
  have hvm : s'.vm = s.vm := by rw [hA]; rfl
  have hhp : s'.heap = H := by rw [hA]; exact hT
  have hW0 : s.WarmedH s'.vm := by rw [hvm]; exact State.WarmedH.refl s
  have hat' : ∀ w ∈ vx_at0 own ic cls names, w.before args s' = true := fun w hw => vx_ot_at hW0 hvm.symm (hgood w (List.mem_cons_of_mem _ (List.mem_cons_of_mem _ hw))) (hat w hw)
  have hk' : (Cond.classLink own ik cls).before args s' = true := vx_ot_at hW0 hvm.symm (hgood _ List.mem_cons_self) hk
  have hini' : (Cond.initialized cls).before args s' = true := vx_ot_at hW0 hvm.symm (hgood _ (List.mem_cons_of_mem _ List.mem_cons_self)) hini
  have hU' : vx_Zq Bundle.tN "UNASSIGNED_STACK" Bundle.steD A s' s'.heap := by rw [hhp]; exact vx_Zq.moved hW0.alike (hU.kept hS.2.1)
  have hN' : vx_Zq Bundle.tN "SUPPRESSED_SENTINEL" Bundle.listD A s' s'.heap := by rw [hhp]; exact vx_Zq.moved hW0.alike (hN.kept hS.2.1)
  have h : ∀ w ∈ Bundle.ownAtoms0 own ic cls names, w.before args s' = true := vx_own hat' (vx_isRefq hU'.1) (vx_isRefq hN'.1) hU'.2.word hN'.2.word
  have hown' : s'.vm.findClass own = some m.cls := by rw [hvm]; exact hown
  have hins : (Cond.instantiable cls 6).before args s' = true := h _ (by simp [Bundle.ownAtoms0])
  obtain ⟨vm₁, cX, kX, hfX, hkX, -, -, X₁, st1⟩ := Y.newCold hexec (own := own) (C := cls) (index := ik) (n := 6) hown' hk' hins hini'
    (g := F0 m pc ls rest) rfl (by rw [hb]; exact d0) (Nat.le_refl _) (Nat.le_refl _)
  generalize hT1 : (T.setVm vm₁).pushCell { cls := cX, slots := kX.instanceTypes.map defaultValue, vm := .none } = T1 at X₁ st1
  have hcat : (Value.ref T.heap.size).category = 1 := rfl
  have hcellA : T1.heap[T.heap.size]? = some (freshCell cX kX) := by rw [← hT1]; exact State.heap_pushCell_size _ _
  have d3' : decode c.code (pc + 3) = .ok (.dup, 1) := by rw [hb]; exact d3
  obtain ⟨U, hsteps, hrun, hend, hW, hsame, ce, hce, hO⟩ := X₁.ctorThrow0 hexec htr (own := own) (cls := cls) (names := names) (ic := ic) hown' hcls hnames h (fun x hx => nomatch hx) hfX hkX hcellA (by rw [hhp, hT]; exact Nat.le_refl _)
    (g := { method := m, pc := pc + 4, locals := ls, stack := .ref T.heap.size :: .ref T.heap.size :: rest, locked := none }) rfl hsize rfl rfl (rest := rest) rfl
    (by rw [hb]; exact d4) (by rw [hb]; exact d7) hout hRframes (by simp only [List.map_cons, List.sum_cons, hcat]; omega) hlocks
  obtain ⟨f1, f2⟩ := vx_frame hsame
  rw [hhp] at f1 f2
  have hWs : s.WarmedH U.vm := State.WarmedH.trans hW0 hW
  have hcl : s.vm.findClass cls = some ce.cls := by
    have h9 := hO.cls
    rw [hvm] at h9
    exact h9
  have hall : s.sameButNew ({ U with vm := s.vm } : State) locs mc ms := by
    subst hA
    obtain ⟨e1, e2⟩ := hsame
    rw [State.setFrames_setFrames] at e1
    have h2 : (T.setVm s.vm).sameButNew ({ U with vm := s.vm } : State) [] (0 + 1) (0 + 6) := ⟨e1, e2⟩
    have h3 := X.same.trans h2
    rw [List.append_nil] at h3
    exact h3.mono hc hs
  refine ⟨U, ?_, .threw T.heap.size, hrun, hend, Or.inr ⟨T.heap.size, rfl, cls, ce, locs, hx U hWs.alike f1 (fun q hq => f2 q hq (fun z hz => nomatch hz)), hce, hO.vm, hcl, hWs, hall, hf⟩⟩
  refine st1 _ ?_
  show Steps p.tables e below (T1.setTop { method := m, pc := pc + 3, locals := ls, stack := .ref T.heap.size :: rest, locked := none }) _
  jvm_step X₁.here [X₁.here.top, hexec, d3', Value.category]
  exact hsteps
/-- 'throw new E("text")': new; dup; ldc; invokespecial; athrow -/
theorem vx_throwS {cc : ByteArray} {pc : Nat} (hexec : p.tables.exec = Jvm.exec) (hb : c.code = cc) (hl : l.stackTraces = false) {own cls text : String} {names : List String} {ik is ic mc ms sa : Nat} {A : Nat → Prop}
    (hown : s.vm.findClass own = some m.cls) (hcls : Bundle.fit cls = true) (hnames : ∀ n ∈ names, Bundle.fit n = true)
    (hk : (Cond.classLink own ik cls).before args s = true) (hini : (Cond.initialized cls).before args s = true) (hstr : vk_R own is text sa s) (hat : ∀ w ∈ vx_atS own ic cls names, w.before args s = true)
    (hgood : ∀ w ∈ Cond.classLink own ik cls :: Cond.initialized cls :: vx_atS own ic cls names, vx_ot w = true)
    (hU : vx_Zq Bundle.tN "UNASSIGNED_STACK" Bundle.steD A s s.heap) (hN : vx_Zq Bundle.tN "SUPPRESSED_SENTINEL" Bundle.listD A s s.heap) (hS : va_S A s.heap H locs) (hsize : ls.size = c.maxLocals)
    (d0 : decode cc pc = .ok (.new ik, 3)) (d3 : decode cc (pc + 3) = .ok (.dup, 1)) (d4 : decode cc (pc + 4) = .ok (.ldc is, 2)) (d6 : decode cc (pc + 6) = .ok (.invokespecial ic, 3)) (d9 : decode cc (pc + 9) = .ok (.athrow, 1))
    (hout : ∀ x ∈ c.exceptionTable.toList, covers x (pc + 9) = false)
    (hRframes : names.length + 3 < R.frames) (hRlocals : (rest.map fun v => v.category).sum + (13 * (names.length + 1) + 43) ≤ R.locals) (hRcells : cells + 1 ≤ R.cells) (hRslots : slots + 6 ≤ R.slots) (hlocks : meth.locks = false)
    (hx : ∀ t : State, s.vm.Alike t.vm → H.size ≤ t.heap.size → (∀ q : Nat, q < H.size → t.heap[q]? = H[q]?) → XC cls s t)
    (hf : ∀ z ∈ locs, free z.base) (hc : cells + 1 ≤ mc) (hs : slots + 6 ≤ ms) :
    W p l e R s m args below meth c H locs cells slots (vx_MQ below Qc XC args s mc ms free) (F0 m pc ls rest) := by
  intro T hT X
  have htr : e.platform.stackTraces = false := (show e.platform.stackTraces = l.stackTraces by rw [X.admits.platform]).trans hl
  have Y := vx_rebase X (R' := { frames := R.frames, locals := R.locals, cells := 1, slots := 6 }) (Nat.le_refl _) (Nat.le_refl _) hRcells hRslots
  obtain ⟨s', hA⟩ : ∃ z, z = (T.setVm s.vm).setFrames (.invoking m args :: below) := ⟨_, rfl⟩
  rw [← hA] at Y
  have hvm : s'.vm = s.vm := by rw [hA]; rfl
  have hhp : s'.heap = H := by rw [hA]; exact hT
  have hW0 : s.WarmedH s'.vm := by rw [hvm]; exact State.WarmedH.refl s
  have hat' : ∀ w ∈ vx_atS own ic cls names, w.before args s' = true := fun w hw => vx_ot_at hW0 hvm.symm (hgood w (List.mem_cons_of_mem _ (List.mem_cons_of_mem _ hw))) (hat w hw)
  have hk' : (Cond.classLink own ik cls).before args s' = true := vx_ot_at hW0 hvm.symm (hgood _ List.mem_cons_self) hk
  have hini' : (Cond.initialized cls).before args s' = true := vx_ot_at hW0 hvm.symm (hgood _ (List.mem_cons_of_mem _ List.mem_cons_self)) hini
  have hU' : vx_Zq Bundle.tN "UNASSIGNED_STACK" Bundle.steD A s' s'.heap := by rw [hhp]; exact vx_Zq.moved hW0.alike (hU.kept hS.2.1)
  have hN' : vx_Zq Bundle.tN "SUPPRESSED_SENTINEL" Bundle.listD A s' s'.heap := by rw [hhp]; exact vx_Zq.moved hW0.alike (hN.kept hS.2.1)
  have h : ∀ w ∈ Bundle.ownAtoms own ic cls names, w.before args s' = true := vx_own hat' (vx_isRefq hU'.1) (vx_isRefq hN'.1) hU'.2.word hN'.2.word
  have hown' : s'.vm.findClass own = some m.cls := by rw [hvm]; exact hown
  have hins : (Cond.instantiable cls 6).before args s' = true := h _ (by simp [Bundle.ownAtoms])
  obtain ⟨vm₁, cX, kX, hfX, hkX, -, -, X₁, st1⟩ := Y.newCold hexec (own := own) (C := cls) (index := ik) (n := 6) hown' hk' hins hini'
    (g := F0 m pc ls rest) rfl (by rw [hb]; exact d0) (Nat.le_refl _) (Nat.le_refl _)
  generalize hT1 : (T.setVm vm₁).pushCell { cls := cX, slots := kX.instanceTypes.map defaultValue, vm := .none } = T1 at X₁ st1
  have hcat : (Value.ref T.heap.size).category = 1 := rfl
  have hcellA : T1.heap[T.heap.size]? = some (freshCell cX kX) := by rw [← hT1]; exact State.heap_pushCell_size _ _
  have d3' : decode c.code (pc + 3) = .ok (.dup, 1) := by rw [hb]; exact d3
  have d4' : decode c.code (pc + 4) = .ok (.ldc is, 2) := by rw [hb]; exact d4
  have hstr' : vk_R own is text sa s' := vk_R.warm hW0 hstr
  obtain ⟨U, hsteps, hrun, hend, hW, hsame, ce, hce, hO⟩ := X₁.ctorThrowS hexec htr (own := own) (cls := cls) (names := names) (ic := ic) hown' hcls hnames h (fun x hx => nomatch hx) hfX hkX hcellA (by rw [hhp, hT]; exact Nat.le_refl _) (msg := .ref sa) rfl
    (g := { method := m, pc := pc + 6, locals := ls, stack := .ref sa :: .ref T.heap.size :: .ref T.heap.size :: rest, locked := none }) rfl hsize rfl rfl (rest := rest) rfl
    (by rw [hb]; exact d6) (by rw [hb]; exact d9) hout hRframes (by simp only [List.map_cons, List.sum_cons, hcat]; omega) hlocks
  obtain ⟨f1, f2⟩ := vx_frame hsame
  rw [hhp] at f1 f2
  have hWs : s.WarmedH U.vm := State.WarmedH.trans hW0 hW
  have hcl : s.vm.findClass cls = some ce.cls := by
    have h9 := hO.cls
    rw [hvm] at h9
    exact h9
  have hall : s.sameButNew ({ U with vm := s.vm } : State) locs mc ms := by
    subst hA
    obtain ⟨e1, e2⟩ := hsame
    rw [State.setFrames_setFrames] at e1
    have h2 : (T.setVm s.vm).sameButNew ({ U with vm := s.vm } : State) [] (0 + 1) (0 + 6) := ⟨e1, e2⟩
    have h3 := X.same.trans h2
    rw [List.append_nil] at h3
    exact h3.mono hc hs
  refine ⟨U, ?_, .threw T.heap.size, hrun, hend, Or.inr ⟨T.heap.size, rfl, cls, ce, locs, hx U hWs.alike f1 (fun q hq => f2 q hq (fun z hz => nomatch hz)), hce, hO.vm, hcl, hWs, hall, hf⟩⟩
  refine st1 _ ?_
  show Steps p.tables e below (T1.setTop { method := m, pc := pc + 3, locals := ls, stack := .ref T.heap.size :: rest, locked := none }) _
  jvm_step X₁.here [X₁.here.top, hexec, d3', Value.category]
  exact X₁.ldcString hexec (own := own) (text := text) (index := is) (a := sa) hown' hstr'.1 hstr'.2
    (g := { method := m, pc := pc + 4, locals := ls, stack := .ref T.heap.size :: .ref T.heap.size :: rest, locked := none }) rfl d4' _ hsteps
/-- 'throw new E("text")', the text by a wide index -/
theorem vx_throwSW {cc : ByteArray} {pc : Nat} (hexec : p.tables.exec = Jvm.exec) (hb : c.code = cc) (hl : l.stackTraces = false) {own cls text : String} {names : List String} {ik is ic mc ms sa : Nat} {A : Nat → Prop}
    (hown : s.vm.findClass own = some m.cls) (hcls : Bundle.fit cls = true) (hnames : ∀ n ∈ names, Bundle.fit n = true)
    (hk : (Cond.classLink own ik cls).before args s = true) (hini : (Cond.initialized cls).before args s = true) (hstr : vk_R own is text sa s) (hat : ∀ w ∈ vx_atS own ic cls names, w.before args s = true)
    (hgood : ∀ w ∈ Cond.classLink own ik cls :: Cond.initialized cls :: vx_atS own ic cls names, vx_ot w = true)
    (hU : vx_Zq Bundle.tN "UNASSIGNED_STACK" Bundle.steD A s s.heap) (hN : vx_Zq Bundle.tN "SUPPRESSED_SENTINEL" Bundle.listD A s s.heap) (hS : va_S A s.heap H locs) (hsize : ls.size = c.maxLocals)
    (d0 : decode cc pc = .ok (.new ik, 3)) (d3 : decode cc (pc + 3) = .ok (.dup, 1)) (d4 : decode cc (pc + 4) = .ok (.ldc_w is, 3)) (d7 : decode cc (pc + 7) = .ok (.invokespecial ic, 3)) (d10 : decode cc (pc + 10) = .ok (.athrow, 1))
    (hout : ∀ x ∈ c.exceptionTable.toList, covers x (pc + 10) = false)
    (hRframes : names.length + 3 < R.frames) (hRlocals : (rest.map fun v => v.category).sum + (13 * (names.length + 1) + 43) ≤ R.locals) (hRcells : cells + 1 ≤ R.cells) (hRslots : slots + 6 ≤ R.slots) (hlocks : meth.locks = false)
    (hx : ∀ t : State, s.vm.Alike t.vm → H.size ≤ t.heap.size → (∀ q : Nat, q < H.size → t.heap[q]? = H[q]?) → XC cls s t)
    (hf : ∀ z ∈ locs, free z.base) (hc : cells + 1 ≤ mc) (hs : slots + 6 ≤ ms) :
    W p l e R s m args below meth c H locs cells slots (vx_MQ below Qc XC args s mc ms free) (F0 m pc ls rest) := by
  intro T hT X
  have htr : e.platform.stackTraces = false := (show e.platform.stackTraces = l.stackTraces by rw [X.admits.platform]).trans hl
  have Y := vx_rebase X (R' := { frames := R.frames, locals := R.locals, cells := 1, slots := 6 }) (Nat.le_refl _) (Nat.le_refl _) hRcells hRslots
  obtain ⟨s', hA⟩ : ∃ z, z = (T.setVm s.vm).setFrames (.invoking m args :: below) := ⟨_, rfl⟩
  rw [← hA] at Y
  have hvm : s'.vm = s.vm := by rw [hA]; rfl
  have hhp : s'.heap = H := by rw [hA]; exact hT
  have hW0 : s.WarmedH s'.vm := by rw [hvm]; exact State.WarmedH.refl s
  have hat' : ∀ w ∈ vx_atS own ic cls names, w.before args s' = true := fun w hw => vx_ot_at hW0 hvm.symm (hgood w (List.mem_cons_of_mem _ (List.mem_cons_of_mem _ hw))) (hat w hw)
  have hk' : (Cond.classLink own ik cls).before args s' = true := vx_ot_at hW0 hvm.symm (hgood _ List.mem_cons_self) hk
  have hini' : (Cond.initialized cls).before args s' = true := vx_ot_at hW0 hvm.symm (hgood _ (List.mem_cons_of_mem _ List.mem_cons_self)) hini
  have hU' : vx_Zq Bundle.tN "UNASSIGNED_STACK" Bundle.steD A s' s'.heap := by rw [hhp]; exact vx_Zq.moved hW0.alike (hU.kept hS.2.1)
  have hN' : vx_Zq Bundle.tN "SUPPRESSED_SENTINEL" Bundle.listD A s' s'.heap := by rw [hhp]; exact vx_Zq.moved hW0.alike (hN.kept hS.2.1)
  have h : ∀ w ∈ Bundle.ownAtoms own ic cls names, w.before args s' = true := vx_own hat' (vx_isRefq hU'.1) (vx_isRefq hN'.1) hU'.2.word hN'.2.word
  have hown' : s'.vm.findClass own = some m.cls := by rw [hvm]; exact hown
  have hins : (Cond.instantiable cls 6).before args s' = true := h _ (by simp [Bundle.ownAtoms])
  obtain ⟨vm₁, cX, kX, hfX, hkX, -, -, X₁, st1⟩ := Y.newCold hexec (own := own) (C := cls) (index := ik) (n := 6) hown' hk' hins hini'
    (g := F0 m pc ls rest) rfl (by rw [hb]; exact d0) (Nat.le_refl _) (Nat.le_refl _)
  generalize hT1 : (T.setVm vm₁).pushCell { cls := cX, slots := kX.instanceTypes.map defaultValue, vm := .none } = T1 at X₁ st1
  have hcat : (Value.ref T.heap.size).category = 1 := rfl
  have hcellA : T1.heap[T.heap.size]? = some (freshCell cX kX) := by rw [← hT1]; exact State.heap_pushCell_size _ _
  have d3' : decode c.code (pc + 3) = .ok (.dup, 1) := by rw [hb]; exact d3
  have d4' : decode c.code (pc + 4) = .ok (.ldc_w is, 3) := by rw [hb]; exact d4
  have hstr' : vk_R own is text sa s' := vk_R.warm hW0 hstr
  obtain ⟨U, hsteps, hrun, hend, hW, hsame, ce, hce, hO⟩ := X₁.ctorThrowS hexec htr (own := own) (cls := cls) (names := names) (ic := ic) hown' hcls hnames h (fun x hx => nomatch hx) hfX hkX hcellA (by rw [hhp, hT]; exact Nat.le_refl _) (msg := .ref sa) rfl
    (g := { method := m, pc := pc + 7, locals := ls, stack := .ref sa :: .ref T.heap.size :: .ref T.heap.size :: rest, locked := none }) rfl hsize rfl rfl (rest := rest) rfl
    (by rw [hb]; exact d7) (by rw [hb]; exact d10) hout hRframes (by simp only [List.map_cons, List.sum_cons, hcat]; omega) hlocks
  obtain ⟨f1, f2⟩ := vx_frame hsame
  rw [hhp] at f1 f2
  have hWs : s.WarmedH U.vm := State.WarmedH.trans hW0 hW
  have hcl : s.vm.findClass cls = some ce.cls := by
    have h9 := hO.cls
    rw [hvm] at h9
    exact h9
  have hall : s.sameButNew ({ U with vm := s.vm } : State) locs mc ms := by
    subst hA
    obtain ⟨e1, e2⟩ := hsame
    rw [State.setFrames_setFrames] at e1
    have h2 : (T.setVm s.vm).sameButNew ({ U with vm := s.vm } : State) [] (0 + 1) (0 + 6) := ⟨e1, e2⟩
    have h3 := X.same.trans h2
    rw [List.append_nil] at h3
    exact h3.mono hc hs
  refine ⟨U, ?_, .threw T.heap.size, hrun, hend, Or.inr ⟨T.heap.size, rfl, cls, ce, locs, hx U hWs.alike f1 (fun q hq => f2 q hq (fun z hz => nomatch hz)), hce, hO.vm, hcl, hWs, hall, hf⟩⟩
  refine st1 _ ?_
  show Steps p.tables e below (T1.setTop { method := m, pc := pc + 3, locals := ls, stack := .ref T.heap.size :: rest, locked := none }) _
  jvm_step X₁.here [X₁.here.top, hexec, d3', Value.category]
  exact X₁.ldcStringW hexec (own := own) (text := text) (index := is) (a := sa) hown' hstr'.1 hstr'.2
    (g := { method := m, pc := pc + 4, locals := ls, stack := .ref T.heap.size :: .ref T.heap.size :: rest, locked := none }) rfl d4' _ hsteps
end Ends
section Bodies
variable {l : Launch}
theorem vx_ofW {y : MethodName} {ws ws' : List Cond} {rm : Room} {Pc : Array Value → State → Prop} {Qc : Array Value → State → Outcome → State → Prop} {XC : String → State → State → Prop} {mc ms : Nat} {free : Addr → Prop} {cc : ByteArray} {maxL : Nat} {ret : Option FieldType}
    (hy : plainName y.cls = true) (hw : ws = Cond.code y cc maxL ret :: ws')
    (body : ∀ p e s m args below meth c s₁, BodyLoose p l y (headSpec ws rm) cc maxL ret e s m args below meth c s₁ → c.maxLocals = maxL → (∀ x ∈ c.exceptionTable.toList, False) → Pc args s →
      W p l e (headSpec ws rm).room s m args below meth c s.heap [] 0 0 (vx_MQ below Qc XC args s mc ms free) (entryFrame m args maxL)) : vx_Met l y ws rm Pc Qc XC mc ms free := by
  refine MetFree.of_bodyS (code := cc) (maxLocals := maxL) (ret := ret) hy ?_ ?_
  · intro args s m h hn
    obtain ⟨meth, c, h1, h2, h3, h4, h5, h6, -, -⟩ := Cond.code_spec hn (atoms_spec (ws := ws) h _ (by rw [hw]; exact List.mem_cons_self))
    exact ⟨meth, c, h1, h2, h3, h4, h5, h6⟩
  · intro p e s m args below meth c s₁ B hml hP _
    have hh0 : s₁.heap = s.heap := by rw [B.state]; rfl
    have ht : ∀ x ∈ c.exceptionTable.toList, False := by
      obtain ⟨meth9, c9, h1, h2, -, -, -, -, h7, -⟩ := Cond.code_spec B.named (atoms_spec (ws := ws) B.pre _ (by rw [hw]; exact List.mem_cons_self))
      cases Option.some.inj (h1.symm.trans B.method)
      cases Option.some.inj (h2.symm.trans (Stand.of_body B).code)
      intro x hx
      rw [Array.isEmpty_iff.mp h7] at hx
      cases hx
    obtain ⟨t, a1, o, b1, b2, b3⟩ := body p e s m args below meth c s₁ B hml ht hP s₁ hh0 (Stand.of_body B)
    exact ⟨t, o, a1, b1, b2, b3⟩
/-- the table of a body with handlers -/
theorem vx_table {p : Program} {x y : MethodName} {S : Spec} {cc bytes : ByteArray} {maxL maxL' : Nat} {ret ret' : Option FieldType} {e : Env} {s s₁ : State} {m : MethodId} {args : Array Value} {below : List Frame} {meth : Method} {c : Code} {hh : List (Nat × Nat × Nat × Nat)}
    (B : BodyLoose p l y S cc maxL ret e s m args below meth c s₁) (h : (Cond.codeWith y bytes maxL' ret' hh).before args s = true) : c.exceptionTable.toList = tableOf hh := by
  obtain ⟨m9, meth9, c9, hn9, h1, h2, -, -, h6, -⟩ := Cond.codeWith_spec h
  cases Option.some.inj (hn9.symm.trans B.named)
  cases Option.some.inj (h1.symm.trans B.method)
  cases Option.some.inj (h2.symm.trans (Stand.of_body B).code)
  rw [← h6, table_eq]
end Bodies
end VXA
/-! ===== END ===== -/
/-! ===== BEGIN a static call of a method with an exception table ===== -/
section VXS
variable {p : Program} {l : Launch} {e : Env} {R : Room} {s : State} {m : MethodId} {args : Array Value} {below : List Frame} {meth : Method} {c : Code} {T : State} {H : Heap} {locs : List Loc} {cells slots : Nat}
abbrev vx_CSW (R : Room) (s : State) (args : Array Value) (own : String) (index : Nat) (y : MethodName) (bytes : ByteArray) (maxL : Nat) (ret : Option FieldType) (hh : List (Nat × Nat × Nat × Nat)) (ws : List Cond) (rm : Room) (mc ms n : Nat) : Prop :=
  (rm.cells = mc ∧ rm.slots = ms ∧ rm.frames + 1 ≤ R.frames ∧ 8 + (maxL + 11) + rm.locals ≤ R.locals ∧ (∀ w ∈ ws, ∀ (a' : Array Value) (U : State), s.WarmedH U.vm → w.before a' U = true) ∧ Cond.codeWith y bytes maxL ret hh ∈ ws) ∧
  (Cond.codeWith y bytes maxL ret hh).before args s = true ∧ (Cond.initialized y.cls).before args s = true ∧ (y.cls ≠ "java/lang/invoke/MethodHandle" ∧ y.cls ≠ "java/lang/invoke/VarHandle") ∧
  (∀ sig, parseMethodDescriptor y.desc = some sig → n = sig.parameters.length) ∧ (Cond.methodLink own index y).before args s = true ∧ (Cond.static y).before args s = true
theorem vx_cwSW {own : String} {index maxL mc ms : Nat} {y : MethodName} {bytes : ByteArray} {ret : Option FieldType} {hh : List (Nat × Nat × Nat × Nat)} {Ts ws ws' : List Cond} {rm : Room} (n : Nat) (ht : ∀ w ∈ Ts, w.before args s = true) (hT : GoodIn Ts (va_wsS own index y ws)) (hw : ws = Cond.codeWith y bytes maxL ret hh :: ws') (hrc : rm.cells = mc) (hrs : rm.slots = ms)
    (hd : y.cls ≠ "java/lang/invoke/MethodHandle" ∧ y.cls ≠ "java/lang/invoke/VarHandle" ∧ (parseMethodDescriptor y.desc).map (fun d => d.parameters.length) = some n) (hR : rm.frames + 1 ≤ R.frames ∧ 8 + (maxL + 11) + rm.locals ≤ R.locals) :
    vx_CSW R s args own index y bytes maxL ret hh ws rm mc ms n := by
  have ok : ∀ w ∈ va_wsS own index y ws, w.before args s = true := fun w h => ht w (hT w h).1
  have hG : GoodIn Ts ws := fun w h => hT w (by unfold va_wsS; exact List.mem_append_right _ h)
  have hc : Cond.codeWith y bytes maxL ret hh ∈ ws := by rw [hw]; exact List.mem_cons_self
  refine ⟨⟨hrc, hrs, hR.1, hR.2, pay_in ht hG, hc⟩, ht _ (hG _ hc).1, ok _ (by simp [va_wsS]), ⟨hd.1, hd.2.1⟩, fun sig h => ?_, ok _ (by simp [va_wsS]), ok _ (by simp [va_wsS])⟩
  have h2 := hd.2.2
  rw [h] at h2
  exact (Option.some.inj h2).symm
theorem vx_callSW (X : Stand p l e R s m args below meth c T locs cells slots) (hexec : p.tables.exec = Jvm.exec) {own : String} {index : Nat} {y : MethodName} {bytes : ByteArray} {maxL : Nat} {ret : Option FieldType} {hh : List (Nat × Nat × Nat × Nat)}
    (hown : s.vm.findClass own = some m.cls) (hlink : (Cond.methodLink own index y).before args s = true) (hstat : (Cond.static y).before args s = true) (hinit : (Cond.initialized y.cls).before args s = true)
    (hcode : (Cond.codeWith y bytes maxL ret hh).before args s = true) (hy : y.cls ≠ "java/lang/invoke/MethodHandle" ∧ y.cls ≠ "java/lang/invoke/VarHandle")
    {W9 : Nat} {Pre : Pt → Array Value → Prop} {Post : Pt → Array Value → Option Value → Pt → Prop} (hK : Back l R p e below s args y 3 W9 Pre Post)
    {g : JFrame} (hg : g.method = m) (hsize : g.locals.size = c.maxLocals) {argsL rest : List Value} (hlen : ∀ sig, parseMethodDescriptor y.desc = some sig → argsL.length = sig.parameters.length)
    (hstack : g.stack = argsL.reverse ++ rest) (hW : 2 * g.monitorRoom + (rest.map fun v => v.category).sum ≤ W9) (hdg : decode c.code g.pc = .ok (.invokestatic index, 3))
    (hpre : ∀ vm₁, s.WarmedH vm₁ → Pre ⟨T.setVm vm₁, locs, cells, slots⟩ argsL.toArray) :
    ∃ (v : Option Value) (vm₁ : Vm) (B : Pt), s.WarmedH vm₁ ∧ Stand p l e R s m args below meth c B.U B.locs B.cells B.slots ∧ Post ⟨T.setVm vm₁, locs, cells, slots⟩ argsL.toArray v B ∧
      ∀ target, Steps p.tables e below (B.U.setTop { g with pc := g.pc + 3, stack := v.toList ++ rest }) target → Steps p.tables e below (T.setTop g) target := by
  obtain ⟨mk, methM, cM, hnamed, hmethM, -, -, -, -, -, -, hsigM⟩ := Cond.codeWith_spec hcode
  have hstatic : methM.isStatic = true := Cond.static_spec hnamed hmethM hstat
  obtain ⟨kP, hkP, -⟩ := className_of_methodNamed hnamed
  have hinitP : kP.init = .initialized := Cond.initialized_spec (findClass_of_methodNamed hnamed) hkP hinit
  obtain ⟨vm₁, X₁, hstep₁⟩ := X.invokestatic hexec hown hlink hnamed hmethM hstatic hkP hinitP hy (g := g) hg (argsL := argsL) (rest := rest) (hlen _ hsigM) hstack hdg
  obtain ⟨v, B, X', hpost, hsteps⟩ := hK m meth c ⟨T.setVm vm₁, locs, cells, slots⟩ { g with stack := rest } (.invokestatic index) mk argsL.toArray X₁ hg hsize hdg hW (X₁.named hnamed) (hpre vm₁ X₁.warmed)
  exact ⟨v, vm₁, B, X₁.warmed, X', hpost, fun target h => hstep₁ _ fun acts => by rw [doInvoke_state]; exact hsteps.trans h⟩
theorem vx_runSW {y : MethodName} {bytes cc : ByteArray} {maxL nL mc ms n index : Nat} {ret : Option FieldType} {hh : List (Nat × Nat × Nat × Nat)} {ws : List Cond} {rm : Room} {Pc : Array Value → State → Prop} {Qc : Array Value → State → Outcome → State → Prop} {free : Addr → Prop} {Ts : List Cond} {own : String} {As rest : List Value} {g : JFrame}
    (S : CallFix p m c cc nL s args Ts own) (hM : Met l y ws rm Pc Qc mc ms free) (cw : vx_CSW R s args own index y bytes maxL ret hh ws rm mc ms n) (hp : PreS s H Pc As)
    (hg : g.method = m) (hn : As.length = n) (hsize : g.locals.size = nL) (hstack : g.stack = As.reverse ++ rest) (hW : 2 * g.monitorRoom + (rest.map fun v => v.category).sum ≤ 8) (hdg : decode cc g.pc = .ok (.invokestatic index, 3)) (hf : cells + mc ≤ R.cells ∧ slots + ms ≤ R.slots) :
    va_Run p l e R s m args below meth c H locs cells slots mc ms g rest (Qc As.toArray) (free) := by
  obtain ⟨⟨hrc, hrs, hfr, hlo, hws, hcw⟩, hcode, hini, hy, hlen, hl, hstt⟩ := cw
  have hK : Back l R p e below s args y 3 8 (PreOf R mc ms Pc) (PostOf Qc mc ms free) := va_backW (hh := hh) (bytes := bytes) (maxL := maxL) (ret := ret) hM hp.1 hrc hrs hfr hlo hws hcw (fun a' U hW => word_at hW (Or.inl (by first | rfl | simp [Cond.onTables, Cond.keeps, Cond.steady])) hini)
  obtain ⟨hx, hb, hml, ho, -⟩ := S
  intro T hT X
  obtain ⟨v, vm₁, ⟨U', l2, c2, s2⟩, hW₁, X', ⟨g', mk, t, L, e1, e2, hq, h1, hL, h2, h3⟩, st⟩ := vx_callSW X hx (hh := hh) (bytes := bytes) (maxL := maxL) (ret := ret) ho hl hstt hini hcode hy hK hg (hsize.trans hml.symm) (argsL := As) (rest := rest) (fun sig h => hn.trans (hlen sig h)) hstack hW (by rw [hb]; exact hdg)
    (fun vm₁ hW₁ => ⟨hf.1, hf.2, hp.2 (T.setVm vm₁) hT hW₁⟩)
  dsimp only [Pt.U, Pt.locs, Pt.cells, Pt.slots] at X' e1 e2 h1 h2 h3 st
  subst h1; subst h2; subst h3
  exact ⟨v, (T.setVm vm₁).calling g' mk As.toArray, t, U', L, hT, X', hL, e1, e2, hq, st⟩
/-- not caught here, past rows that name other classes: it goes on to the caller -/
theorem vx_outP {p : Program} {l : Launch} {e : Env} {R : Room} {s : State} {m : MethodId} {args : Array Value} {below : List Frame} {meth : Method} {c : Code} {H : Heap} {locs : List Loc} {cells slots : Nat} {free : Addr → Prop} {ls : Array Slot} {rest : List Value} {Qc : Array Value → State → Outcome → State → Prop} {XC : String → State → State → Prop}
    {pc : Nat} {own E : String} {ce : Cell} {q : Addr} {mc ms : Nat} (hown : s.vm.findClass own = some m.cls) (hlocks : meth.locks = false)
    (hpass : ∀ z ∈ c.exceptionTable.toList, covers z pc = false ∨ (z.catchType ≠ 0 ∧ ∃ nm : String, (Cond.classLink own z.catchType nm).before args s = true ∧ va_Nc E nm s)) (hcell : H[q]? = some ce) (hv : ce.vm = .none) (hcl : s.vm.findClass E = some ce.cls)
    (hx : ∀ t : State, t.heap = H → s.vm.Alike t.vm → XC E s t) (hf : ∀ z ∈ locs, free z.base) (hc : cells ≤ mc) (hs : slots ≤ ms) :
    vx_W p l e R s m args below meth c H locs cells slots (vx_MQ below Qc XC args s mc ms free) (F0 m pc ls rest) q := by
  intro T hT X
  have hpl : e.platform.magicAccessors = ({} : Platform).magicAccessors := by rw [X.admits.platform]
  obtain ⟨vm', hW', X', st⟩ := X.outThrough hlocks q (g := F0 m pc ls rest) rfl rfl rfl (cell := ce) (by rw [hT]; exact hcell) (by rw [hv]; rfl)
    (by obtain ⟨k9, h9, -⟩ := Vm.findClass_spec hcl; exact ⟨k9, h9⟩) (fun z hz => by
      rcases hpass z hz with h | ⟨hz0, nm, hl1, hn1⟩
      · exact Or.inl h
      · obtain ⟨c6, hc6, hcl6⟩ := Cond.classLink_spec hown hl1 e.platform hpl
        obtain ⟨a8, b8, h1, h2, h3⟩ := hn1
        cases Option.some.inj (h1.symm.trans hcl)
        cases Option.some.inj (h2.symm.trans hc6)
        exact Or.inr ⟨hz0, _, hcl6, h3⟩)
  obtain ⟨g₀, hfr⟩ := X'.frames_eq
  have hcell9 : ((T.setVm vm').setFrames (.throwing q :: below)).heap[q]? = some ce := by
    show T.heap[q]? = some ce
    rw [hT]; exact hcell
  have hend : Ended ((T.setVm vm').setFrames (.throwing q :: below)) below (.threw q) := State.frames_setFrames _ (State.cur_lt_of_frames hfr)
  refine ⟨(T.setVm vm').setFrames (.throwing q :: below), ?_, .threw q, X'.here.running, hend, Or.inr ⟨q, rfl, E, ce, locs, hx _ hT (X'.ends _).1.alike, hcell9, hv, hcl, (X'.ends _).1, (X'.ends _).2.mono hc hs, hf⟩⟩
  rw [X.pushThrowing_eq]
  exact st
/-- a thing of a world lies in the heap -/
theorem vx_lt {D : va_G} {cl : List vw_C} {ws : va_W} {H1 : Heap} (h : va_P D cl ws H1) {k : Nat} {q : Nat × va_E} (hk : ws[k]? = some q) : q.1 < H1.size := (h k q hk).lt
end VXS
/-! ===== END ===== -/
/-! ===== BEGIN methods with a table of their own: called by a name, returning or throwing ===== -/
section VXH
/-! vx_backW, vx_callVX, vx_callSX, vx_callVW, vx_runVW, vx_runVX, vx_runSX, vx_ofWH follow the same proofs as their sisters above (Free/Laws.lean, Shelf42/LK1.lean); vx_outP calls Shelf42/NT130.lean (outThrough). -/
section
variable {l : Launch} {R : Room} {p : Program} {e : Env} {below : List Frame} {s : State} {sargs : Array Value} {y : MethodName} {len W9 : Nat}
theorem vx_backW {ws : List Cond} {rm : Room} {Pc : Array Value → State → Prop} {Qc : Array Value → State → Outcome → State → Prop} {XC : String → State → State → Prop} {mc ms : Nat} {free : Addr → Prop} {bytes : ByteArray} {maxL : Nat} {ret : Option FieldType} {hh : List (Nat × Nat × Nat × Nat)}
    (hM : vx_Met l y ws rm Pc Qc XC mc ms free) (hblind : FrameBlind Pc) (hrc : rm.cells = mc) (hrs : rm.slots = ms)
    (hframes : rm.frames + 1 ≤ R.frames) (hlocals : W9 + (maxL + 11) + rm.locals ≤ R.locals)
    (hws : ∀ w ∈ ws, ∀ a' U, s.WarmedH U.vm → w.before a' U = true) (hcode : Cond.codeWith y bytes maxL ret hh ∈ ws) (hinit : ∀ a' U, s.WarmedH U.vm → (Cond.initialized y.cls).before a' U = true) :
    vx_Back l R p e below s sargs y len W9 (PreOf R mc ms Pc) (PostOf Qc mc ms free) (vx_Post XC mc ms free) := by
  intro m meth c A g ig mk a X hg hsize hdg hW hn hp
  have h1 : (headSpec ws rm).pre.before a A.U = true := atoms_intro fun w hw => hws w hw _ _ X.warmed
  have h2 : (Cond.codeWith y bytes maxL ret hh).before a A.U = true := hws _ hcode _ _ X.warmed
  have h3 : (Cond.initialized y.cls).before a A.U = true := hinit _ _ X.warmed
  have h4 : A.cells + (headSpec ws rm).room.cells ≤ R.cells := by rw [show (headSpec ws rm).room.cells = mc from hrc]; exact hp.1
  have h5 : A.slots + (headSpec ws rm).room.slots ≤ R.slots := by rw [show (headSpec ws rm).room.slots = ms from hrs]; exact hp.2.1
  have hPc : Pc a (A.U.calling g mk a) := hblind _ _ _ _ hp.2.2
  obtain ⟨U, Ls, c0, s0⟩ := A
  dsimp only [Pt.U, Pt.locs, Pt.cells, Pt.slots] at h1 h2 h3 h4 h5 X hn hPc ⊢
  obtain ⟨m9, methY, cY, hn9, hmY, hcY, -, hlY, -⟩ := Cond.codeWith_spec h2
  cases Option.some.inj (hn9.symm.trans hn)
  obtain ⟨kY, hkY, -⟩ := className_of_methodNamed hn
  have hinitY : kY.init = .initialized := Cond.initialized_spec (findClass_of_methodNamed hn) hkY h3
  have h : At U g.method c below := by rw [hg]; exact X.here
  have hlocals9 : W9 + (maxL + 11) + (headSpec ws rm).room.locals ≤ R.locals := hlocals
  have happ : (headSpec ws rm).appliesLoose y e.platform (U.calling g mk a) = true :=
    Spec.appliesLoose_calling (g := g) h hdg hn hkY hinitY
      (X.room_calling (g := g) (R' := (headSpec ws rm).room) hsize hmY hcY hframes (by rw [hlY]; omega) h4 h5) h1
  obtain ⟨mid, hmid⟩ := h.above
  have hfr : (U.setTop g).frames = (.java g :: mid) ++ below := by rw [State.frames_setTop' g h.top, hmid]; rfl
  obtain ⟨o, s₂, hsteps, -, hend, hq⟩ := Steps.callFree hM p X.admits X.cas X.clock (acts := []) hfr happ hPc trivial
  have hq' : vx_Q Qc XC mc ms free a (U.calling g mk a) o s₂ := hq
  rw [State.frames_setTop' g h.top] at hend
  obtain ⟨g₀, hg0⟩ := Option.isSome_iff_exists.mp h.top
  obtain ⟨r, hr⟩ := State.topJava?_eq_some.mp hg0
  have hr' : (({ U with heap := s₂.heap, slotsUsed := s₂.slotsUsed } : State).setVm s₂.vm).frames = .java g₀ :: r := hr
  rcases hq' with ⟨hqc, L, hfe, hL⟩ | ⟨q, rfl, E, ce, L, hx, hce, hcv, hcl, hW₂, hsm, hL⟩
  · obtain ⟨⟨v, rfl⟩, hW₂, e2, q2, q3, q4, q5, q6⟩ := id hfe
    have e3 : s₂ = ({ (U.calling g mk a).setFrames s₂.frames with heap := s₂.heap, slotsUsed := s₂.slotsUsed } : State).setVm s₂.vm := by
      have : s₂ = ({ s₂ with vm := (U.calling g mk a).vm } : State).setVm s₂.vm := rfl
      rw [e2] at this
      exact this
    obtain ⟨c₂, i₂, len₂, hc₂, hd₂, hf₂⟩ := hend
    have hW' : U.WarmedH s₂.vm := hW₂
    have hcc : c₂ = c := by
      have h1 : s₂.code? g.method = U.code? g.method := by
        rw [State.code?_eq, State.code?_eq, hW'.alike.method?]
      exact Option.some.inj (hc₂.symm.trans (h1.trans h.code))
    subst hcc
    have hlen : len₂ = len := by rw [hdg] at hd₂; cases hd₂; rfl
    subst hlen
    have hs₂ : s₂ = (({ U with heap := s₂.heap, slotsUsed := s₂.slotsUsed } : State).setVm s₂.vm).setTop { g with pc := g.pc + len₂, stack := v.toList ++ g.stack } := by
      refine e3.trans ?_
      rw [hf₂, State.calling_eq h.top, State.setFrames_setFrames, State.setTop_of_frames _ hr', hr]
      rfl
    have hsame : U.sameButNew ({ U with heap := s₂.heap, slotsUsed := s₂.slotsUsed } : State) L mc ms := by
      refine ⟨?_, q2, q3, q4, q5, q6⟩
      obtain ⟨t, ht, -⟩ := State.frames_cons hr
      show ({ U with heap := s₂.heap, slotsUsed := s₂.slotsUsed } : State) = { U.setFrames U.frames with heap := s₂.heap, slotsUsed := s₂.slotsUsed }
      rw [State.setFrames_self ht]
    subst hg
    refine Or.inl ⟨v, ⟨(({ U with heap := s₂.heap, slotsUsed := s₂.slotsUsed } : State).setVm s₂.vm), Ls ++ L, c0 + mc, s0 + ms⟩,
      ⟨X.admits, X.cas, X.clock, X.frames, X.room, X.hears, X.method, X.code, (X.here.setHeapUsed s₂.heap s₂.slotsUsed).setVm hW'.alike, X.tail, State.WarmedH.trans X.warmed hW', X.limits, X.bytes, X.same.trans (hsame.setVm s.vm)⟩,
      ⟨g, mk, s₂, L, rfl, rfl, hqc, rfl, hL, rfl, rfl⟩, ?_⟩
    show Steps p.tables e below _ ((({ U with heap := s₂.heap, slotsUsed := s₂.slotsUsed } : State).setVm s₂.vm).setTop { g with pc := g.pc + len₂, stack := v.toList ++ g.stack })
    rw [← hs₂]
    exact hsteps
  · obtain ⟨e2, q2, q3, q4, q5, q6⟩ := id hsm
    have e3 : s₂ = ({ (U.calling g mk a).setFrames s₂.frames with heap := s₂.heap, slotsUsed := s₂.slotsUsed } : State).setVm s₂.vm := by
      have : s₂ = ({ s₂ with vm := (U.calling g mk a).vm } : State).setVm s₂.vm := rfl
      rw [e2] at this
      exact this
    have hf₂ : s₂.frames = .throwing q :: .java g :: U.frames.tail := hend
    have hW' : U.WarmedH s₂.vm := hW₂
    have hs₂ : s₂ = ((({ U with heap := s₂.heap, slotsUsed := s₂.slotsUsed } : State).setVm s₂.vm).setTop g).pushFrame (.throwing q) := by
      refine e3.trans ?_
      rw [hf₂, State.calling_eq h.top, State.setFrames_setFrames, State.pushFrame, State.frames_setTop _ hr', State.setTop_of_frames _ hr', State.setFrames_setFrames, hr]
      rfl
    have hsame : U.sameButNew ({ U with heap := s₂.heap, slotsUsed := s₂.slotsUsed } : State) L mc ms := by
      refine ⟨?_, q2, q3, q4, q5, q6⟩
      obtain ⟨t, ht, -⟩ := State.frames_cons hr
      show ({ U with heap := s₂.heap, slotsUsed := s₂.slotsUsed } : State) = { U.setFrames U.frames with heap := s₂.heap, slotsUsed := s₂.slotsUsed }
      rw [State.setFrames_self ht]
    subst hg
    refine Or.inr ⟨q, ⟨(({ U with heap := s₂.heap, slotsUsed := s₂.slotsUsed } : State).setVm s₂.vm), Ls ++ L, c0 + mc, s0 + ms⟩,
      ⟨X.admits, X.cas, X.clock, X.frames, X.room, X.hears, X.method, X.code, (X.here.setHeapUsed s₂.heap s₂.slotsUsed).setVm hW'.alike, X.tail, State.WarmedH.trans X.warmed hW', X.limits, X.bytes, X.same.trans (hsame.setVm s.vm)⟩,
      ⟨g, mk, s₂, L, E, ce, rfl, rfl, hx, hce, hcv, hcl, rfl, hL, rfl, rfl⟩, ?_⟩
    show Steps p.tables e below _ (((({ U with heap := s₂.heap, slotsUsed := s₂.slotsUsed } : State).setVm s₂.vm).setTop g).pushFrame (.throwing q))
    rw [← hs₂]
    exact hsteps
end
variable {p : Program} {l : Launch} {e : Env} {R : Room} {s : State} {m : MethodId} {args : Array Value} {below : List Frame} {meth : Method} {c : Code} {T : State} {H : Heap} {locs : List Loc} {cells slots : Nat}
theorem vx_callVX (X : Stand p l e R s m args below meth c T locs cells slots) (hexec : p.tables.exec = Jvm.exec) {own C : String} {index : Nat} {y : MethodName} {bytes : ByteArray} {maxL : Nat} {ret : Option FieldType} {hh : List (Nat × Nat × Nat × Nat)}
    (hown : s.vm.findClass own = some m.cls) (hlink : (Cond.methodLink own index y).before args s = true) (hinst : (Cond.instanceMethod y).before args s = true) (hsel : (Cond.selects C y y).before args s = true)
    (hcode : (Cond.codeWith y bytes maxL ret hh).before args s = true) (hy : y.cls ≠ "java/lang/invoke/MethodHandle" ∧ y.cls ≠ "java/lang/invoke/VarHandle")
    {W9 : Nat} {Pre : Pt → Array Value → Prop} {Post : Pt → Array Value → Option Value → Pt → Prop} {PostX : Pt → Array Value → Addr → Pt → Prop} (hK : vx_Back l R p e below s args y 3 W9 Pre Post PostX)
    {b : Addr} {cellB : Cell} (hcell : T.heap[b]? = some cellB) (hobj : cellB.vm.isStatics = false) (hcls : s.vm.findClass C = some cellB.cls)
    {g : JFrame} (hg : g.method = m) (hsize : g.locals.size = c.maxLocals) {argsL rest : List Value} (hlen : ∀ sig, parseMethodDescriptor y.desc = some sig → argsL.length = sig.parameters.length)
    (hstack : g.stack = argsL.reverse ++ .ref b :: rest) (hW : 2 * g.monitorRoom + (rest.map fun v => v.category).sum ≤ W9) (hdg : decode c.code g.pc = .ok (.invokevirtual index, 3))
    (hpre : ∀ vm₁, s.WarmedH vm₁ → Pre ⟨T.setVm vm₁, locs, cells, slots⟩ (Value.ref b :: argsL).toArray) :
    (∃ (v : Option Value) (vm₁ : Vm) (B : Pt), s.WarmedH vm₁ ∧ Stand p l e R s m args below meth c B.U B.locs B.cells B.slots ∧ Post ⟨T.setVm vm₁, locs, cells, slots⟩ (Value.ref b :: argsL).toArray v B ∧
      ∀ target, Steps p.tables e below (B.U.setTop { g with pc := g.pc + 3, stack := v.toList ++ rest }) target → Steps p.tables e below (T.setTop g) target) ∨
    (∃ (q : Addr) (vm₁ : Vm) (B : Pt), s.WarmedH vm₁ ∧ Stand p l e R s m args below meth c B.U B.locs B.cells B.slots ∧ PostX ⟨T.setVm vm₁, locs, cells, slots⟩ (Value.ref b :: argsL).toArray q B ∧
      Steps p.tables e below (T.setTop g) ((B.U.setTop { g with stack := rest }).pushFrame (.throwing q))) := by
  obtain ⟨mk, methM, hnamed, hmethM, hstM, habM⟩ := Cond.instanceMethod_spec hinst
  obtain ⟨m8, methM', cM, hn8, hmethM', -, -, -, -, -, -, hsigM⟩ := Cond.codeWith_spec hcode
  cases Option.some.inj (hn8.symm.trans hnamed)
  cases hmethM.symm.trans hmethM'
  obtain ⟨c2, r2, m2, q1, q2, q3, q4, kP, hkP, hkPi⟩ := Cond.selects_spec hsel
  cases hcls.symm.trans q1
  cases (State.methodFound?_of_named hnamed hy).symm.trans q2
  cases hnamed.symm.trans q3
  have hselP : selectMethod e.platform s.vm cellB.cls mk = .method mk := by rw [Launch.admits_selectMethod X.admits]; exact q4
  obtain ⟨vm₁, X₁, hstep₁⟩ := X.invokevirtual hexec hown hlink hnamed hmethM hstM hkP hkPi hy (a := b) (cell := cellB) hcell
    (fun z h => by rw [h] at hobj; cases hobj) hselP hmethM habM hkP hkPi (g := g) hg (argsL := argsL) (rest := rest) (hlen _ hsigM) hstack hdg
  rcases hK m meth c ⟨T.setVm vm₁, locs, cells, slots⟩ { g with stack := rest } (.invokevirtual index) mk (Value.ref b :: argsL).toArray X₁ hg hsize hdg hW (X₁.named hnamed) (hpre vm₁ X₁.warmed) with ⟨v, B, X', hpost, hsteps⟩ | ⟨q, B, X', hpost, hsteps⟩
  · exact Or.inl ⟨v, vm₁, B, X₁.warmed, X', hpost, fun target h => hstep₁ _ fun acts => by rw [doInvoke_state]; exact hsteps.trans h⟩
  · exact Or.inr ⟨q, vm₁, B, X₁.warmed, X', hpost, hstep₁ _ fun acts => by rw [doInvoke_state]; exact hsteps⟩
theorem vx_callSX (X : Stand p l e R s m args below meth c T locs cells slots) (hexec : p.tables.exec = Jvm.exec) {own : String} {index : Nat} {y : MethodName} {bytes : ByteArray} {maxL : Nat} {ret : Option FieldType} {hh : List (Nat × Nat × Nat × Nat)}
    (hown : s.vm.findClass own = some m.cls) (hlink : (Cond.methodLink own index y).before args s = true) (hstat : (Cond.static y).before args s = true) (hinit : (Cond.initialized y.cls).before args s = true)
    (hcode : (Cond.codeWith y bytes maxL ret hh).before args s = true) (hy : y.cls ≠ "java/lang/invoke/MethodHandle" ∧ y.cls ≠ "java/lang/invoke/VarHandle")
    {W9 : Nat} {Pre : Pt → Array Value → Prop} {Post : Pt → Array Value → Option Value → Pt → Prop} {PostX : Pt → Array Value → Addr → Pt → Prop} (hK : vx_Back l R p e below s args y 3 W9 Pre Post PostX)
    {g : JFrame} (hg : g.method = m) (hsize : g.locals.size = c.maxLocals) {argsL rest : List Value} (hlen : ∀ sig, parseMethodDescriptor y.desc = some sig → argsL.length = sig.parameters.length)
    (hstack : g.stack = argsL.reverse ++ rest) (hW : 2 * g.monitorRoom + (rest.map fun v => v.category).sum ≤ W9) (hdg : decode c.code g.pc = .ok (.invokestatic index, 3))
    (hpre : ∀ vm₁, s.WarmedH vm₁ → Pre ⟨T.setVm vm₁, locs, cells, slots⟩ argsL.toArray) :
    (∃ (v : Option Value) (vm₁ : Vm) (B : Pt), s.WarmedH vm₁ ∧ Stand p l e R s m args below meth c B.U B.locs B.cells B.slots ∧ Post ⟨T.setVm vm₁, locs, cells, slots⟩ argsL.toArray v B ∧
      ∀ target, Steps p.tables e below (B.U.setTop { g with pc := g.pc + 3, stack := v.toList ++ rest }) target → Steps p.tables e below (T.setTop g) target) ∨
    (∃ (q : Addr) (vm₁ : Vm) (B : Pt), s.WarmedH vm₁ ∧ Stand p l e R s m args below meth c B.U B.locs B.cells B.slots ∧ PostX ⟨T.setVm vm₁, locs, cells, slots⟩ argsL.toArray q B ∧
      Steps p.tables e below (T.setTop g) ((B.U.setTop { g with stack := rest }).pushFrame (.throwing q))) := by
  obtain ⟨mk, methM, cM, hnamed, hmethM, -, -, -, -, -, -, hsigM⟩ := Cond.codeWith_spec hcode
  have hstatic : methM.isStatic = true := Cond.static_spec hnamed hmethM hstat
  obtain ⟨kP, hkP, -⟩ := className_of_methodNamed hnamed
  have hinitP : kP.init = .initialized := Cond.initialized_spec (findClass_of_methodNamed hnamed) hkP hinit
  obtain ⟨vm₁, X₁, hstep₁⟩ := X.invokestatic hexec hown hlink hnamed hmethM hstatic hkP hinitP hy (g := g) hg (argsL := argsL) (rest := rest) (hlen _ hsigM) hstack hdg
  rcases hK m meth c ⟨T.setVm vm₁, locs, cells, slots⟩ { g with stack := rest } (.invokestatic index) mk argsL.toArray X₁ hg hsize hdg hW (X₁.named hnamed) (hpre vm₁ X₁.warmed) with ⟨v, B, X', hpost, hsteps⟩ | ⟨q, B, X', hpost, hsteps⟩
  · exact Or.inl ⟨v, vm₁, B, X₁.warmed, X', hpost, fun target h => hstep₁ _ fun acts => by rw [doInvoke_state]; exact hsteps.trans h⟩
  · exact Or.inr ⟨q, vm₁, B, X₁.warmed, X', hpost, hstep₁ _ fun acts => by rw [doInvoke_state]; exact hsteps⟩
theorem vx_callVW (X : Stand p l e R s m args below meth c T locs cells slots) (hexec : p.tables.exec = Jvm.exec) {own C : String} {index : Nat} {y : MethodName} {bytes : ByteArray} {maxL : Nat} {ret : Option FieldType} {hh : List (Nat × Nat × Nat × Nat)}
    (hown : s.vm.findClass own = some m.cls) (hlink : (Cond.methodLink own index y).before args s = true) (hinst : (Cond.instanceMethod y).before args s = true) (hsel : (Cond.selects C y y).before args s = true)
    (hcode : (Cond.codeWith y bytes maxL ret hh).before args s = true) (hy : y.cls ≠ "java/lang/invoke/MethodHandle" ∧ y.cls ≠ "java/lang/invoke/VarHandle")
    {W9 : Nat} {Pre : Pt → Array Value → Prop} {Post : Pt → Array Value → Option Value → Pt → Prop} (hK : Back l R p e below s args y 3 W9 Pre Post)
    {b : Addr} {cellB : Cell} (hcell : T.heap[b]? = some cellB) (hobj : cellB.vm.isStatics = false) (hcls : s.vm.findClass C = some cellB.cls)
    {g : JFrame} (hg : g.method = m) (hsize : g.locals.size = c.maxLocals) {argsL rest : List Value} (hlen : ∀ sig, parseMethodDescriptor y.desc = some sig → argsL.length = sig.parameters.length)
    (hstack : g.stack = argsL.reverse ++ .ref b :: rest) (hW : 2 * g.monitorRoom + (rest.map fun v => v.category).sum ≤ W9) (hdg : decode c.code g.pc = .ok (.invokevirtual index, 3))
    (hpre : ∀ vm₁, s.WarmedH vm₁ → Pre ⟨T.setVm vm₁, locs, cells, slots⟩ (Value.ref b :: argsL).toArray) :
    ∃ (v : Option Value) (vm₁ : Vm) (B : Pt), s.WarmedH vm₁ ∧ Stand p l e R s m args below meth c B.U B.locs B.cells B.slots ∧ Post ⟨T.setVm vm₁, locs, cells, slots⟩ (Value.ref b :: argsL).toArray v B ∧
      ∀ target, Steps p.tables e below (B.U.setTop { g with pc := g.pc + 3, stack := v.toList ++ rest }) target → Steps p.tables e below (T.setTop g) target := by
  obtain ⟨mk, methM, hnamed, hmethM, hstM, habM⟩ := Cond.instanceMethod_spec hinst
  obtain ⟨m8, methM', cM, hn8, hmethM', -, -, -, -, -, -, hsigM⟩ := Cond.codeWith_spec hcode
  cases Option.some.inj (hn8.symm.trans hnamed)
  cases hmethM.symm.trans hmethM'
  obtain ⟨c2, r2, m2, q1, q2, q3, q4, kP, hkP, hkPi⟩ := Cond.selects_spec hsel
  cases hcls.symm.trans q1
  cases (State.methodFound?_of_named hnamed hy).symm.trans q2
  cases hnamed.symm.trans q3
  have hselP : selectMethod e.platform s.vm cellB.cls mk = .method mk := by rw [Launch.admits_selectMethod X.admits]; exact q4
  obtain ⟨vm₁, X₁, hstep₁⟩ := X.invokevirtual hexec hown hlink hnamed hmethM hstM hkP hkPi hy (a := b) (cell := cellB) hcell
    (fun z h => by rw [h] at hobj; cases hobj) hselP hmethM habM hkP hkPi (g := g) hg (argsL := argsL) (rest := rest) (hlen _ hsigM) hstack hdg
  obtain ⟨v, B, X', hpost, hsteps⟩ := hK m meth c ⟨T.setVm vm₁, locs, cells, slots⟩ { g with stack := rest } (.invokevirtual index) mk (Value.ref b :: argsL).toArray X₁ hg hsize hdg hW (X₁.named hnamed) (hpre vm₁ X₁.warmed)
  exact ⟨v, vm₁, B, X₁.warmed, X', hpost, fun target h => hstep₁ _ fun acts => by rw [doInvoke_state]; exact hsteps.trans h⟩
abbrev vx_CVW (R : Room) (s : State) (args : Array Value) (own C : String) (index : Nat) (y : MethodName) (bytes : ByteArray) (maxL : Nat) (ret : Option FieldType) (hh : List (Nat × Nat × Nat × Nat)) (ws : List Cond) (rm : Room) (mc ms n : Nat) : Prop :=
  (rm.cells = mc ∧ rm.slots = ms ∧ rm.frames + 1 ≤ R.frames ∧ 8 + (maxL + 11) + rm.locals ≤ R.locals ∧ (∀ w ∈ ws, ∀ (a' : Array Value) (U : State), s.WarmedH U.vm → w.before a' U = true) ∧ Cond.codeWith y bytes maxL ret hh ∈ ws) ∧
  (Cond.codeWith y bytes maxL ret hh).before args s = true ∧ (Cond.initialized y.cls).before args s = true ∧ (y.cls ≠ "java/lang/invoke/MethodHandle" ∧ y.cls ≠ "java/lang/invoke/VarHandle") ∧
  (∀ sig, parseMethodDescriptor y.desc = some sig → n = sig.parameters.length) ∧ (Cond.methodLink own index y).before args s = true ∧ (Cond.instanceMethod y).before args s = true ∧ (Cond.selects C y y).before args s = true
theorem vx_cwVW {own C : String} {index maxL mc ms : Nat} {y : MethodName} {bytes : ByteArray} {ret : Option FieldType} {hh : List (Nat × Nat × Nat × Nat)} {Ts ws ws' : List Cond} {rm : Room} (n : Nat) (ht : ∀ w ∈ Ts, w.before args s = true) (hT : GoodIn Ts (wsV own index C y ws)) (hw : ws = Cond.codeWith y bytes maxL ret hh :: ws') (hrc : rm.cells = mc) (hrs : rm.slots = ms)
    (hd : y.cls = C ∧ y.cls ≠ "java/lang/invoke/MethodHandle" ∧ y.cls ≠ "java/lang/invoke/VarHandle" ∧ (parseMethodDescriptor y.desc).map (fun d => d.parameters.length) = some n) (hR : rm.frames + 1 ≤ R.frames ∧ 8 + (maxL + 11) + rm.locals ≤ R.locals) :
    vx_CVW R s args own C index y bytes maxL ret hh ws rm mc ms n := by
  obtain ⟨hC, hd⟩ := hd
  subst hC
  have ok : ∀ w ∈ wsV own index y.cls y ws, w.before args s = true := fun w h => ht w (hT w h).1
  have hG : GoodIn Ts ws := fun w h => hT w (by unfold wsV; exact List.mem_append_right _ h)
  have hc : Cond.codeWith y bytes maxL ret hh ∈ ws := by rw [hw]; exact List.mem_cons_self
  refine ⟨⟨hrc, hrs, hR.1, hR.2, pay_in ht hG, hc⟩, ht _ (hG _ hc).1, ok _ (by simp [wsV]), ⟨hd.1, hd.2.1⟩, fun sig h => ?_, ok _ (by simp [wsV]), ok _ (by simp [wsV]), ok _ (by simp [wsV])⟩
  have h2 := hd.2.2
  rw [h] at h2
  exact (Option.some.inj h2).symm
theorem vx_runVW {y : MethodName} {bytes cc : ByteArray} {maxL nL mc ms n index : Nat} {ret : Option FieldType} {hh : List (Nat × Nat × Nat × Nat)} {ws : List Cond} {rm : Room} {Pc : Array Value → State → Prop} {Qc : Array Value → State → Outcome → State → Prop} {free : Addr → Prop} {Ts : List Cond} {own C : String} {b : Addr} {As rest : List Value} {g : JFrame}
    (S : CallFix p m c cc nL s args Ts own) (hM : Met l y ws rm Pc Qc mc ms free) (cw : vx_CVW R s args own C index y bytes maxL ret hh ws rm mc ms n) (hp : PreV s H C b Pc As)
    (hg : g.method = m) (hn : As.length = n) (hsize : g.locals.size = nL) (hstack : g.stack = As.reverse ++ .ref b :: rest) (hW : 2 * g.monitorRoom + (rest.map fun v => v.category).sum ≤ 8) (hdg : decode cc g.pc = .ok (.invokevirtual index, 3)) (hf : cells + mc ≤ R.cells ∧ slots + ms ≤ R.slots) :
    va_Run p l e R s m args below meth c H locs cells slots mc ms g rest (Qc (Value.ref b :: As).toArray) free := by
  obtain ⟨⟨hrc, hrs, hfr, hlo, hws, hcw⟩, hcode, hini, hy, hlen, hl, hin, hse⟩ := cw
  have hK : Back l R p e below s args y 3 8 (PreOf R mc ms Pc) (PostOf Qc mc ms free) := va_backW (hh := hh) (bytes := bytes) (maxL := maxL) (ret := ret) hM hp.1 hrc hrs hfr hlo hws hcw (fun a' U hW => word_at hW (Or.inl (by first | rfl | simp [Cond.onTables, Cond.keeps, Cond.steady])) hini)
  obtain ⟨hx, hb, hml, ho, -⟩ := S
  obtain ⟨-, ⟨cellB, hcB, hoB, hclB⟩, hPc⟩ := hp
  intro T hT X
  obtain ⟨v, vm₁, ⟨U', l2, c2, s2⟩, hW₁, X', ⟨g', mk, t, L, e1, e2, hq, h1, hL, h2, h3⟩, st⟩ := vx_callVW X hx (C := C) (hh := hh) (bytes := bytes) (maxL := maxL) (ret := ret) ho hl hin hse hcode hy hK (by rw [hT]; exact hcB) hoB hclB hg (hsize.trans hml.symm) (argsL := As) (rest := rest) (fun sig h => hn.trans (hlen sig h)) hstack hW (by rw [hb]; exact hdg)
    (fun vm₁ hW₁ => ⟨hf.1, hf.2, hPc (T.setVm vm₁) hT hW₁⟩)
  dsimp only [Pt.U, Pt.locs, Pt.cells, Pt.slots] at X' e1 e2 h1 h2 h3 st
  subst h1; subst h2; subst h3
  exact ⟨v, (T.setVm vm₁).calling g' mk (Value.ref b :: As).toArray, t, U', L, hT, X', hL, e1, e2, hq, st⟩
section
variable {y : MethodName} {bytes cc : ByteArray} {maxL nL mc ms n index : Nat} {ret : Option FieldType} {ws : List Cond} {rm : Room} {Pc : Array Value → State → Prop} {Qc : Array Value → State → Outcome → State → Prop} {XC : String → State → State → Prop} {free : Addr → Prop} {Ts : List Cond} {own C : String} {b : Addr} {As rest : List Value} {g : JFrame}
theorem vx_runVX {hh : List (Nat × Nat × Nat × Nat)} (S : CallFix p m c cc nL s args Ts own) (hM : vx_Met l y ws rm Pc Qc XC mc ms free) (cw : vx_CVW R s args own C index y bytes maxL ret hh ws rm mc ms n) (hp : PreV s H C b Pc As)
    (hg : g.method = m) (hn : As.length = n) (hsize : g.locals.size = nL) (hstack : g.stack = As.reverse ++ .ref b :: rest) (hW : 2 * g.monitorRoom + (rest.map fun v => v.category).sum ≤ 8) (hdg : decode cc g.pc = .ok (.invokevirtual index, 3)) (hf : cells + mc ≤ R.cells ∧ slots + ms ≤ R.slots) :
    vx_Run p l e R s m args below meth c H locs cells slots mc ms g rest (Qc (Value.ref b :: As).toArray) XC free := by
  obtain ⟨⟨hrc, hrs, hfr, hlo, hws, hcw⟩, hcode, hini, hy, hlen, hl, hin, hse⟩ := cw
  have hK : vx_Back l R p e below s args y 3 8 (PreOf R mc ms Pc) (PostOf Qc mc ms free) (vx_Post XC mc ms free) := vx_backW (hh := hh) (bytes := bytes) (maxL := maxL) (ret := ret) hM hp.1 hrc hrs hfr hlo hws hcw (fun a' U hW => word_at hW (Or.inl (by first | rfl | simp [Cond.onTables, Cond.keeps, Cond.steady])) hini)
  obtain ⟨hx, hb, hml, ho, -⟩ := S
  obtain ⟨-, ⟨cellB, hcB, hoB, hclB⟩, hPc⟩ := hp
  intro T hT X
  rcases vx_callVX X hx (C := C) (hh := hh) (bytes := bytes) (maxL := maxL) (ret := ret) ho hl hin hse hcode hy hK (by rw [hT]; exact hcB) hoB hclB hg (hsize.trans hml.symm) (argsL := As) (rest := rest) (fun sig h => hn.trans (hlen sig h)) hstack hW (by rw [hb]; exact hdg)
    (fun vm₁ hW₁ => ⟨hf.1, hf.2, hPc (T.setVm vm₁) hT hW₁⟩) with ⟨v, vm₁, ⟨U', l2, c2, s2⟩, hW₁, X', ⟨g', mk, t, L, e1, e2, hq, h1, hL, h2, h3⟩, st⟩ | ⟨q, vm₁, ⟨U', l2, c2, s2⟩, hW₁, X', ⟨g', mk, t, L, E, ce, e1, e2, hq, hce, hcv, hcl, h1, hL, h2, h3⟩, st⟩
  · dsimp only [Pt.U, Pt.locs, Pt.cells, Pt.slots] at X' e1 e2 h1 h2 h3 st
    subst h1; subst h2; subst h3
    exact Or.inl ⟨v, (T.setVm vm₁).calling g' mk (Value.ref b :: As).toArray, t, U', L, hT, X', hL, e1, e2, hq, st⟩
  · dsimp only [Pt.U, Pt.locs, Pt.cells, Pt.slots] at X' e1 e2 h1 h2 h3 st hcl
    subst h1; subst h2; subst h3
    exact Or.inr ⟨q, (T.setVm vm₁).calling g' mk (Value.ref b :: As).toArray, t, U', L, E, ce, hT, X', hL, e1, e2, hq, hce, hcv, vx_cls hW₁ hcl, st⟩
theorem vx_runSX {hh : List (Nat × Nat × Nat × Nat)} (S : CallFix p m c cc nL s args Ts own) (hM : vx_Met l y ws rm Pc Qc XC mc ms free) (cw : vx_CSW R s args own index y bytes maxL ret hh ws rm mc ms n) (hp : PreS s H Pc As)
    (hg : g.method = m) (hn : As.length = n) (hsize : g.locals.size = nL) (hstack : g.stack = As.reverse ++ rest) (hW : 2 * g.monitorRoom + (rest.map fun v => v.category).sum ≤ 8) (hdg : decode cc g.pc = .ok (.invokestatic index, 3)) (hf : cells + mc ≤ R.cells ∧ slots + ms ≤ R.slots) :
    vx_Run p l e R s m args below meth c H locs cells slots mc ms g rest (Qc As.toArray) XC free := by
  obtain ⟨⟨hrc, hrs, hfr, hlo, hws, hcw⟩, hcode, hini, hy, hlen, hl, hstt⟩ := cw
  have hK : vx_Back l R p e below s args y 3 8 (PreOf R mc ms Pc) (PostOf Qc mc ms free) (vx_Post XC mc ms free) := vx_backW (hh := hh) (bytes := bytes) (maxL := maxL) (ret := ret) hM hp.1 hrc hrs hfr hlo hws hcw (fun a' U hW => word_at hW (Or.inl (by first | rfl | simp [Cond.onTables, Cond.keeps, Cond.steady])) hini)
  obtain ⟨hx, hb, hml, ho, -⟩ := S
  intro T hT X
  rcases vx_callSX X hx (hh := hh) (bytes := bytes) (maxL := maxL) (ret := ret) ho hl hstt hini hcode hy hK hg (hsize.trans hml.symm) (argsL := As) (rest := rest) (fun sig h => hn.trans (hlen sig h)) hstack hW (by rw [hb]; exact hdg)
    (fun vm₁ hW₁ => ⟨hf.1, hf.2, hp.2 (T.setVm vm₁) hT hW₁⟩) with ⟨v, vm₁, ⟨U', l2, c2, s2⟩, hW₁, X', ⟨g', mk, t, L, e1, e2, hq, h1, hL, h2, h3⟩, st⟩ | ⟨q, vm₁, ⟨U', l2, c2, s2⟩, hW₁, X', ⟨g', mk, t, L, E, ce, e1, e2, hq, hce, hcv, hcl, h1, hL, h2, h3⟩, st⟩
  · dsimp only [Pt.U, Pt.locs, Pt.cells, Pt.slots] at X' e1 e2 h1 h2 h3 st
    subst h1; subst h2; subst h3
    exact Or.inl ⟨v, (T.setVm vm₁).calling g' mk As.toArray, t, U', L, hT, X', hL, e1, e2, hq, st⟩
  · dsimp only [Pt.U, Pt.locs, Pt.cells, Pt.slots] at X' e1 e2 h1 h2 h3 st hcl
    subst h1; subst h2; subst h3
    exact Or.inr ⟨q, (T.setVm vm₁).calling g' mk As.toArray, t, U', L, E, ce, hT, X', hL, e1, e2, hq, hce, hcv, vx_cls hW₁ hcl, st⟩
end
end VXH
theorem vx_ofWH {l : Launch} {y : MethodName} {ws ws' : List Cond} {rm : Room} {Pc : Array Value → State → Prop} {Qc : Array Value → State → Outcome → State → Prop} {XC : String → State → State → Prop} {mc ms : Nat} {free : Addr → Prop} {cc : ByteArray} {maxL : Nat} {ret : Option FieldType} {hh : List (Nat × Nat × Nat × Nat)}
    (hy : plainName y.cls = true) (hw : ws = Cond.codeWith y cc maxL ret hh :: ws')
    (body : ∀ p e s m args below meth c s₁, BodyLoose p l y (headSpec ws rm) cc maxL ret e s m args below meth c s₁ → c.maxLocals = maxL → Pc args s →
      W p l e (headSpec ws rm).room s m args below meth c s.heap [] 0 0 (vx_MQ below Qc XC args s mc ms free) (entryFrame m args maxL)) : vx_Met l y ws rm Pc Qc XC mc ms free := by
  refine MetFree.of_bodyS (code := cc) (maxLocals := maxL) (ret := ret) hy ?_ ?_
  · intro args s m h hn
    obtain ⟨m9, meth, c, hn9, h1, h2, h3, h4, -, h5, h6, -⟩ := Cond.codeWith_spec (atoms_spec (ws := ws) h _ (by rw [hw]; exact List.mem_cons_self))
    cases hn.symm.trans hn9
    exact ⟨meth, c, h1, h2, h3, h4, h5, h6⟩
  · intro p e s m args below meth c s₁ B hml hP _
    have hh0 : s₁.heap = s.heap := by rw [B.state]; rfl
    obtain ⟨t, a1, o, b1, b2, b3⟩ := body p e s m args below meth c s₁ B hml hP s₁ hh0 (Stand.of_body B)
    exact ⟨t, o, a1, b1, b2, b3⟩
/-! ===== END ===== -/
end
section
/-! ===== BEGIN printed: names, fields, word lists, decode rows ===== -/
def RX0 : String := "PennantRopes$History"
def TX0 : u_T := fun k => match k with
  | 0 => ("PennantRopes$History", "states", "[LPennantRopes$State;", true)
  | _ => ("PennantRopes$History", "size", "I", false)
def tyX0 : Nat → FieldType := fun k => match k with
  | 0 => .array (.object "PennantRopes$State")
  | _ => .int
abbrev wsX00 : List Cond := u_ws RX0 TX0 2
theorem nmX0 : ∀ a, a < 2 → ∀ b, b < 2 → a ≠ b → (TX0 a).2.1 ≠ (TX0 b).2.1 := by decide +kernel
theorem tyX0_ok : ∀ k, k < 2 → parseFieldDescriptor (TX0 k).2.2.1 = some (tyX0 k) := by decide +kernel
abbrev cX0_init : ByteArray := prog_2_method_1_code
def yX0_init : MethodName := ⟨RX0, "<init>", "()V"⟩
abbrev cX0_size : ByteArray := prog_2_method_2_code
def yX0_size : MethodName := ⟨RX0, "size", "()I"⟩
abbrev cX0_save : ByteArray := prog_2_method_3_code
def yX0_save : MethodName := ⟨RX0, "save", "(LPennantRopes$State;)V"⟩
abbrev cX0_restoreLatest : ByteArray := prog_2_method_4_code
def yX0_restoreLatest : MethodName := ⟨RX0, "restoreLatest", "(LPennantRopes$State;)V"⟩
abbrev cX0_rowAt : ByteArray := prog_2_method_5_code
def yX0_rowAt : MethodName := ⟨RX0, "rowAt", "(I)LPennantRopes$State;"⟩
abbrev cX0_dropOldest : ByteArray := prog_2_method_6_code
def yX0_dropOldest : MethodName := ⟨RX0, "dropOldest", "()V"⟩
def RX1 : String := "PennantRopes$Numbers"
def TX1 : u_T := fun k => match k with
  | _ => ("", "", "", false)
def tyX1 : Nat → FieldType := fun k => match k with
  | _ => .int
abbrev wsX10 : List Cond := u_ws RX1 TX1 0
theorem nmX1 : ∀ a, a < 0 → ∀ b, b < 0 → a ≠ b → (TX1 a).2.1 ≠ (TX1 b).2.1 := by decide +kernel
theorem tyX1_ok : ∀ k, k < 0 → parseFieldDescriptor (TX1 k).2.2.1 = some (tyX1 k) := by decide +kernel
abbrev cX1_remainder : ByteArray := prog_3_method_2_code
def yX1_remainder : MethodName := ⟨RX1, "remainder", "(II)I"⟩
abbrev cX1_greatestCommonDivisor : ByteArray := prog_3_method_3_code
def yX1_greatestCommonDivisor : MethodName := ⟨RX1, "greatestCommonDivisor", "(II)I"⟩
abbrev cX1_leastCommonMultiple : ByteArray := prog_3_method_4_code
def yX1_leastCommonMultiple : MethodName := ⟨RX1, "leastCommonMultiple", "(II)I"⟩
abbrev cX1_meetByRemainders : ByteArray := prog_3_method_5_code
def yX1_meetByRemainders : MethodName := ⟨RX1, "meetByRemainders", "(IIII)I"⟩
abbrev cX1_meetByWalking : ByteArray := prog_3_method_6_code
def yX1_meetByWalking : MethodName := ⟨RX1, "meetByWalking", "(IIII)I"⟩
abbrev cX1_bitsOfShare : ByteArray := prog_3_method_7_code
def yX1_bitsOfShare : MethodName := ⟨RX1, "bitsOfShare", "(D)J"⟩
def RX2 : String := "PennantRopes$Rope"
def TX2 : u_T := fun k => match k with
  | 0 => ("PennantRopes$Rope", "colours", "[I", true)
  | 1 => ("PennantRopes$Rope", "orders", "[I", true)
  | 2 => ("PennantRopes$Rope", "length", "I", false)
  | _ => ("PennantRopes$Rope", "hueCount", "I", false)
def tyX2 : Nat → FieldType := fun k => match k with
  | 0 => .array .int
  | 1 => .array .int
  | 2 => .int
  | _ => .int
abbrev wsX20 : List Cond := u_ws RX2 TX2 4
theorem nmX2 : ∀ a, a < 4 → ∀ b, b < 4 → a ≠ b → (TX2 a).2.1 ≠ (TX2 b).2.1 := by decide +kernel
theorem tyX2_ok : ∀ k, k < 4 → parseFieldDescriptor (TX2 k).2.2.1 = some (tyX2 k) := by decide +kernel
abbrev cX2_init : ByteArray := prog_4_method_1_code
def yX2_init : MethodName := ⟨RX2, "<init>", "()V"⟩
abbrev cX2_length : ByteArray := prog_4_method_2_code
def yX2_length : MethodName := ⟨RX2, "length", "()I"⟩
abbrev cX2_hueCount : ByteArray := prog_4_method_3_code
def yX2_hueCount : MethodName := ⟨RX2, "hueCount", "()I"⟩
abbrev cX2_begin : ByteArray := prog_4_method_4_code
def yX2_begin : MethodName := ⟨RX2, "begin", "(I)V"⟩
abbrev cX2_copyFrom : ByteArray := prog_4_method_5_code
def yX2_copyFrom : MethodName := ⟨RX2, "copyFrom", "(LPennantRopes$Rope;)V"⟩
abbrev cX2_colourAt : ByteArray := prog_4_method_6_code
def yX2_colourAt : MethodName := ⟨RX2, "colourAt", "(I)I"⟩
abbrev cX2_setColour : ByteArray := prog_4_method_7_code
def yX2_setColour : MethodName := ⟨RX2, "setColour", "(II)V"⟩
abbrev cX2_hueAt : ByteArray := prog_4_method_8_code
def yX2_hueAt : MethodName := ⟨RX2, "hueAt", "(I)I"⟩
abbrev cX2_orderOf : ByteArray := prog_4_method_9_code
def yX2_orderOf : MethodName := ⟨RX2, "orderOf", "(I)I"⟩
abbrev cX2_firstFrom : ByteArray := prog_4_method_10_code
def yX2_firstFrom : MethodName := ⟨RX2, "firstFrom", "(II)I"⟩
abbrev cX2_lastOf : ByteArray := prog_4_method_11_code
def yX2_lastOf : MethodName := ⟨RX2, "lastOf", "(I)I"⟩
abbrev cX2_placesOf : ByteArray := prog_4_method_12_code
def yX2_placesOf : MethodName := ⟨RX2, "placesOf", "(I)I"⟩
abbrev cX2_placesFrom : ByteArray := prog_4_method_13_code
def yX2_placesFrom : MethodName := ⟨RX2, "placesFrom", "(II)I"⟩
abbrev cX2_reasonAgainst : ByteArray := prog_4_method_14_code
def yX2_reasonAgainst : MethodName := ⟨RX2, "reasonAgainst", "(III)I"⟩
abbrev cX2_put : ByteArray := prog_4_method_15_code
def yX2_put : MethodName := ⟨RX2, "put", "(III)I"⟩
abbrev cX2_remove : ByteArray := prog_4_method_16_code
def yX2_remove : MethodName := ⟨RX2, "remove", "(I)I"⟩
abbrev cX2_differences : ByteArray := prog_4_method_17_code
def yX2_differences : MethodName := ⟨RX2, "differences", "(LPennantRopes$Rope;)I"⟩
abbrev cX2_mostHolesSideBySide : ByteArray := prog_4_method_18_code
def yX2_mostHolesSideBySide : MethodName := ⟨RX2, "mostHolesSideBySide", "()I"⟩
abbrev cX2_hueNumber : ByteArray := prog_4_method_19_code
def yX2_hueNumber : MethodName := ⟨RX2, "hueNumber", "(II)I"⟩
abbrev cX2_phaseNumber : ByteArray := prog_4_method_20_code
def yX2_phaseNumber : MethodName := ⟨RX2, "phaseNumber", "(III)I"⟩
abbrev cX2_fittingPhases : ByteArray := prog_4_method_21_code
def yX2_fittingPhases : MethodName := ⟨RX2, "fittingPhases", "(II)I"⟩
abbrev cX2_lowestPhase : ByteArray := prog_4_method_22_code
def yX2_lowestPhase : MethodName := ⟨RX2, "lowestPhase", "(II)I"⟩
abbrev cX2_fillingPhase : ByteArray := prog_4_method_23_code
def yX2_fillingPhase : MethodName := ⟨RX2, "fillingPhase", "(II)I"⟩
def RX3 : String := "PennantRopes$State"
def TX3 : u_T := fun k => match k with
  | 0 => ("PennantRopes$State", "gaps", "[I", true)
  | 1 => ("PennantRopes$State", "ropes", "[LPennantRopes$Rope;", true)
  | 2 => ("PennantRopes$State", "ropeCount", "I", false)
  | 3 => ("PennantRopes$State", "layings", "I", false)
  | 4 => ("PennantRopes$State", "joins", "I", false)
  | _ => ("PennantRopes$State", "cuts", "I", false)
def tyX3 : Nat → FieldType := fun k => match k with
  | 0 => .array .int
  | 1 => .array (.object "PennantRopes$Rope")
  | 2 => .int
  | 3 => .int
  | 4 => .int
  | _ => .int
abbrev wsX30 : List Cond := u_ws RX3 TX3 6
theorem nmX3 : ∀ a, a < 6 → ∀ b, b < 6 → a ≠ b → (TX3 a).2.1 ≠ (TX3 b).2.1 := by decide +kernel
theorem tyX3_ok : ∀ k, k < 6 → parseFieldDescriptor (TX3 k).2.2.1 = some (tyX3 k) := by decide +kernel
abbrev cX3_init : ByteArray := prog_5_method_1_code
def yX3_init : MethodName := ⟨RX3, "<init>", "()V"⟩
abbrev cX3_copyFrom : ByteArray := prog_5_method_2_code
def yX3_copyFrom : MethodName := ⟨RX3, "copyFrom", "(LPennantRopes$State;)V"⟩
abbrev cX3_gapAt : ByteArray := prog_5_method_3_code
def yX3_gapAt : MethodName := ⟨RX3, "gapAt", "(I)I"⟩
abbrev cX3_setGap : ByteArray := prog_5_method_4_code
def yX3_setGap : MethodName := ⟨RX3, "setGap", "(II)V"⟩
abbrev cX3_ropeCount : ByteArray := prog_5_method_5_code
def yX3_ropeCount : MethodName := ⟨RX3, "ropeCount", "()I"⟩
abbrev cX3_ropeAt : ByteArray := prog_5_method_6_code
def yX3_ropeAt : MethodName := ⟨RX3, "ropeAt", "(I)LPennantRopes$Rope;"⟩
abbrev cX3_addRope : ByteArray := prog_5_method_7_code
def yX3_addRope : MethodName := ⟨RX3, "addRope", "(I)LPennantRopes$Rope;"⟩
abbrev cX3_removeRope : ByteArray := prog_5_method_8_code
def yX3_removeRope : MethodName := ⟨RX3, "removeRope", "(I)V"⟩
abbrev cX3_layOn : ByteArray := prog_5_method_9_code
def yX3_layOn : MethodName := ⟨RX3, "layOn", "(LPennantRopes$Rope;II)I"⟩
abbrev cX3_countJoin : ByteArray := prog_5_method_10_code
def yX3_countJoin : MethodName := ⟨RX3, "countJoin", "()V"⟩
abbrev cX3_countCut : ByteArray := prog_5_method_11_code
def yX3_countCut : MethodName := ⟨RX3, "countCut", "()V"⟩
abbrev cX3_layings : ByteArray := prog_5_method_12_code
def yX3_layings : MethodName := ⟨RX3, "layings", "()I"⟩
abbrev cX3_joins : ByteArray := prog_5_method_13_code
def yX3_joins : MethodName := ⟨RX3, "joins", "()I"⟩
abbrev cX3_cuts : ByteArray := prog_5_method_14_code
def yX3_cuts : MethodName := ⟨RX3, "cuts", "()I"⟩
abbrev cX3_places : ByteArray := prog_5_method_15_code
def yX3_places : MethodName := ⟨RX3, "places", "()I"⟩
abbrev cX3_holes : ByteArray := prog_5_method_16_code
def yX3_holes : MethodName := ⟨RX3, "holes", "()I"⟩
abbrev cX3_laidHues : ByteArray := prog_5_method_17_code
def yX3_laidHues : MethodName := ⟨RX3, "laidHues", "()I"⟩
abbrev cX3_isLaidOnSome : ByteArray := prog_5_method_18_code
def yX3_isLaidOnSome : MethodName := ⟨RX3, "isLaidOnSome", "(I)Z"⟩
def RX4 : String := "PennantRopes$Text"
def TX4 : u_T := fun k => match k with
  | 0 => ("PennantRopes$Text", "codes", "[I", true)
  | _ => ("PennantRopes$Text", "length", "I", false)
def tyX4 : Nat → FieldType := fun k => match k with
  | 0 => .array .int
  | _ => .int
abbrev wsX40 : List Cond := u_ws RX4 TX4 2
theorem nmX4 : ∀ a, a < 2 → ∀ b, b < 2 → a ≠ b → (TX4 a).2.1 ≠ (TX4 b).2.1 := by decide +kernel
theorem tyX4_ok : ∀ k, k < 2 → parseFieldDescriptor (TX4 k).2.2.1 = some (tyX4 k) := by decide +kernel
abbrev cX4_init : ByteArray := prog_6_method_1_code
def yX4_init : MethodName := ⟨RX4, "<init>", "()V"⟩
abbrev cX4_length : ByteArray := prog_6_method_2_code
def yX4_length : MethodName := ⟨RX4, "length", "()I"⟩
abbrev cX4_isFull : ByteArray := prog_6_method_3_code
def yX4_isFull : MethodName := ⟨RX4, "isFull", "()Z"⟩
abbrev cX4_add : ByteArray := prog_6_method_4_code
def yX4_add : MethodName := ⟨RX4, "add", "(I)V"⟩
abbrev cX4_empty : ByteArray := prog_6_method_5_code
def yX4_empty : MethodName := ⟨RX4, "empty", "()V"⟩
abbrev cX4_codeAt : ByteArray := prog_6_method_6_code
def yX4_codeAt : MethodName := ⟨RX4, "codeAt", "(I)I"⟩
abbrev cX4_firstWrong : ByteArray := prog_6_method_7_code
def yX4_firstWrong : MethodName := ⟨RX4, "firstWrong", "()I"⟩
abbrev cX4_isComplete : ByteArray := prog_6_method_8_code
def yX4_isComplete : MethodName := ⟨RX4, "isComplete", "()Z"⟩
abbrev cX4_partEnd : ByteArray := prog_6_method_9_code
def yX4_partEnd : MethodName := ⟨RX4, "partEnd", "(I)I"⟩
abbrev cX4_numberIn : ByteArray := prog_6_method_10_code
def yX4_numberIn : MethodName := ⟨RX4, "numberIn", "(II)I"⟩
abbrev cX4_dueBehind : ByteArray := prog_6_method_11_code
def yX4_dueBehind : MethodName := ⟨RX4, "dueBehind", "(II)I"⟩
abbrev cX4_dueBehindFirst : ByteArray := prog_6_method_12_code
def yX4_dueBehindFirst : MethodName := ⟨RX4, "dueBehindFirst", "(I)I"⟩
abbrev cX4_dueBehindLengthDigit : ByteArray := prog_6_method_13_code
def yX4_dueBehindLengthDigit : MethodName := ⟨RX4, "dueBehindLengthDigit", "(I)I"⟩
abbrev cX4_dueBehindPhaseDigit : ByteArray := prog_6_method_14_code
def yX4_dueBehindPhaseDigit : MethodName := ⟨RX4, "dueBehindPhaseDigit", "(I)I"⟩
abbrev cX4_dueBehindComma : ByteArray := prog_6_method_15_code
def yX4_dueBehindComma : MethodName := ⟨RX4, "dueBehindComma", "(I)I"⟩
abbrev cX4_isHue : ByteArray := prog_6_method_16_code
def yX4_isHue : MethodName := ⟨RX4, "isHue", "(I)Z"⟩
abbrev cX4_isBetween : ByteArray := prog_6_method_17_code
def yX4_isBetween : MethodName := ⟨RX4, "isBetween", "(III)Z"⟩
def RX5 : String := "PennantRopes"
def TX5 : u_T := fun k => match k with
  | 0 => ("PennantRopes", "now", "LPennantRopes$State;", true)
  | 1 => ("PennantRopes", "kept", "LPennantRopes$State;", true)
  | 2 => ("PennantRopes", "history", "LPennantRopes$History;", true)
  | 3 => ("PennantRopes", "text", "LPennantRopes$Text;", true)
  | 4 => ("PennantRopes", "draft", "LPennantRopes$Rope;", true)
  | _ => ("PennantRopes", "hasKept", "Z", false)
def tyX5 : Nat → FieldType := fun k => match k with
  | 0 => .object "PennantRopes$State"
  | 1 => .object "PennantRopes$State"
  | 2 => .object "PennantRopes$History"
  | 3 => .object "PennantRopes$Text"
  | 4 => .object "PennantRopes$Rope"
  | _ => .boolean
abbrev wsX50 : List Cond := u_ws RX5 TX5 6
theorem nmX5 : ∀ a, a < 6 → ∀ b, b < 6 → a ≠ b → (TX5 a).2.1 ≠ (TX5 b).2.1 := by decide +kernel
theorem tyX5_ok : ∀ k, k < 6 → parseFieldDescriptor (TX5 k).2.2.1 = some (tyX5 k) := by decide +kernel
abbrev cX5_init : ByteArray := prog_1_method_1_code
def yX5_init : MethodName := ⟨RX5, "<init>", "()V"⟩
abbrev cX5_gap : ByteArray := prog_1_method_2_code
def yX5_gap : MethodName := ⟨RX5, "gap", "(II)I"⟩
abbrev cX5_rope : ByteArray := prog_1_method_3_code
def yX5_rope : MethodName := ⟨RX5, "rope", "(I)I"⟩
abbrev cX5_drop : ByteArray := prog_1_method_4_code
def yX5_drop : MethodName := ⟨RX5, "drop", "(I)I"⟩
abbrev cX5_lay : ByteArray := prog_1_method_5_code
def yX5_lay : MethodName := ⟨RX5, "lay", "(III)I"⟩
abbrev cX5_take : ByteArray := prog_1_method_6_code
def yX5_take : MethodName := ⟨RX5, "take", "(II)I"⟩
abbrev cX5_stretch : ByteArray := prog_1_method_7_code
def yX5_stretch : MethodName := ⟨RX5, "stretch", "(II)I"⟩
abbrev cX5_cut : ByteArray := prog_1_method_8_code
def yX5_cut : MethodName := ⟨RX5, "cut", "(II)I"⟩
abbrev cX5_turn : ByteArray := prog_1_method_9_code
def yX5_turn : MethodName := ⟨RX5, "turn", "(I)I"⟩
abbrev cX5_join : ByteArray := prog_1_method_10_code
def yX5_join : MethodName := ⟨RX5, "join", "(II)I"⟩
abbrev cX5_append : ByteArray := prog_1_method_11_code
def yX5_append : MethodName := ⟨RX5, "append", "(I)I"⟩
abbrev cX5_clearBuffer : ByteArray := prog_1_method_12_code
def yX5_clearBuffer : MethodName := ⟨RX5, "clearBuffer", "()I"⟩
abbrev cX5_firstError : ByteArray := prog_1_method_13_code
def yX5_firstError : MethodName := ⟨RX5, "firstError", "()I"⟩
abbrev cX5_play : ByteArray := prog_1_method_14_code
def yX5_play : MethodName := ⟨RX5, "play", "()I"⟩
abbrev cX5_undo : ByteArray := prog_1_method_15_code
def yX5_undo : MethodName := ⟨RX5, "undo", "()I"⟩
abbrev cX5_keep : ByteArray := prog_1_method_16_code
def yX5_keep : MethodName := ⟨RX5, "keep", "()I"⟩
abbrev cX5_restore : ByteArray := prog_1_method_17_code
def yX5_restore : MethodName := ⟨RX5, "restore", "()I"⟩
abbrev cX5_place : ByteArray := prog_1_method_18_code
def yX5_place : MethodName := ⟨RX5, "place", "(II)I"⟩
abbrev cX5_ropeOf : ByteArray := prog_1_method_19_code
def yX5_ropeOf : MethodName := ⟨RX5, "ropeOf", "(II)I"⟩
abbrev cX5_hueOf : ByteArray := prog_1_method_20_code
def yX5_hueOf : MethodName := ⟨RX5, "hueOf", "(III)I"⟩
abbrev cX5_gapOf : ByteArray := prog_1_method_21_code
def yX5_gapOf : MethodName := ⟨RX5, "gapOf", "(I)I"⟩
abbrev cX5_count : ByteArray := prog_1_method_22_code
def yX5_count : MethodName := ⟨RX5, "count", "(I)I"⟩
abbrev cX5_refusal : ByteArray := prog_1_method_23_code
def yX5_refusal : MethodName := ⟨RX5, "refusal", "(III)I"⟩
abbrev cX5_meeting : ByteArray := prog_1_method_24_code
def yX5_meeting : MethodName := ⟨RX5, "meeting", "(IIII)I"⟩
abbrev cX5_walked : ByteArray := prog_1_method_25_code
def yX5_walked : MethodName := ⟨RX5, "walked", "(IIII)I"⟩
abbrev cX5_phases : ByteArray := prog_1_method_26_code
def yX5_phases : MethodName := ⟨RX5, "phases", "(III)I"⟩
abbrev cX5_bestHue : ByteArray := prog_1_method_27_code
def yX5_bestHue : MethodName := ⟨RX5, "bestHue", "(I)I"⟩
abbrev cX5_joining : ByteArray := prog_1_method_28_code
def yX5_joining : MethodName := ⟨RX5, "joining", "(II)I"⟩
abbrev cX5_greatest : ByteArray := prog_1_method_29_code
def yX5_greatest : MethodName := ⟨RX5, "greatest", "(I)I"⟩
abbrev cX5_fullness : ByteArray := prog_1_method_30_code
def yX5_fullness : MethodName := ⟨RX5, "fullness", "()D"⟩
abbrev cX5_digest : ByteArray := prog_1_method_31_code
def yX5_digest : MethodName := ⟨RX5, "digest", "()J"⟩
abbrev cX5_existing : ByteArray := prog_1_method_32_code
def yX5_existing : MethodName := ⟨RX5, "existing", "(I)LPennantRopes$Rope;"⟩
abbrev cX5_requireHue : ByteArray := prog_1_method_33_code
def yX5_requireHue : MethodName := ⟨RX5, "requireHue", "(I)V"⟩
abbrev cX5_requirePhase : ByteArray := prog_1_method_34_code
def yX5_requirePhase : MethodName := ⟨RX5, "requirePhase", "(II)V"⟩
abbrev cX5_requireLength : ByteArray := prog_1_method_35_code
def yX5_requireLength : MethodName := ⟨RX5, "requireLength", "(I)V"⟩
abbrev cX5_requireWhat : ByteArray := prog_1_method_36_code
def yX5_requireWhat : MethodName := ⟨RX5, "requireWhat", "(II)V"⟩
abbrev cX5_requireRoomForRope : ByteArray := prog_1_method_37_code
def yX5_requireRoomForRope : MethodName := ⟨RX5, "requireRoomForRope", "()V"⟩
abbrev cX5_changeLength : ByteArray := prog_1_method_38_code
def yX5_changeLength : MethodName := ⟨RX5, "changeLength", "(LPennantRopes$Rope;I)V"⟩
abbrev cX5_layBack : ByteArray := prog_1_method_39_code
def yX5_layBack : MethodName := ⟨RX5, "layBack", "(LPennantRopes$Rope;ILPennantRopes$Rope;)V"⟩
abbrev cX5_turnRound : ByteArray := prog_1_method_40_code
def yX5_turnRound : MethodName := ⟨RX5, "turnRound", "(LPennantRopes$Rope;)I"⟩
abbrev cX5_draftJoined : ByteArray := prog_1_method_41_code
def yX5_draftJoined : MethodName := ⟨RX5, "draftJoined", "(LPennantRopes$Rope;LPennantRopes$Rope;)Z"⟩
abbrev cX5_draftLaid : ByteArray := prog_1_method_42_code
def yX5_draftLaid : MethodName := ⟨RX5, "draftLaid", "(II)Z"⟩
abbrev cX5_playPart : ByteArray := prog_1_method_43_code
def yX5_playPart : MethodName := ⟨RX5, "playPart", "(II)Z"⟩
abbrev cX5_playLaying : ByteArray := prog_1_method_44_code
def yX5_playLaying : MethodName := ⟨RX5, "playLaying", "(LPennantRopes$Rope;II)Z"⟩
abbrev cX5_reasonAgainstJoining : ByteArray := prog_1_method_45_code
def yX5_reasonAgainstJoining : MethodName := ⟨RX5, "reasonAgainstJoining", "(LPennantRopes$Rope;LPennantRopes$Rope;)I"⟩
abbrev cX5_greatestLength : ByteArray := prog_1_method_46_code
def yX5_greatestLength : MethodName := ⟨RX5, "greatestLength", "(LPennantRopes$Rope;)I"⟩
abbrev cX5_huesDueAt : ByteArray := prog_1_method_47_code
def yX5_huesDueAt : MethodName := ⟨RX5, "huesDueAt", "(LPennantRopes$Rope;I)I"⟩
abbrev cX5_fillingHue : ByteArray := prog_1_method_48_code
def yX5_fillingHue : MethodName := ⟨RX5, "fillingHue", "(LPennantRopes$Rope;)I"⟩
abbrev cX5_period : ByteArray := prog_1_method_49_code
def yX5_period : MethodName := ⟨RX5, "period", "(LPennantRopes$Rope;)I"⟩
abbrev cX5_ropeNumber : ByteArray := prog_1_method_50_code
def yX5_ropeNumber : MethodName := ⟨RX5, "ropeNumber", "(LPennantRopes$Rope;I)I"⟩
abbrev cX5_counted : ByteArray := prog_1_method_51_code
def yX5_counted : MethodName := ⟨RX5, "counted", "(I)I"⟩
abbrev cX5_mixed : ByteArray := prog_1_method_52_code
def yX5_mixed : MethodName := ⟨RX5, "mixed", "(JJ)J"⟩
abbrev cX5_ropeMixed : ByteArray := prog_1_method_53_code
def yX5_ropeMixed : MethodName := ⟨RX5, "ropeMixed", "(JI)J"⟩
abbrev cX5_hueMixed : ByteArray := prog_1_method_54_code
def yX5_hueMixed : MethodName := ⟨RX5, "hueMixed", "(JLPennantRopes$Rope;I)J"⟩
def RX6 : String := "PennantRopesModel"
def TX6 : u_T := fun k => match k with
  | 0 => ("PennantRopesModel", "thrown", "I", false)
  | 1 => ("PennantRopesModel", "s", "[I", true)
  | 2 => ("PennantRopesModel", "aside", "[I", true)
  | 3 => ("PennantRopesModel", "snapshot", "[I", true)
  | 4 => ("PennantRopesModel", "isKept", "Z", false)
  | 5 => ("PennantRopesModel", "saved", "[I", true)
  | 6 => ("PennantRopesModel", "savedMany", "I", false)
  | 7 => ("PennantRopesModel", "text", "[I", true)
  | 8 => ("PennantRopesModel", "length", "I", false)
  | 9 => ("PennantRopesModel", "old", "[I", true)
  | 10 => ("PennantRopesModel", "position", "I", false)
  | 11 => ("PennantRopesModel", "isWrong", "Z", false)
  | 12 => ("PennantRopesModel", "sign", "I", false)
  | 13 => ("PennantRopesModel", "first", "I", false)
  | 14 => ("PennantRopesModel", "second", "I", false)
  | _ => ("PennantRopesModel", "digested", "J", false)
def tyX6 : Nat → FieldType := fun k => match k with
  | 0 => .int
  | 1 => .array .int
  | 2 => .array .int
  | 3 => .array .int
  | 4 => .boolean
  | 5 => .array .int
  | 6 => .int
  | 7 => .array .int
  | 8 => .int
  | 9 => .array .int
  | 10 => .int
  | 11 => .boolean
  | 12 => .int
  | 13 => .int
  | 14 => .int
  | _ => .long
abbrev wsX60 : List Cond := u_ws RX6 TX6 16
theorem nmX6 : ∀ a, a < 16 → ∀ b, b < 16 → a ≠ b → (TX6 a).2.1 ≠ (TX6 b).2.1 := by decide +kernel
theorem tyX6_ok : ∀ k, k < 16 → parseFieldDescriptor (TX6 k).2.2.1 = some (tyX6 k) := by decide +kernel
abbrev cX6_init : ByteArray := prog_8_method_1_code
def yX6_init : MethodName := ⟨RX6, "<init>", "()V"⟩
abbrev cX6_thrown : ByteArray := prog_8_method_2_code
def yX6_thrown : MethodName := ⟨RX6, "thrown", "()I"⟩
abbrev cX6_in : ByteArray := prog_8_method_3_code
def yX6_in : MethodName := ⟨RX6, "in", "(III)Z"⟩
abbrev cX6_holds : ByteArray := prog_8_method_4_code
def yX6_holds : MethodName := ⟨RX6, "holds", "(I)Z"⟩
abbrev cX6_isHue : ByteArray := prog_8_method_5_code
def yX6_isHue : MethodName := ⟨RX6, "isHue", "(I)Z"⟩
abbrev cX6_isRope : ByteArray := prog_8_method_6_code
def yX6_isRope : MethodName := ⟨RX6, "isRope", "(I)Z"⟩
abbrev cX6_isPhase : ByteArray := prog_8_method_7_code
def yX6_isPhase : MethodName := ⟨RX6, "isPhase", "(II)Z"⟩
abbrev cX6_of : ByteArray := prog_8_method_8_code
def yX6_of : MethodName := ⟨RX6, "of", "(II)I"⟩
abbrev cX6_phaseOf : ByteArray := prog_8_method_9_code
def yX6_phaseOf : MethodName := ⟨RX6, "phaseOf", "(II)I"⟩
abbrev cX6_isLaid : ByteArray := prog_8_method_10_code
def yX6_isLaid : MethodName := ⟨RX6, "isLaid", "(II)Z"⟩
abbrev cX6_save : ByteArray := prog_8_method_11_code
def yX6_save : MethodName := ⟨RX6, "save", "()V"⟩
abbrev cX6_putAside : ByteArray := prog_8_method_12_code
def yX6_putAside : MethodName := ⟨RX6, "putAside", "()V"⟩
abbrev cX6_putBack : ByteArray := prog_8_method_13_code
def yX6_putBack : MethodName := ⟨RX6, "putBack", "()V"⟩
abbrev cX6_takes : ByteArray := prog_8_method_14_code
def yX6_takes : MethodName := ⟨RX6, "takes", "(III)Z"⟩
abbrev cX6_hueAt : ByteArray := prog_8_method_15_code
def yX6_hueAt : MethodName := ⟨RX6, "hueAt", "(II)I"⟩
abbrev cX6_takers : ByteArray := prog_8_method_16_code
def yX6_takers : MethodName := ⟨RX6, "takers", "(II)I"⟩
abbrev cX6_clash : ByteArray := prog_8_method_17_code
def yX6_clash : MethodName := ⟨RX6, "clash", "(I)I"⟩
abbrev cX6_placesOf : ByteArray := prog_8_method_18_code
def yX6_placesOf : MethodName := ⟨RX6, "placesOf", "(II)I"⟩
abbrev cX6_lastOf : ByteArray := prog_8_method_19_code
def yX6_lastOf : MethodName := ⟨RX6, "lastOf", "(II)I"⟩
abbrev cX6_clears : ByteArray := prog_8_method_20_code
def yX6_clears : MethodName := ⟨RX6, "clears", "(II)V"⟩
abbrev cX6_lays : ByteArray := prog_8_method_21_code
def yX6_lays : MethodName := ⟨RX6, "lays", "(III)V"⟩
abbrev cX6_remembers : ByteArray := prog_8_method_22_code
def yX6_remembers : MethodName := ⟨RX6, "remembers", "(I)V"⟩
abbrev cX6_laysFrom : ByteArray := prog_8_method_23_code
def yX6_laysFrom : MethodName := ⟨RX6, "laysFrom", "(II)V"⟩
abbrev cX6_drops : ByteArray := prog_8_method_24_code
def yX6_drops : MethodName := ⟨RX6, "drops", "(I)V"⟩
abbrev cX6_turns : ByteArray := prog_8_method_25_code
def yX6_turns : MethodName := ⟨RX6, "turns", "(I)V"⟩
abbrev cX6_unlikeTurned : ByteArray := prog_8_method_26_code
def yX6_unlikeTurned : MethodName := ⟨RX6, "unlikeTurned", "(I)I"⟩
abbrev cX6_takesOff : ByteArray := prog_8_method_27_code
def yX6_takesOff : MethodName := ⟨RX6, "takesOff", "(II)V"⟩
abbrev cX6_isLaidAnywhere : ByteArray := prog_8_method_28_code
def yX6_isLaidAnywhere : MethodName := ⟨RX6, "isLaidAnywhere", "(I)Z"⟩
abbrev cX6_gap : ByteArray := prog_8_method_29_code
def yX6_gap : MethodName := ⟨RX6, "gap", "(II)I"⟩
abbrev cX6_adds : ByteArray := prog_8_method_30_code
def yX6_adds : MethodName := ⟨RX6, "adds", "(I)V"⟩
abbrev cX6_rope : ByteArray := prog_8_method_31_code
def yX6_rope : MethodName := ⟨RX6, "rope", "(I)I"⟩
abbrev cX6_drop : ByteArray := prog_8_method_32_code
def yX6_drop : MethodName := ⟨RX6, "drop", "(I)I"⟩
abbrev cX6_why : ByteArray := prog_8_method_33_code
def yX6_why : MethodName := ⟨RX6, "why", "(III)I"⟩
abbrev cX6_areThere : ByteArray := prog_8_method_34_code
def yX6_areThere : MethodName := ⟨RX6, "areThere", "(II)Z"⟩
abbrev cX6_lay : ByteArray := prog_8_method_35_code
def yX6_lay : MethodName := ⟨RX6, "lay", "(III)I"⟩
abbrev cX6_take : ByteArray := prog_8_method_36_code
def yX6_take : MethodName := ⟨RX6, "take", "(II)I"⟩
abbrev cX6_stretch : ByteArray := prog_8_method_37_code
def yX6_stretch : MethodName := ⟨RX6, "stretch", "(II)I"⟩
abbrev cX6_cut : ByteArray := prog_8_method_38_code
def yX6_cut : MethodName := ⟨RX6, "cut", "(II)I"⟩
abbrev cX6_turn : ByteArray := prog_8_method_39_code
def yX6_turn : MethodName := ⟨RX6, "turn", "(I)I"⟩
abbrev cX6_phaseBehind : ByteArray := prog_8_method_40_code
def yX6_phaseBehind : MethodName := ⟨RX6, "phaseBehind", "(III)I"⟩
abbrev cX6_joinsWith : ByteArray := prog_8_method_41_code
def yX6_joinsWith : MethodName := ⟨RX6, "joinsWith", "(II)V"⟩
abbrev cX6_whyNotJoined : ByteArray := prog_8_method_42_code
def yX6_whyNotJoined : MethodName := ⟨RX6, "whyNotJoined", "(II)I"⟩
abbrev cX6_join : ByteArray := prog_8_method_43_code
def yX6_join : MethodName := ⟨RX6, "join", "(II)I"⟩
abbrev cX6_append : ByteArray := prog_8_method_44_code
def yX6_append : MethodName := ⟨RX6, "append", "(I)I"⟩
abbrev cX6_clearBuffer : ByteArray := prog_8_method_45_code
def yX6_clearBuffer : MethodName := ⟨RX6, "clearBuffer", "()I"⟩
abbrev cX6_isNext : ByteArray := prog_8_method_46_code
def yX6_isNext : MethodName := ⟨RX6, "isNext", "(II)Z"⟩
abbrev cX6_reads : ByteArray := prog_8_method_47_code
def yX6_reads : MethodName := ⟨RX6, "reads", "(II)I"⟩
abbrev cX6_readsNumber : ByteArray := prog_8_method_48_code
def yX6_readsNumber : MethodName := ⟨RX6, "readsNumber", "(II)I"⟩
abbrev cX6_readsPart : ByteArray := prog_8_method_49_code
def yX6_readsPart : MethodName := ⟨RX6, "readsPart", "()V"⟩
abbrev cX6_does : ByteArray := prog_8_method_50_code
def yX6_does : MethodName := ⟨RX6, "does", "()Z"⟩
abbrev cX6_goes : ByteArray := prog_8_method_51_code
def yX6_goes : MethodName := ⟨RX6, "goes", "(Z)I"⟩
abbrev cX6_firstError : ByteArray := prog_8_method_52_code
def yX6_firstError : MethodName := ⟨RX6, "firstError", "()I"⟩
abbrev cX6_play : ByteArray := prog_8_method_53_code
def yX6_play : MethodName := ⟨RX6, "play", "()I"⟩
abbrev cX6_undo : ByteArray := prog_8_method_54_code
def yX6_undo : MethodName := ⟨RX6, "undo", "()I"⟩
abbrev cX6_keep : ByteArray := prog_8_method_55_code
def yX6_keep : MethodName := ⟨RX6, "keep", "()I"⟩
abbrev cX6_restore : ByteArray := prog_8_method_56_code
def yX6_restore : MethodName := ⟨RX6, "restore", "()I"⟩
abbrev cX6_place : ByteArray := prog_8_method_57_code
def yX6_place : MethodName := ⟨RX6, "place", "(II)I"⟩
abbrev cX6_holes : ByteArray := prog_8_method_58_code
def yX6_holes : MethodName := ⟨RX6, "holes", "(I)I"⟩
abbrev cX6_firstHole : ByteArray := prog_8_method_59_code
def yX6_firstHole : MethodName := ⟨RX6, "firstHole", "(I)I"⟩
abbrev cX6_holesSideBySide : ByteArray := prog_8_method_60_code
def yX6_holesSideBySide : MethodName := ⟨RX6, "holesSideBySide", "(I)I"⟩
abbrev cX6_divisor : ByteArray := prog_8_method_61_code
def yX6_divisor : MethodName := ⟨RX6, "divisor", "(II)I"⟩
abbrev cX6_period : ByteArray := prog_8_method_62_code
def yX6_period : MethodName := ⟨RX6, "period", "(I)I"⟩
abbrev cX6_toldOfRope : ByteArray := prog_8_method_63_code
def yX6_toldOfRope : MethodName := ⟨RX6, "toldOfRope", "(II)I"⟩
abbrev cX6_ropeOf : ByteArray := prog_8_method_64_code
def yX6_ropeOf : MethodName := ⟨RX6, "ropeOf", "(II)I"⟩
abbrev cX6_orderOf : ByteArray := prog_8_method_65_code
def yX6_orderOf : MethodName := ⟨RX6, "orderOf", "(II)I"⟩
abbrev cX6_toldOfHue : ByteArray := prog_8_method_66_code
def yX6_toldOfHue : MethodName := ⟨RX6, "toldOfHue", "(III)I"⟩
abbrev cX6_hueOf : ByteArray := prog_8_method_67_code
def yX6_hueOf : MethodName := ⟨RX6, "hueOf", "(III)I"⟩
abbrev cX6_gapOf : ByteArray := prog_8_method_68_code
def yX6_gapOf : MethodName := ⟨RX6, "gapOf", "(I)I"⟩
abbrev cX6_sum : ByteArray := prog_8_method_69_code
def yX6_sum : MethodName := ⟨RX6, "sum", "(Z)I"⟩
abbrev cX6_huesLaid : ByteArray := prog_8_method_70_code
def yX6_huesLaid : MethodName := ⟨RX6, "huesLaid", "()I"⟩
abbrev cX6_counted : ByteArray := prog_8_method_71_code
def yX6_counted : MethodName := ⟨RX6, "counted", "(I)I"⟩
abbrev cX6_count : ByteArray := prog_8_method_72_code
def yX6_count : MethodName := ⟨RX6, "count", "(I)I"⟩
abbrev cX6_refusal : ByteArray := prog_8_method_73_code
def yX6_refusal : MethodName := ⟨RX6, "refusal", "(III)I"⟩
abbrev cX6_meet : ByteArray := prog_8_method_74_code
def yX6_meet : MethodName := ⟨RX6, "meet", "(IIII)I"⟩
abbrev cX6_canMeet : ByteArray := prog_8_method_75_code
def yX6_canMeet : MethodName := ⟨RX6, "canMeet", "(IIII)Z"⟩
abbrev cX6_meeting : ByteArray := prog_8_method_76_code
def yX6_meeting : MethodName := ⟨RX6, "meeting", "(IIII)I"⟩
abbrev cX6_walked : ByteArray := prog_8_method_77_code
def yX6_walked : MethodName := ⟨RX6, "walked", "(IIII)I"⟩
abbrev cX6_wouldTake : ByteArray := prog_8_method_78_code
def yX6_wouldTake : MethodName := ⟨RX6, "wouldTake", "(III)I"⟩
abbrev cX6_toldOfPhases : ByteArray := prog_8_method_79_code
def yX6_toldOfPhases : MethodName := ⟨RX6, "toldOfPhases", "(III)I"⟩
abbrev cX6_phases : ByteArray := prog_8_method_80_code
def yX6_phases : MethodName := ⟨RX6, "phases", "(III)I"⟩
abbrev cX6_best : ByteArray := prog_8_method_81_code
def yX6_best : MethodName := ⟨RX6, "best", "(I)I"⟩
abbrev cX6_bestHue : ByteArray := prog_8_method_82_code
def yX6_bestHue : MethodName := ⟨RX6, "bestHue", "(I)I"⟩
abbrev cX6_joining : ByteArray := prog_8_method_83_code
def yX6_joining : MethodName := ⟨RX6, "joining", "(II)I"⟩
abbrev cX6_greatest : ByteArray := prog_8_method_84_code
def yX6_greatest : MethodName := ⟨RX6, "greatest", "(I)I"⟩
abbrev cX6_share : ByteArray := prog_8_method_85_code
def yX6_share : MethodName := ⟨RX6, "share", "()D"⟩
abbrev cX6_fullness : ByteArray := prog_8_method_86_code
def yX6_fullness : MethodName := ⟨RX6, "fullness", "()D"⟩
abbrev cX6_bitsOf : ByteArray := prog_8_method_87_code
def yX6_bitsOf : MethodName := ⟨RX6, "bitsOf", "(D)J"⟩
abbrev cX6_digestOne : ByteArray := prog_8_method_88_code
def yX6_digestOne : MethodName := ⟨RX6, "digestOne", "(J)V"⟩
abbrev cX6_digestRope : ByteArray := prog_8_method_89_code
def yX6_digestRope : MethodName := ⟨RX6, "digestRope", "(I)V"⟩
abbrev cX6_digest : ByteArray := prog_8_method_90_code
def yX6_digest : MethodName := ⟨RX6, "digest", "()J"⟩
def RJ9 : String := "java/lang/Math"
def TJ9 : u_T := fun k => match k with
  | _ => ("", "", "", false)
def tyJ9 : Nat → FieldType := fun k => match k with
  | _ => .int
abbrev wsJ90 : List Cond := u_ws RJ9 TJ9 0
theorem nmJ9 : ∀ a, a < 0 → ∀ b, b < 0 → a ≠ b → (TJ9 a).2.1 ≠ (TJ9 b).2.1 := by decide +kernel
theorem tyJ9_ok : ∀ k, k < 0 → parseFieldDescriptor (TJ9 k).2.2.1 = some (tyJ9 k) := by decide +kernel
abbrev cJ9_max_7cf53 : ByteArray := prog_13_method_65_code
def yJ9_max_7cf53 : MethodName := ⟨RJ9, "max", "(II)I"⟩
abbrev cJ9_min_7cf53 : ByteArray := prog_13_method_69_code
def yJ9_min_7cf53 : MethodName := ⟨RJ9, "min", "(II)I"⟩
def RJ0 : String := "java/lang/String"
def TJ0 : u_T := fun k => match k with
  | _ => ("", "", "", false)
def tyJ0 : Nat → FieldType := fun k => match k with
  | _ => .int
abbrev wsJ00 : List Cond := u_ws RJ0 TJ0 0
theorem nmJ0 : ∀ a, a < 0 → ∀ b, b < 0 → a ≠ b → (TJ0 a).2.1 ≠ (TJ0 b).2.1 := by decide +kernel
theorem tyJ0_ok : ∀ k, k < 0 → parseFieldDescriptor (TJ0 k).2.2.1 = some (tyJ0 k) := by decide +kernel
def RL : String := "PennantRopesLaw"
abbrev cL_gap : ByteArray := method_3_code
def yL_gap : MethodName := ⟨RL, "gap", "(LPennantRopes;II[J)I"⟩
abbrev cL_rope : ByteArray := method_4_code
def yL_rope : MethodName := ⟨RL, "rope", "(LPennantRopes;I[J)I"⟩
abbrev cL_drop : ByteArray := method_5_code
def yL_drop : MethodName := ⟨RL, "drop", "(LPennantRopes;I[J)I"⟩
abbrev cL_lay : ByteArray := method_6_code
def yL_lay : MethodName := ⟨RL, "lay", "(LPennantRopes;III[J)I"⟩
abbrev cL_take : ByteArray := method_7_code
def yL_take : MethodName := ⟨RL, "take", "(LPennantRopes;II[J)I"⟩
abbrev cL_stretch : ByteArray := method_8_code
def yL_stretch : MethodName := ⟨RL, "stretch", "(LPennantRopes;II[J)I"⟩
abbrev cL_cut : ByteArray := method_9_code
def yL_cut : MethodName := ⟨RL, "cut", "(LPennantRopes;II[J)I"⟩
abbrev cL_turn : ByteArray := method_10_code
def yL_turn : MethodName := ⟨RL, "turn", "(LPennantRopes;I[J)I"⟩
abbrev cL_join : ByteArray := method_11_code
def yL_join : MethodName := ⟨RL, "join", "(LPennantRopes;II[J)I"⟩
abbrev cL_append : ByteArray := method_12_code
def yL_append : MethodName := ⟨RL, "append", "(LPennantRopes;I[J)I"⟩
abbrev cL_play : ByteArray := method_13_code
def yL_play : MethodName := ⟨RL, "play", "(LPennantRopes;[J)I"⟩
abbrev cL_undo : ByteArray := method_14_code
def yL_undo : MethodName := ⟨RL, "undo", "(LPennantRopes;[J)I"⟩
abbrev cL_restore : ByteArray := method_15_code
def yL_restore : MethodName := ⟨RL, "restore", "(LPennantRopes;[J)I"⟩
abbrev cL_place : ByteArray := method_16_code
def yL_place : MethodName := ⟨RL, "place", "(LPennantRopes;II[J)I"⟩
abbrev cL_ropeOf : ByteArray := method_17_code
def yL_ropeOf : MethodName := ⟨RL, "ropeOf", "(LPennantRopes;II[J)I"⟩
abbrev cL_hueOf : ByteArray := method_18_code
def yL_hueOf : MethodName := ⟨RL, "hueOf", "(LPennantRopes;III[J)I"⟩
abbrev cL_gapOf : ByteArray := method_19_code
def yL_gapOf : MethodName := ⟨RL, "gapOf", "(LPennantRopes;I[J)I"⟩
abbrev cL_count : ByteArray := method_20_code
def yL_count : MethodName := ⟨RL, "count", "(LPennantRopes;I[J)I"⟩
abbrev cL_refusal : ByteArray := method_21_code
def yL_refusal : MethodName := ⟨RL, "refusal", "(LPennantRopes;III[J)I"⟩
abbrev cL_meeting : ByteArray := method_22_code
def yL_meeting : MethodName := ⟨RL, "meeting", "(LPennantRopes;IIII[J)I"⟩
abbrev cL_walked : ByteArray := method_23_code
def yL_walked : MethodName := ⟨RL, "walked", "(LPennantRopes;IIII[J)I"⟩
abbrev cL_phases : ByteArray := method_24_code
def yL_phases : MethodName := ⟨RL, "phases", "(LPennantRopes;III[J)I"⟩
abbrev cL_bestHue : ByteArray := method_25_code
def yL_bestHue : MethodName := ⟨RL, "bestHue", "(LPennantRopes;I[J)I"⟩
abbrev cL_joining : ByteArray := method_26_code
def yL_joining : MethodName := ⟨RL, "joining", "(LPennantRopes;II[J)I"⟩
abbrev cL_greatest : ByteArray := method_27_code
def yL_greatest : MethodName := ⟨RL, "greatest", "(LPennantRopes;I[J)I"⟩
abbrev cL_law : ByteArray := code
def yL_law : MethodName := ⟨RL, "law", "([I)Z"⟩
def wsX2_init : List Cond := .code yX2_init cX2_init 1 none :: ([.methodLink RX2 3 objectInit, .instanceMethod objectInit, .code objectInit ⟨#[0xb1]⟩ 1 none, .arrayClass .int, .fieldLink RX2 9 "PennantRopes$Rope" "colours" "[I", .fieldLink RX2 15 "PennantRopes$Rope" "orders" "[I", .fieldLink RX2 18 "PennantRopes$Rope" "length" "I", .fieldLink RX2 22 "PennantRopes$Rope" "hueCount" "I"] ++ wsX20)
def wsX3_init : List Cond := .code yX3_init cX3_init 2 none :: ([.methodLink RX3 3 objectInit, .instanceMethod objectInit, .code objectInit ⟨#[0xb1]⟩ 1 none, .arrayClass .int, .fieldLink RX3 9 "PennantRopes$State" "gaps" "[I", .classLink RX3 15 RX2, .fieldLink RX3 17 "PennantRopes$State" "ropes" "[LPennantRopes$Rope;", .instantiable RX2 4, .initialized RX2, .fieldLink RX3 22 "PennantRopes$State" "ropeCount" "I", .fieldLink RX3 26 "PennantRopes$State" "layings" "I", .fieldLink RX3 29 "PennantRopes$State" "joins" "I", .fieldLink RX3 32 "PennantRopes$State" "cuts" "I", .methodLink RX3 21 yX2_init, .instanceMethod yX2_init, .code yX2_init cX2_init 1 none, .methodLink RX2 3 objectInit, .fieldLink RX2 9 "PennantRopes$Rope" "colours" "[I", .fieldLink RX2 15 "PennantRopes$Rope" "orders" "[I", .fieldLink RX2 18 "PennantRopes$Rope" "length" "I", .fieldLink RX2 22 "PennantRopes$Rope" "hueCount" "I"] ++ wsX30 ++ wsX20)
def wsL_law0_r1 : List Cond := [Cond.classLink RL 8 RX5, Cond.instantiable RX5 6, Cond.initialized RX5, Cond.classLink RL 96 RX6, Cond.instantiable RX6 16, Cond.initialized RX6, Cond.arrayClass .long, Cond.methodLink RL 95 yX5_init, Cond.instanceMethod yX5_init, Cond.code yX5_init cX5_init 1 none, Cond.methodLink RX5 1 objectInit, Cond.instanceMethod objectInit, Cond.code objectInit ⟨#[0xb1]⟩ 1 none, Cond.classLink RX5 7 RX3, Cond.instantiable RX3 6, Cond.initialized RX3, Cond.fieldLink RX5 10 "PennantRopes" "now" "LPennantRopes$State;", Cond.fieldLink RX5 16 "PennantRopes" "kept" "LPennantRopes$State;", Cond.classLink RX5 19 RX0, Cond.instantiable RX0 2, Cond.initialized RX0, Cond.fieldLink RX5 22 "PennantRopes" "history" "LPennantRopes$History;", Cond.classLink RX5 26 RX4, Cond.instantiable RX4 2]
def wsL_law0_r2 : List Cond := [Cond.initialized RX4, Cond.fieldLink RX5 29 "PennantRopes" "text" "LPennantRopes$Text;", Cond.classLink RX5 33 RX2, Cond.instantiable RX2 4, Cond.initialized RX2, Cond.fieldLink RX5 36 "PennantRopes" "draft" "LPennantRopes$Rope;", Cond.fieldLink RX5 40 "PennantRopes" "hasKept" "Z", Cond.methodLink RX5 9 yX3_init, Cond.instanceMethod yX3_init, Cond.code yX3_init cX3_init 2 none, Cond.methodLink RX3 3 objectInit, Cond.arrayClass .int, Cond.fieldLink RX3 9 "PennantRopes$State" "gaps" "[I", Cond.classLink RX3 15 RX2, Cond.fieldLink RX3 17 "PennantRopes$State" "ropes" "[LPennantRopes$Rope;", Cond.fieldLink RX3 22 "PennantRopes$State" "ropeCount" "I", Cond.fieldLink RX3 26 "PennantRopes$State" "layings" "I", Cond.fieldLink RX3 29 "PennantRopes$State" "joins" "I", Cond.fieldLink RX3 32 "PennantRopes$State" "cuts" "I", Cond.methodLink RX3 21 yX2_init, Cond.instanceMethod yX2_init, Cond.code yX2_init cX2_init 1 none, Cond.methodLink RX2 3 objectInit, Cond.fieldLink RX2 9 "PennantRopes$Rope" "colours" "[I"]
def wsL_law0_r3 : List Cond := [Cond.fieldLink RX2 15 "PennantRopes$Rope" "orders" "[I", Cond.fieldLink RX2 18 "PennantRopes$Rope" "length" "I", Cond.fieldLink RX2 22 "PennantRopes$Rope" "hueCount" "I", Cond.methodLink RX5 21 yX0_init, Cond.instanceMethod yX0_init, Cond.code yX0_init cX0_init 2 none, Cond.methodLink RX0 3 objectInit, Cond.classLink RX0 9 RX3, Cond.fieldLink RX0 11 "PennantRopes$History" "states" "[LPennantRopes$State;", Cond.fieldLink RX0 18 "PennantRopes$History" "size" "I", Cond.methodLink RX0 17 yX3_init, Cond.methodLink RX5 28 yX4_init, Cond.instanceMethod yX4_init, Cond.code yX4_init cX4_init 1 none, Cond.methodLink RX4 3 objectInit, Cond.fieldLink RX4 9 "PennantRopes$Text" "codes" "[I", Cond.fieldLink RX4 15 "PennantRopes$Text" "length" "I", Cond.methodLink RX5 35 yX2_init, Cond.methodLink RL 98 yX6_init, Cond.instanceMethod yX6_init, Cond.code yX6_init cX6_init 2 none, Cond.methodLink RX6 1 objectInit, Cond.fieldLink RX6 7 "PennantRopesModel" "s" "[I", Cond.fieldLink RX6 13 "PennantRopesModel" "aside" "[I"]
def wsL_law0_r4 : List Cond := [Cond.fieldLink RX6 16 "PennantRopesModel" "snapshot" "[I", Cond.fieldLink RX6 19 "PennantRopesModel" "saved" "[I", Cond.fieldLink RX6 22 "PennantRopesModel" "text" "[I", Cond.fieldLink RX6 25 "PennantRopesModel" "old" "[I", Cond.methodLink RL 99 yL_gap, Cond.static yL_gap, Cond.initialized RL, Cond.codeWith yL_gap cL_gap 5 (some .int) [(0, 10, 13, 13), (0, 10, 17, 15), (0, 10, 21, 17)], Cond.classLink RL 13 "java/lang/IndexOutOfBoundsException", Cond.classLink RL 15 "java/lang/IllegalArgumentException", Cond.classLink RL 17 "java/lang/IllegalStateException", Cond.methodLink RL 7 yX5_gap, Cond.instanceMethod yX5_gap, Cond.selects RX5 yX5_gap yX5_gap, Cond.code yX5_gap cX5_gap 4 (some .int), Cond.classLink RX5 48 "java/lang/IllegalArgumentException", Cond.initialized "java/lang/IllegalArgumentException", Cond.classLink RX5 59 "java/lang/IllegalStateException", Cond.initialized "java/lang/IllegalStateException", Cond.methodLink RX5 44 yX5_requireHue, Cond.instanceMethod yX5_requireHue, Cond.selects RX5 yX5_requireHue yX5_requireHue, Cond.code yX5_requireHue cX5_requireHue 2 none, Cond.classLink RX5 204 "java/lang/IndexOutOfBoundsException"]
def wsL_law0_r5 : List Cond := [Cond.initialized "java/lang/IndexOutOfBoundsException", Cond.methodLink RX5 55 yX3_isLaidOnSome, Cond.instanceMethod yX3_isLaidOnSome, Cond.selects RX3 yX3_isLaidOnSome yX3_isLaidOnSome, Cond.code yX3_isLaidOnSome cX3_isLaidOnSome 4 (some .boolean), Cond.methodLink RX3 35 yX3_ropeAt, Cond.instanceMethod yX3_ropeAt, Cond.selects RX3 yX3_ropeAt yX3_ropeAt, Cond.code yX3_ropeAt cX3_ropeAt 2 (some (.object "PennantRopes$Rope")), Cond.methodLink RX3 66 yX2_orderOf, Cond.instanceMethod yX2_orderOf, Cond.selects RX2 yX2_orderOf yX2_orderOf, Cond.code yX2_orderOf cX2_orderOf 3 (some .int), Cond.methodLink RX5 64 yX0_save, Cond.instanceMethod yX0_save, Cond.selects RX0 yX0_save yX0_save, Cond.code yX0_save cX0_save 3 none, Cond.methodLink RX0 22 yX0_dropOldest, Cond.instanceMethod yX0_dropOldest, Cond.selects RX0 yX0_dropOldest yX0_dropOldest, Cond.code yX0_dropOldest cX0_dropOldest 3 none, Cond.methodLink RX0 25 yX0_rowAt, Cond.instanceMethod yX0_rowAt, Cond.selects RX0 yX0_rowAt yX0_rowAt]
def wsL_law0_r6 : List Cond := [Cond.code yX0_rowAt cX0_rowAt 2 (some (.object "PennantRopes$State")), Cond.methodLink RX0 29 yX3_copyFrom, Cond.instanceMethod yX3_copyFrom, Cond.selects RX3 yX3_copyFrom yX3_copyFrom, Cond.code yX3_copyFrom cX3_copyFrom 5 none, Cond.methodLink RX3 39 yX2_copyFrom, Cond.instanceMethod yX2_copyFrom, Cond.selects RX2 yX2_copyFrom yX2_copyFrom, Cond.code yX2_copyFrom cX2_copyFrom 3 none, Cond.methodLink RX5 68 yX3_gapAt, Cond.instanceMethod yX3_gapAt, Cond.selects RX3 yX3_gapAt yX3_gapAt, Cond.code yX3_gapAt cX3_gapAt 2 (some .int), Cond.methodLink RX5 72 yX3_setGap, Cond.instanceMethod yX3_setGap, Cond.selects RX3 yX3_setGap yX3_setGap, Cond.code yX3_setGap cX3_setGap 3 none, Cond.methodLink RL 104 yX6_gap, Cond.instanceMethod yX6_gap, Cond.selects RX6 yX6_gap yX6_gap, Cond.code yX6_gap cX6_gap 4 (some .int), Cond.methodLink RX6 74 yX6_isHue, Cond.static yX6_isHue, Cond.code yX6_isHue cX6_isHue 1 (some .boolean)]
def wsL_law0_r7 : List Cond := [Cond.methodLink RX6 32 yX6_in, Cond.static yX6_in, Cond.code yX6_in cX6_in 3 (some .boolean), Cond.methodLink RX6 78 yX6_isLaidAnywhere, Cond.instanceMethod yX6_isLaidAnywhere, Cond.selects RX6 yX6_isLaidAnywhere yX6_isLaidAnywhere, Cond.code yX6_isLaidAnywhere cX6_isLaidAnywhere 4 (some .boolean), Cond.methodLink RX6 70 yX6_isLaid, Cond.instanceMethod yX6_isLaid, Cond.selects RX6 yX6_isLaid yX6_isLaid, Cond.code yX6_isLaid cX6_isLaid 3 (some .boolean), Cond.methodLink RX6 40 yX6_phaseOf, Cond.instanceMethod yX6_phaseOf, Cond.selects RX6 yX6_phaseOf yX6_phaseOf, Cond.code yX6_phaseOf cX6_phaseOf 3 (some .int), Cond.methodLink RX6 36 yX6_of, Cond.static yX6_of, Cond.code yX6_of cX6_of 2 (some .int), Cond.methodLink RX6 81 yX6_holds, Cond.instanceMethod yX6_holds, Cond.selects RX6 yX6_holds yX6_holds, Cond.code yX6_holds cX6_holds 2 (some .boolean), Cond.fieldLink RX6 28 "PennantRopesModel" "thrown" "I", Cond.methodLink RX6 84 yX6_save]
def wsL_law0_r8 : List Cond := [Cond.instanceMethod yX6_save, Cond.selects RX6 yX6_save yX6_save, Cond.code yX6_save cX6_save 2 none, Cond.fieldLink RX6 43 "PennantRopesModel" "savedMany" "I", Cond.methodLink RL 105 yX6_thrown, Cond.instanceMethod yX6_thrown, Cond.selects RX6 yX6_thrown yX6_thrown, Cond.code yX6_thrown cX6_thrown 1 (some .int), Cond.methodLink RL 108 yL_rope, Cond.static yL_rope, Cond.codeWith yL_rope cL_rope 4 (some .int) [(0, 9, 12, 15), (0, 9, 15, 17)], Cond.methodLink RL 19 yX5_rope, Cond.instanceMethod yX5_rope, Cond.selects RX5 yX5_rope yX5_rope, Cond.code yX5_rope cX5_rope 2 (some .int), Cond.methodLink RX5 76 yX5_requireLength, Cond.instanceMethod yX5_requireLength, Cond.selects RX5 yX5_requireLength yX5_requireLength, Cond.code yX5_requireLength cX5_requireLength 2 none, Cond.methodLink RX5 79 yX5_requireRoomForRope, Cond.instanceMethod yX5_requireRoomForRope, Cond.selects RX5 yX5_requireRoomForRope yX5_requireRoomForRope, Cond.code yX5_requireRoomForRope cX5_requireRoomForRope 1 none, Cond.methodLink RX5 86 yX3_ropeCount]
def wsL_law0_r9 : List Cond := [Cond.instanceMethod yX3_ropeCount, Cond.selects RX3 yX3_ropeCount yX3_ropeCount, Cond.code yX3_ropeCount cX3_ropeCount 1 (some .int), Cond.methodLink RX5 82 yX3_addRope, Cond.instanceMethod yX3_addRope, Cond.selects RX3 yX3_addRope yX3_addRope, Cond.code yX3_addRope cX3_addRope 3 (some (.object "PennantRopes$Rope")), Cond.methodLink RX3 43 yX2_begin, Cond.instanceMethod yX2_begin, Cond.selects RX2 yX2_begin yX2_begin, Cond.code yX2_begin cX2_begin 3 none, Cond.methodLink RX2 25 Lib.Math.min.name, Cond.static Lib.Math.min.name, Cond.initialized "java/lang/Math", Cond.code Lib.Math.min.name Lib.Math.min.code 2 (some .int), Cond.methodLink RX2 31 Lib.Math.max.name, Cond.static Lib.Math.max.name, Cond.code Lib.Math.max.name Lib.Math.max.code 2 (some .int), Cond.methodLink RL 111 yX6_rope, Cond.instanceMethod yX6_rope, Cond.selects RX6 yX6_rope yX6_rope, Cond.code yX6_rope cX6_rope 2 (some .int), Cond.methodLink RX6 87 yX6_adds, Cond.instanceMethod yX6_adds]
def wsL_law0_r10 : List Cond := [Cond.selects RX6 yX6_adds yX6_adds, Cond.code yX6_adds cX6_adds 2 none, Cond.methodLink RX6 66 yX6_clears, Cond.instanceMethod yX6_clears, Cond.selects RX6 yX6_clears yX6_clears, Cond.code yX6_clears cX6_clears 4 none, Cond.methodLink RL 112 yL_drop, Cond.static yL_drop, Cond.codeWith yL_drop cL_drop 4 (some .int) [(0, 9, 12, 13)], Cond.methodLink RL 23 yX5_drop, Cond.instanceMethod yX5_drop, Cond.selects RX5 yX5_drop yX5_drop, Cond.code yX5_drop cX5_drop 2 (some .int), Cond.methodLink RX5 90 yX5_existing, Cond.instanceMethod yX5_existing, Cond.selects RX5 yX5_existing yX5_existing, Cond.code yX5_existing cX5_existing 3 (some (.object "PennantRopes$Rope")), Cond.methodLink RX5 268 yX3_ropeAt, Cond.methodLink RX5 93 yX3_removeRope, Cond.instanceMethod yX3_removeRope, Cond.selects RX3 yX3_removeRope yX3_removeRope, Cond.code yX3_removeRope cX3_removeRope 4 none, Cond.methodLink RL 114 yX6_drop, Cond.instanceMethod yX6_drop]
def wsL_law0_r11 : List Cond := [Cond.selects RX6 yX6_drop yX6_drop, Cond.code yX6_drop cX6_drop 2 (some .int), Cond.methodLink RX6 90 yX6_isRope, Cond.instanceMethod yX6_isRope, Cond.selects RX6 yX6_isRope yX6_isRope, Cond.code yX6_isRope cX6_isRope 2 (some .boolean), Cond.methodLink RX6 93 yX6_drops, Cond.instanceMethod yX6_drops, Cond.selects RX6 yX6_drops yX6_drops, Cond.code yX6_drops cX6_drops 3 none, Cond.methodLink RL 115 yL_lay, Cond.static yL_lay, Cond.codeWith yL_lay cL_lay 6 (some .int) [(0, 12, 15, 13), (0, 12, 19, 15), (0, 12, 23, 17)], Cond.methodLink RL 26 yX5_lay, Cond.instanceMethod yX5_lay, Cond.selects RX5 yX5_lay yX5_lay, Cond.code yX5_lay cX5_lay 5 (some .int), Cond.methodLink RX5 96 yX5_requirePhase, Cond.instanceMethod yX5_requirePhase, Cond.selects RX5 yX5_requirePhase yX5_requirePhase, Cond.code yX5_requirePhase cX5_requirePhase 3 none, Cond.methodLink RX5 99 yX2_reasonAgainst, Cond.instanceMethod yX2_reasonAgainst, Cond.selects RX2 yX2_reasonAgainst yX2_reasonAgainst]
def wsL_law0_r12 : List Cond := [Cond.code yX2_reasonAgainst cX2_reasonAgainst 6 (some .int), Cond.methodLink RX2 38 yX2_orderOf, Cond.methodLink RX2 34 yX2_colourAt, Cond.instanceMethod yX2_colourAt, Cond.selects RX2 yX2_colourAt yX2_colourAt, Cond.code yX2_colourAt cX2_colourAt 2 (some .int), Cond.methodLink RX5 105 yX3_layOn, Cond.instanceMethod yX3_layOn, Cond.selects RX3 yX3_layOn yX3_layOn, Cond.code yX3_layOn cX3_layOn 4 (some .int), Cond.methodLink RX3 47 yX3_gapAt, Cond.methodLink RX3 51 yX2_put, Cond.instanceMethod yX2_put, Cond.selects RX2 yX2_put yX2_put, Cond.code yX2_put cX2_put 7 (some .int), Cond.methodLink RX2 41 yX2_setColour, Cond.instanceMethod yX2_setColour, Cond.selects RX2 yX2_setColour yX2_setColour, Cond.code yX2_setColour cX2_setColour 3 none, Cond.methodLink RL 118 yX6_lay, Cond.instanceMethod yX6_lay, Cond.selects RX6 yX6_lay yX6_lay, Cond.code yX6_lay cX6_lay 4 (some .int), Cond.methodLink RX6 96 yX6_areThere]
def wsL_law0_r13 : List Cond := [Cond.instanceMethod yX6_areThere, Cond.selects RX6 yX6_areThere yX6_areThere, Cond.code yX6_areThere cX6_areThere 3 (some .boolean), Cond.methodLink RX6 99 yX6_isPhase, Cond.instanceMethod yX6_isPhase, Cond.selects RX6 yX6_isPhase yX6_isPhase, Cond.code yX6_isPhase cX6_isPhase 3 (some .boolean), Cond.methodLink RX6 102 yX6_why, Cond.instanceMethod yX6_why, Cond.selects RX6 yX6_why yX6_why, Cond.code yX6_why cX6_why 6 (some .int), Cond.methodLink RX6 63 yX6_hueAt, Cond.instanceMethod yX6_hueAt, Cond.selects RX6 yX6_hueAt yX6_hueAt, Cond.code yX6_hueAt cX6_hueAt 5 (some .int), Cond.methodLink RX6 46 yX6_takes, Cond.instanceMethod yX6_takes, Cond.selects RX6 yX6_takes yX6_takes, Cond.code yX6_takes cX6_takes 5 (some .boolean), Cond.methodLink RX6 52 yX6_lays, Cond.instanceMethod yX6_lays, Cond.selects RX6 yX6_lays yX6_lays, Cond.code yX6_lays cX6_lays 4 none, Cond.methodLink RX6 106 yX6_placesOf]
def wsL_law0_r14 : List Cond := [Cond.instanceMethod yX6_placesOf, Cond.selects RX6 yX6_placesOf yX6_placesOf, Cond.code yX6_placesOf cX6_placesOf 5 (some .int), Cond.methodLink RL 119 yL_take, Cond.static yL_take, Cond.codeWith yL_take cL_take 5 (some .int) [(0, 10, 13, 13), (0, 10, 17, 17)], Cond.methodLink RL 30 yX5_take, Cond.instanceMethod yX5_take, Cond.selects RX5 yX5_take yX5_take, Cond.code yX5_take cX5_take 4 (some .int), Cond.methodLink RX5 109 yX2_orderOf, Cond.methodLink RX5 114 yX2_remove, Cond.instanceMethod yX2_remove, Cond.selects RX2 yX2_remove yX2_remove, Cond.code yX2_remove cX2_remove 5 (some .int), Cond.methodLink RX2 45 yX2_placesOf, Cond.instanceMethod yX2_placesOf, Cond.selects RX2 yX2_placesOf yX2_placesOf, Cond.code yX2_placesOf cX2_placesOf 4 (some .int), Cond.methodLink RL 121 yX6_take, Cond.instanceMethod yX6_take, Cond.selects RX6 yX6_take yX6_take, Cond.code yX6_take cX6_take 4 (some .int), Cond.methodLink RX6 109 yX6_takesOff]
def wsL_law0_r15 : List Cond := [Cond.instanceMethod yX6_takesOff, Cond.selects RX6 yX6_takesOff yX6_takesOff, Cond.code yX6_takesOff cX6_takesOff 4 none, Cond.methodLink RX6 56 yX6_remembers, Cond.instanceMethod yX6_remembers, Cond.selects RX6 yX6_remembers yX6_remembers, Cond.code yX6_remembers cX6_remembers 3 none, Cond.methodLink RL 122 yL_stretch, Cond.static yL_stretch, Cond.codeWith yL_stretch cL_stretch 5 (some .int) [(0, 10, 13, 13), (0, 10, 17, 15), (0, 10, 21, 17)], Cond.methodLink RL 33 yX5_stretch, Cond.instanceMethod yX5_stretch, Cond.selects RX5 yX5_stretch yX5_stretch, Cond.code yX5_stretch cX5_stretch 5 (some .int), Cond.methodLink RX5 117 yX5_greatestLength, Cond.instanceMethod yX5_greatestLength, Cond.selects RX5 yX5_greatestLength yX5_greatestLength, Cond.code yX5_greatestLength cX5_greatestLength 3 (some .int), Cond.methodLink RX5 130 yX2_length, Cond.instanceMethod yX2_length, Cond.selects RX2 yX2_length yX2_length, Cond.code yX2_length cX2_length 1 (some .int), Cond.methodLink RX5 314 yX5_huesDueAt, Cond.instanceMethod yX5_huesDueAt]
def wsL_law0_r16 : List Cond := [Cond.selects RX5 yX5_huesDueAt yX5_huesDueAt, Cond.code yX5_huesDueAt cX5_huesDueAt 6 (some .int), Cond.methodLink RX5 123 yX2_hueCount, Cond.instanceMethod yX2_hueCount, Cond.selects RX2 yX2_hueCount yX2_hueCount, Cond.code yX2_hueCount cX2_hueCount 1 (some .int), Cond.methodLink RX5 286 yX2_hueAt, Cond.instanceMethod yX2_hueAt, Cond.selects RX2 yX2_hueAt yX2_hueAt, Cond.code yX2_hueAt cX2_hueAt 2 (some .int), Cond.methodLink RX5 289 yX2_firstFrom, Cond.instanceMethod yX2_firstFrom, Cond.selects RX2 yX2_firstFrom yX2_firstFrom, Cond.code yX2_firstFrom cX2_firstFrom 4 (some .int), Cond.methodLink RX5 304 yX1_remainder, Cond.static yX1_remainder, Cond.initialized RX1, Cond.code yX1_remainder cX1_remainder 2 (some .int), Cond.methodLink RX5 126 yX5_changeLength, Cond.instanceMethod yX5_changeLength, Cond.selects RX5 yX5_changeLength yX5_changeLength, Cond.code yX5_changeLength cX5_changeLength 5 none, Cond.methodLink RX5 283 yX2_begin, Cond.methodLink RX5 292 yX2_put]
def wsL_law0_r17 : List Cond := [Cond.methodLink RX5 155 yX2_copyFrom, Cond.methodLink RL 124 yX6_stretch, Cond.instanceMethod yX6_stretch, Cond.selects RX6 yX6_stretch yX6_stretch, Cond.code yX6_stretch cX6_stretch 3 (some .int), Cond.methodLink RX6 112 yX6_clash, Cond.instanceMethod yX6_clash, Cond.selects RX6 yX6_clash yX6_clash, Cond.code yX6_clash cX6_clash 3 (some .int), Cond.methodLink RX6 49 yX6_takers, Cond.instanceMethod yX6_takers, Cond.selects RX6 yX6_takers yX6_takers, Cond.code yX6_takers cX6_takers 5 (some .int), Cond.methodLink RX6 116 yX6_laysFrom, Cond.instanceMethod yX6_laysFrom, Cond.selects RX6 yX6_laysFrom yX6_laysFrom, Cond.code yX6_laysFrom cX6_laysFrom 6 none, Cond.methodLink RL 125 yL_cut, Cond.static yL_cut, Cond.codeWith yL_cut cL_cut 5 (some .int) [(0, 10, 13, 13), (0, 10, 17, 15), (0, 10, 21, 17)], Cond.methodLink RL 36 yX5_cut, Cond.instanceMethod yX5_cut, Cond.selects RX5 yX5_cut yX5_cut, Cond.code yX5_cut cX5_cut 5 (some .int)]
def wsL_law0_r18 : List Cond := [Cond.methodLink RX5 135 yX5_layBack, Cond.instanceMethod yX5_layBack, Cond.selects RX5 yX5_layBack yX5_layBack, Cond.code yX5_layBack cX5_layBack 7 none, Cond.methodLink RX5 139 yX3_countCut, Cond.instanceMethod yX3_countCut, Cond.selects RX3 yX3_countCut yX3_countCut, Cond.code yX3_countCut cX3_countCut 1 none, Cond.methodLink RL 127 yX6_cut, Cond.instanceMethod yX6_cut, Cond.selects RX6 yX6_cut yX6_cut, Cond.code yX6_cut cX6_cut 4 (some .int), Cond.methodLink RL 128 yL_turn, Cond.static yL_turn, Cond.codeWith yL_turn cL_turn 4 (some .int) [(0, 9, 12, 13)], Cond.methodLink RL 39 yX5_turn, Cond.instanceMethod yX5_turn, Cond.selects RX5 yX5_turn yX5_turn, Cond.code yX5_turn cX5_turn 3 (some .int), Cond.methodLink RX5 142 yX5_turnRound, Cond.instanceMethod yX5_turnRound, Cond.selects RX5 yX5_turnRound yX5_turnRound, Cond.code yX5_turnRound cX5_turnRound 4 (some .int), Cond.methodLink RX5 295 yX2_lastOf]
def wsL_law0_r19 : List Cond := [Cond.instanceMethod yX2_lastOf, Cond.selects RX2 yX2_lastOf yX2_lastOf, Cond.code yX2_lastOf cX2_lastOf 3 (some .int), Cond.methodLink RX5 298 yX2_differences, Cond.instanceMethod yX2_differences, Cond.selects RX2 yX2_differences yX2_differences, Cond.code yX2_differences cX2_differences 4 (some .int), Cond.methodLink RL 130 yX6_turn, Cond.instanceMethod yX6_turn, Cond.selects RX6 yX6_turn yX6_turn, Cond.code yX6_turn cX6_turn 3 (some .int), Cond.methodLink RX6 119 yX6_unlikeTurned, Cond.instanceMethod yX6_unlikeTurned, Cond.selects RX6 yX6_unlikeTurned yX6_unlikeTurned, Cond.code yX6_unlikeTurned cX6_unlikeTurned 4 (some .int), Cond.methodLink RX6 122 yX6_turns, Cond.instanceMethod yX6_turns, Cond.selects RX6 yX6_turns yX6_turns, Cond.code yX6_turns cX6_turns 4 none, Cond.methodLink RX6 60 yX6_lastOf, Cond.instanceMethod yX6_lastOf, Cond.selects RX6 yX6_lastOf yX6_lastOf, Cond.code yX6_lastOf cX6_lastOf 5 (some .int), Cond.methodLink RL 131 yL_join]
def wsL_law0_r20 : List Cond := [Cond.static yL_join, Cond.codeWith yL_join cL_join 5 (some .int) [(0, 10, 13, 13), (0, 10, 17, 17)], Cond.methodLink RL 42 yX5_join, Cond.instanceMethod yX5_join, Cond.selects RX5 yX5_join yX5_join, Cond.code yX5_join cX5_join 5 (some .int), Cond.methodLink RX5 145 yX5_reasonAgainstJoining, Cond.instanceMethod yX5_reasonAgainstJoining, Cond.selects RX5 yX5_reasonAgainstJoining yX5_reasonAgainstJoining, Cond.code yX5_reasonAgainstJoining cX5_reasonAgainstJoining 6 (some .int), Cond.methodLink RX5 151 yX5_draftJoined, Cond.instanceMethod yX5_draftJoined, Cond.selects RX5 yX5_draftJoined yX5_draftJoined, Cond.code yX5_draftJoined cX5_draftJoined 7 (some .boolean), Cond.methodLink RX5 301 yX5_draftLaid, Cond.instanceMethod yX5_draftLaid, Cond.selects RX5 yX5_draftLaid yX5_draftLaid, Cond.code yX5_draftLaid cX5_draftLaid 4 (some .boolean), Cond.methodLink RX5 159 yX3_countJoin, Cond.instanceMethod yX3_countJoin, Cond.selects RX3 yX3_countJoin yX3_countJoin, Cond.code yX3_countJoin cX3_countJoin 1 none, Cond.methodLink RL 133 yX6_join, Cond.instanceMethod yX6_join]
def wsL_law0_r21 : List Cond := [Cond.selects RX6 yX6_join yX6_join, Cond.code yX6_join cX6_join 4 (some .int), Cond.methodLink RX6 137 yX6_whyNotJoined, Cond.instanceMethod yX6_whyNotJoined, Cond.selects RX6 yX6_whyNotJoined yX6_whyNotJoined, Cond.code yX6_whyNotJoined cX6_whyNotJoined 6 (some .int), Cond.methodLink RX6 125 yX6_phaseBehind, Cond.instanceMethod yX6_phaseBehind, Cond.selects RX6 yX6_phaseBehind yX6_phaseBehind, Cond.code yX6_phaseBehind cX6_phaseBehind 4 (some .int), Cond.methodLink RX6 128 yX6_putAside, Cond.instanceMethod yX6_putAside, Cond.selects RX6 yX6_putAside yX6_putAside, Cond.code yX6_putAside cX6_putAside 2 none, Cond.methodLink RX6 131 yX6_joinsWith, Cond.instanceMethod yX6_joinsWith, Cond.selects RX6 yX6_joinsWith yX6_joinsWith, Cond.code yX6_joinsWith cX6_joinsWith 5 none, Cond.methodLink RX6 134 yX6_putBack, Cond.instanceMethod yX6_putBack, Cond.selects RX6 yX6_putBack yX6_putBack, Cond.code yX6_putBack cX6_putBack 2 none, Cond.methodLink RL 134 yL_append, Cond.static yL_append]
def wsL_law0_r22 : List Cond := [Cond.codeWith yL_append cL_append 4 (some .int) [(0, 9, 12, 15), (0, 9, 15, 17)], Cond.methodLink RL 45 yX5_append, Cond.instanceMethod yX5_append, Cond.selects RX5 yX5_append yX5_append, Cond.code yX5_append cX5_append 2 (some .int), Cond.methodLink RX5 164 yX4_isFull, Cond.instanceMethod yX4_isFull, Cond.selects RX4 yX4_isFull yX4_isFull, Cond.code yX4_isFull cX4_isFull 1 (some .boolean), Cond.methodLink RX5 170 yX4_add, Cond.instanceMethod yX4_add, Cond.selects RX4 yX4_add yX4_add, Cond.code yX4_add cX4_add 2 none, Cond.methodLink RX5 173 yX4_length, Cond.instanceMethod yX4_length, Cond.selects RX4 yX4_length yX4_length, Cond.code yX4_length cX4_length 1 (some .int), Cond.methodLink RL 136 yX6_append, Cond.instanceMethod yX6_append, Cond.selects RX6 yX6_append yX6_append, Cond.code yX6_append cX6_append 2 (some .int), Cond.fieldLink RX6 140 "PennantRopesModel" "length" "I", Cond.methodLink RL 137 yX5_clearBuffer, Cond.instanceMethod yX5_clearBuffer]
def wsL_law0_r23 : List Cond := [Cond.selects RX5 yX5_clearBuffer yX5_clearBuffer, Cond.code yX5_clearBuffer cX5_clearBuffer 2 (some .int), Cond.methodLink RX5 174 yX4_empty, Cond.instanceMethod yX4_empty, Cond.selects RX4 yX4_empty yX4_empty, Cond.code yX4_empty cX4_empty 1 none, Cond.methodLink RL 140 yX6_clearBuffer, Cond.instanceMethod yX6_clearBuffer, Cond.selects RX6 yX6_clearBuffer yX6_clearBuffer, Cond.code yX6_clearBuffer cX6_clearBuffer 2 (some .int), Cond.methodLink RL 141 yX5_firstError, Cond.instanceMethod yX5_firstError, Cond.selects RX5 yX5_firstError yX5_firstError, Cond.code yX5_firstError cX5_firstError 1 (some .int), Cond.methodLink RX5 177 yX4_firstWrong, Cond.instanceMethod yX4_firstWrong, Cond.selects RX4 yX4_firstWrong yX4_firstWrong, Cond.code yX4_firstWrong cX4_firstWrong 3 (some .int), Cond.methodLink RX4 19 yX4_codeAt, Cond.instanceMethod yX4_codeAt, Cond.selects RX4 yX4_codeAt yX4_codeAt, Cond.code yX4_codeAt cX4_codeAt 2 (some .int), Cond.methodLink RX4 23 yX4_dueBehind, Cond.static yX4_dueBehind]
def wsL_law0_r24 : List Cond := [Cond.code yX4_dueBehind cX4_dueBehind 2 (some .int), Cond.methodLink RX4 27 yX4_dueBehindFirst, Cond.static yX4_dueBehindFirst, Cond.code yX4_dueBehindFirst cX4_dueBehindFirst 1 (some .int), Cond.methodLink RX4 36 yX4_isHue, Cond.static yX4_isHue, Cond.code yX4_isHue cX4_isHue 1 (some .boolean), Cond.methodLink RX4 40 yX4_isBetween, Cond.static yX4_isBetween, Cond.code yX4_isBetween cX4_isBetween 3 (some .boolean), Cond.methodLink RX4 30 yX4_dueBehindLengthDigit, Cond.static yX4_dueBehindLengthDigit, Cond.code yX4_dueBehindLengthDigit cX4_dueBehindLengthDigit 1 (some .int), Cond.methodLink RX4 33 yX4_dueBehindPhaseDigit, Cond.static yX4_dueBehindPhaseDigit, Cond.code yX4_dueBehindPhaseDigit cX4_dueBehindPhaseDigit 1 (some .int), Cond.methodLink RX4 44 yX4_dueBehindComma, Cond.static yX4_dueBehindComma, Cond.code yX4_dueBehindComma cX4_dueBehindComma 1 (some .int), Cond.methodLink RL 144 yX6_firstError, Cond.instanceMethod yX6_firstError, Cond.selects RX6 yX6_firstError yX6_firstError, Cond.code yX6_firstError cX6_firstError 2 (some .int), Cond.fieldLink RX6 143 "PennantRopesModel" "isWrong" "Z"]
def wsL_law0_r25 : List Cond := [Cond.fieldLink RX6 147 "PennantRopesModel" "position" "I", Cond.methodLink RX6 175 yX6_goes, Cond.instanceMethod yX6_goes, Cond.selects RX6 yX6_goes yX6_goes, Cond.code yX6_goes cX6_goes 6 (some .int), Cond.methodLink RX6 168 yX6_readsPart, Cond.instanceMethod yX6_readsPart, Cond.selects RX6 yX6_readsPart yX6_readsPart, Cond.code yX6_readsPart cX6_readsPart 2 none, Cond.fieldLink RX6 156 "PennantRopesModel" "sign" "I", Cond.fieldLink RX6 162 "PennantRopesModel" "first" "I", Cond.fieldLink RX6 165 "PennantRopesModel" "second" "I", Cond.methodLink RX6 159 yX6_readsNumber, Cond.instanceMethod yX6_readsNumber, Cond.selects RX6 yX6_readsNumber yX6_readsNumber, Cond.code yX6_readsNumber cX6_readsNumber 5 (some .int), Cond.methodLink RX6 150 yX6_reads, Cond.instanceMethod yX6_reads, Cond.selects RX6 yX6_reads yX6_reads, Cond.code yX6_reads cX6_reads 4 (some .int), Cond.methodLink RX6 153 yX6_isNext, Cond.instanceMethod yX6_isNext, Cond.selects RX6 yX6_isNext yX6_isNext, Cond.code yX6_isNext cX6_isNext 3 (some .boolean)]
def wsL_law0_r26 : List Cond := [Cond.methodLink RX6 171 yX6_does, Cond.instanceMethod yX6_does, Cond.selects RX6 yX6_does yX6_does, Cond.code yX6_does cX6_does 2 (some .boolean), Cond.methodLink RL 145 yL_play, Cond.static yL_play, Cond.codeWith yL_play cL_play 3 (some .int) [(0, 8, 11, 15)], Cond.methodLink RL 48 yX5_play, Cond.instanceMethod yX5_play, Cond.selects RX5 yX5_play yX5_play, Cond.code yX5_play cX5_play 5 (some .int), Cond.methodLink RX5 180 yX4_isComplete, Cond.instanceMethod yX4_isComplete, Cond.selects RX4 yX4_isComplete yX4_isComplete, Cond.code yX4_isComplete cX4_isComplete 3 (some .boolean), Cond.methodLink RX5 185 yX4_partEnd, Cond.instanceMethod yX4_partEnd, Cond.selects RX4 yX4_partEnd yX4_partEnd, Cond.code yX4_partEnd cX4_partEnd 3 (some .int), Cond.methodLink RX5 188 yX5_playPart, Cond.instanceMethod yX5_playPart, Cond.selects RX5 yX5_playPart yX5_playPart, Cond.code yX5_playPart cX5_playPart 5 (some .boolean), Cond.methodLink RX5 265 yX4_codeAt]
def wsL_law0_r27 : List Cond := [Cond.methodLink RX5 307 yX4_numberIn, Cond.instanceMethod yX4_numberIn, Cond.selects RX4 yX4_numberIn yX4_numberIn, Cond.code yX4_numberIn cX4_numberIn 5 (some .int), Cond.methodLink RX5 310 yX5_playLaying, Cond.instanceMethod yX5_playLaying, Cond.selects RX5 yX5_playLaying yX5_playLaying, Cond.code yX5_playLaying cX5_playLaying 5 (some .boolean), Cond.methodLink RL 148 yX6_play, Cond.instanceMethod yX6_play, Cond.selects RX6 yX6_play yX6_play, Cond.code yX6_play cX6_play 3 (some .int), Cond.methodLink RL 149 yL_undo, Cond.static yL_undo, Cond.codeWith yL_undo cL_undo 3 (some .int) [(0, 8, 11, 17)], Cond.methodLink RL 52 yX5_undo, Cond.instanceMethod yX5_undo, Cond.selects RX5 yX5_undo yX5_undo, Cond.code yX5_undo cX5_undo 1 (some .int), Cond.methodLink RX5 192 yX0_size, Cond.instanceMethod yX0_size, Cond.selects RX0 yX0_size yX0_size, Cond.code yX0_size cX0_size 1 (some .int), Cond.methodLink RX5 197 yX0_restoreLatest]
def wsL_law0_r28 : List Cond := [Cond.instanceMethod yX0_restoreLatest, Cond.selects RX0 yX0_restoreLatest yX0_restoreLatest, Cond.code yX0_restoreLatest cX0_restoreLatest 3 none, Cond.methodLink RL 151 yX6_undo, Cond.instanceMethod yX6_undo, Cond.selects RX6 yX6_undo yX6_undo, Cond.code yX6_undo cX6_undo 2 (some .int), Cond.methodLink RL 152 yX5_keep, Cond.instanceMethod yX5_keep, Cond.selects RX5 yX5_keep yX5_keep, Cond.code yX5_keep cX5_keep 1 (some .int), Cond.methodLink RX5 200 yX3_copyFrom, Cond.methodLink RL 155 yX6_keep, Cond.instanceMethod yX6_keep, Cond.selects RX6 yX6_keep yX6_keep, Cond.code yX6_keep cX6_keep 2 (some .int), Cond.fieldLink RX6 179 "PennantRopesModel" "isKept" "Z", Cond.methodLink RL 156 yL_restore, Cond.static yL_restore, Cond.codeWith yL_restore cL_restore 3 (some .int) [(0, 8, 11, 17)], Cond.methodLink RL 55 yX5_restore, Cond.instanceMethod yX5_restore, Cond.selects RX5 yX5_restore yX5_restore, Cond.code yX5_restore cX5_restore 1 (some .int)]
def wsL_law0_r29 : List Cond := [Cond.methodLink RL 158 yX6_restore, Cond.instanceMethod yX6_restore, Cond.selects RX6 yX6_restore yX6_restore, Cond.code yX6_restore cX6_restore 2 (some .int), Cond.methodLink RL 159 yL_place, Cond.static yL_place, Cond.codeWith yL_place cL_place 5 (some .int) [(0, 10, 13, 13)], Cond.methodLink RL 58 yX5_place, Cond.instanceMethod yX5_place, Cond.selects RX5 yX5_place yX5_place, Cond.code yX5_place cX5_place 4 (some .int), Cond.methodLink RX5 209 yX2_colourAt, Cond.methodLink RL 161 yX6_place, Cond.instanceMethod yX6_place, Cond.selects RX6 yX6_place yX6_place, Cond.code yX6_place cX6_place 3 (some .int), Cond.methodLink RL 162 yL_ropeOf, Cond.static yL_ropeOf, Cond.codeWith yL_ropeOf cL_ropeOf 5 (some .int) [(0, 10, 13, 13), (0, 10, 17, 15)], Cond.methodLink RL 61 yX5_ropeOf, Cond.instanceMethod yX5_ropeOf, Cond.selects RX5 yX5_ropeOf yX5_ropeOf, Cond.code yX5_ropeOf cX5_ropeOf 4 (some .int), Cond.methodLink RX5 212 yX5_requireWhat]
def wsL_law0_r30 : List Cond := [Cond.instanceMethod yX5_requireWhat, Cond.selects RX5 yX5_requireWhat yX5_requireWhat, Cond.code yX5_requireWhat cX5_requireWhat 3 none, Cond.methodLink RX5 215 yX5_ropeNumber, Cond.instanceMethod yX5_ropeNumber, Cond.selects RX5 yX5_ropeNumber yX5_ropeNumber, Cond.code yX5_ropeNumber cX5_ropeNumber 3 (some .int), Cond.methodLink RX5 326 yX2_placesOf, Cond.methodLink RX5 329 yX2_mostHolesSideBySide, Cond.instanceMethod yX2_mostHolesSideBySide, Cond.selects RX2 yX2_mostHolesSideBySide yX2_mostHolesSideBySide, Cond.code yX2_mostHolesSideBySide cX2_mostHolesSideBySide 4 (some .int), Cond.methodLink RX5 332 yX5_period, Cond.instanceMethod yX5_period, Cond.selects RX5 yX5_period yX5_period, Cond.code yX5_period cX5_period 4 (some .int), Cond.methodLink RX5 323 yX1_leastCommonMultiple, Cond.static yX1_leastCommonMultiple, Cond.code yX1_leastCommonMultiple cX1_leastCommonMultiple 3 (some .int), Cond.methodLink RX1 11 yX1_greatestCommonDivisor, Cond.static yX1_greatestCommonDivisor, Cond.code yX1_greatestCommonDivisor cX1_greatestCommonDivisor 6 (some .int), Cond.methodLink RL 164 yX6_ropeOf, Cond.instanceMethod yX6_ropeOf]
def wsL_law0_r31 : List Cond := [Cond.selects RX6 yX6_ropeOf yX6_ropeOf, Cond.code yX6_ropeOf cX6_ropeOf 3 (some .int), Cond.methodLink RX6 197 yX6_toldOfRope, Cond.instanceMethod yX6_toldOfRope, Cond.selects RX6 yX6_toldOfRope yX6_toldOfRope, Cond.code yX6_toldOfRope cX6_toldOfRope 3 (some .int), Cond.methodLink RX6 185 yX6_holes, Cond.instanceMethod yX6_holes, Cond.selects RX6 yX6_holes yX6_holes, Cond.code yX6_holes cX6_holes 4 (some .int), Cond.methodLink RX6 188 yX6_firstHole, Cond.instanceMethod yX6_firstHole, Cond.selects RX6 yX6_firstHole yX6_firstHole, Cond.code yX6_firstHole cX6_firstHole 4 (some .int), Cond.methodLink RX6 191 yX6_holesSideBySide, Cond.instanceMethod yX6_holesSideBySide, Cond.selects RX6 yX6_holesSideBySide yX6_holesSideBySide, Cond.code yX6_holesSideBySide cX6_holesSideBySide 5 (some .int), Cond.methodLink RX6 194 yX6_period, Cond.instanceMethod yX6_period, Cond.selects RX6 yX6_period yX6_period, Cond.code yX6_period cX6_period 4 (some .int), Cond.methodLink RX6 182 yX6_divisor, Cond.static yX6_divisor]
def wsL_law0_r32 : List Cond := [Cond.code yX6_divisor cX6_divisor 5 (some .int), Cond.methodLink RL 165 yL_hueOf, Cond.static yL_hueOf, Cond.codeWith yL_hueOf cL_hueOf 6 (some .int) [(0, 12, 15, 13), (0, 12, 19, 15)], Cond.methodLink RL 64 yX5_hueOf, Cond.instanceMethod yX5_hueOf, Cond.selects RX5 yX5_hueOf yX5_hueOf, Cond.code yX5_hueOf cX5_hueOf 5 (some .int), Cond.methodLink RX5 219 yX2_hueNumber, Cond.instanceMethod yX2_hueNumber, Cond.selects RX2 yX2_hueNumber yX2_hueNumber, Cond.code yX2_hueNumber cX2_hueNumber 4 (some .int), Cond.methodLink RX2 48 yX2_firstFrom, Cond.methodLink RX2 51 yX2_lastOf, Cond.methodLink RL 167 yX6_hueOf, Cond.instanceMethod yX6_hueOf, Cond.selects RX6 yX6_hueOf yX6_hueOf, Cond.code yX6_hueOf cX6_hueOf 4 (some .int), Cond.methodLink RX6 203 yX6_toldOfHue, Cond.instanceMethod yX6_toldOfHue, Cond.selects RX6 yX6_toldOfHue yX6_toldOfHue, Cond.code yX6_toldOfHue cX6_toldOfHue 4 (some .int), Cond.methodLink RX6 200 yX6_orderOf, Cond.instanceMethod yX6_orderOf]
def wsL_law0_r33 : List Cond := [Cond.selects RX6 yX6_orderOf yX6_orderOf, Cond.code yX6_orderOf cX6_orderOf 5 (some .int), Cond.methodLink RL 168 yL_gapOf, Cond.static yL_gapOf, Cond.codeWith yL_gapOf cL_gapOf 4 (some .int) [(0, 9, 12, 13)], Cond.methodLink RL 67 yX5_gapOf, Cond.instanceMethod yX5_gapOf, Cond.selects RX5 yX5_gapOf yX5_gapOf, Cond.code yX5_gapOf cX5_gapOf 2 (some .int), Cond.methodLink RL 170 yX6_gapOf, Cond.instanceMethod yX6_gapOf, Cond.selects RX6 yX6_gapOf yX6_gapOf, Cond.code yX6_gapOf cX6_gapOf 2 (some .int), Cond.methodLink RL 171 yL_count, Cond.static yL_count, Cond.codeWith yL_count cL_count 4 (some .int) [(0, 9, 12, 15)], Cond.methodLink RL 70 yX5_count, Cond.instanceMethod yX5_count, Cond.selects RX5 yX5_count yX5_count, Cond.code yX5_count cX5_count 2 (some .int), Cond.methodLink RX5 223 yX5_counted, Cond.instanceMethod yX5_counted, Cond.selects RX5 yX5_counted yX5_counted, Cond.code yX5_counted cX5_counted 2 (some .int)]
def wsL_law0_r34 : List Cond := [Cond.methodLink RX5 241 yX3_places, Cond.instanceMethod yX3_places, Cond.selects RX3 yX3_places yX3_places, Cond.code yX3_places cX3_places 4 (some .int), Cond.methodLink RX3 55 yX2_length, Cond.methodLink RX5 244 yX3_holes, Cond.instanceMethod yX3_holes, Cond.selects RX3 yX3_holes yX3_holes, Cond.code yX3_holes cX3_holes 4 (some .int), Cond.methodLink RX3 59 yX2_placesOf, Cond.methodLink RX5 335 yX3_laidHues, Cond.instanceMethod yX3_laidHues, Cond.selects RX3 yX3_laidHues yX3_laidHues, Cond.code yX3_laidHues cX3_laidHues 3 (some .int), Cond.methodLink RX3 62 yX3_isLaidOnSome, Cond.methodLink RX5 338 yX3_layings, Cond.instanceMethod yX3_layings, Cond.selects RX3 yX3_layings yX3_layings, Cond.code yX3_layings cX3_layings 1 (some .int), Cond.methodLink RX5 341 yX3_joins, Cond.instanceMethod yX3_joins, Cond.selects RX3 yX3_joins yX3_joins, Cond.code yX3_joins cX3_joins 1 (some .int), Cond.methodLink RX5 344 yX3_cuts]
def wsL_law0_r35 : List Cond := [Cond.instanceMethod yX3_cuts, Cond.selects RX3 yX3_cuts yX3_cuts, Cond.code yX3_cuts cX3_cuts 1 (some .int), Cond.methodLink RL 173 yX6_count, Cond.instanceMethod yX6_count, Cond.selects RX6 yX6_count yX6_count, Cond.code yX6_count cX6_count 2 (some .int), Cond.methodLink RX6 213 yX6_counted, Cond.instanceMethod yX6_counted, Cond.selects RX6 yX6_counted yX6_counted, Cond.code yX6_counted cX6_counted 2 (some .int), Cond.methodLink RX6 206 yX6_sum, Cond.instanceMethod yX6_sum, Cond.selects RX6 yX6_sum yX6_sum, Cond.code yX6_sum cX6_sum 4 (some .int), Cond.methodLink RX6 209 yX6_huesLaid, Cond.instanceMethod yX6_huesLaid, Cond.selects RX6 yX6_huesLaid yX6_huesLaid, Cond.code yX6_huesLaid cX6_huesLaid 3 (some .int), Cond.methodLink RL 174 yL_refusal, Cond.static yL_refusal, Cond.codeWith yL_refusal cL_refusal 6 (some .int) [(0, 12, 15, 13), (0, 12, 19, 15)], Cond.methodLink RL 73 yX5_refusal, Cond.instanceMethod yX5_refusal]
def wsL_law0_r36 : List Cond := [Cond.selects RX5 yX5_refusal yX5_refusal, Cond.code yX5_refusal cX5_refusal 5 (some .int), Cond.methodLink RL 176 yX6_refusal, Cond.instanceMethod yX6_refusal, Cond.selects RX6 yX6_refusal yX6_refusal, Cond.code yX6_refusal cX6_refusal 4 (some .int), Cond.methodLink RL 177 yL_meeting, Cond.static yL_meeting, Cond.codeWith yL_meeting cL_meeting 7 (some .int) [(0, 14, 17, 13), (0, 14, 21, 15)], Cond.methodLink RL 76 yX5_meeting, Cond.instanceMethod yX5_meeting, Cond.selects RX5 yX5_meeting yX5_meeting, Cond.code yX5_meeting cX5_meeting 5 (some .int), Cond.methodLink RX5 226 yX1_meetByRemainders, Cond.static yX1_meetByRemainders, Cond.code yX1_meetByRemainders cX1_meetByRemainders 7 (some .int), Cond.methodLink RX1 15 yX1_remainder, Cond.methodLink RL 180 yX6_meeting, Cond.instanceMethod yX6_meeting, Cond.selects RX6 yX6_meeting yX6_meeting, Cond.code yX6_meeting cX6_meeting 5 (some .int), Cond.methodLink RX6 216 yX6_canMeet, Cond.instanceMethod yX6_canMeet, Cond.selects RX6 yX6_canMeet yX6_canMeet]
def wsL_law0_r37 : List Cond := [Cond.code yX6_canMeet cX6_canMeet 6 (some .boolean), Cond.methodLink RX6 220 yX6_meet, Cond.instanceMethod yX6_meet, Cond.selects RX6 yX6_meet yX6_meet, Cond.code yX6_meet cX6_meet 6 (some .int), Cond.methodLink RL 181 yL_walked, Cond.static yL_walked, Cond.codeWith yL_walked cL_walked 7 (some .int) [(0, 14, 17, 13), (0, 14, 21, 15)], Cond.methodLink RL 80 yX5_walked, Cond.instanceMethod yX5_walked, Cond.selects RX5 yX5_walked yX5_walked, Cond.code yX5_walked cX5_walked 5 (some .int), Cond.methodLink RX5 232 yX1_meetByWalking, Cond.static yX1_meetByWalking, Cond.code yX1_meetByWalking cX1_meetByWalking 7 (some .int), Cond.methodLink RL 183 yX6_walked, Cond.instanceMethod yX6_walked, Cond.selects RX6 yX6_walked yX6_walked, Cond.code yX6_walked cX6_walked 5 (some .int), Cond.methodLink RL 184 yL_phases, Cond.static yL_phases, Cond.codeWith yL_phases cL_phases 6 (some .int) [(0, 12, 15, 13), (0, 12, 19, 15)], Cond.methodLink RL 83 yX5_phases, Cond.instanceMethod yX5_phases]
def wsL_law0_r38 : List Cond := [Cond.selects RX5 yX5_phases yX5_phases, Cond.code yX5_phases cX5_phases 5 (some .int), Cond.methodLink RX5 235 yX2_phaseNumber, Cond.instanceMethod yX2_phaseNumber, Cond.selects RX2 yX2_phaseNumber yX2_phaseNumber, Cond.code yX2_phaseNumber cX2_phaseNumber 4 (some .int), Cond.methodLink RX2 54 yX2_fittingPhases, Cond.instanceMethod yX2_fittingPhases, Cond.selects RX2 yX2_fittingPhases yX2_fittingPhases, Cond.code yX2_fittingPhases cX2_fittingPhases 5 (some .int), Cond.methodLink RX2 63 yX2_reasonAgainst, Cond.methodLink RX2 57 yX2_lowestPhase, Cond.instanceMethod yX2_lowestPhase, Cond.selects RX2 yX2_lowestPhase yX2_lowestPhase, Cond.code yX2_lowestPhase cX2_lowestPhase 4 (some .int), Cond.methodLink RX2 60 yX2_fillingPhase, Cond.instanceMethod yX2_fillingPhase, Cond.selects RX2 yX2_fillingPhase yX2_fillingPhase, Cond.code yX2_fillingPhase cX2_fillingPhase 7 (some .int), Cond.methodLink RX2 67 yX2_placesFrom, Cond.instanceMethod yX2_placesFrom, Cond.selects RX2 yX2_placesFrom yX2_placesFrom, Cond.code yX2_placesFrom cX2_placesFrom 6 (some .int), Cond.methodLink RL 186 yX6_phases]
def wsL_law0_r39 : List Cond := [Cond.instanceMethod yX6_phases, Cond.selects RX6 yX6_phases yX6_phases, Cond.code yX6_phases cX6_phases 4 (some .int), Cond.methodLink RX6 227 yX6_toldOfPhases, Cond.instanceMethod yX6_toldOfPhases, Cond.selects RX6 yX6_toldOfPhases yX6_toldOfPhases, Cond.code yX6_toldOfPhases cX6_toldOfPhases 9 (some .int), Cond.methodLink RX6 224 yX6_wouldTake, Cond.instanceMethod yX6_wouldTake, Cond.selects RX6 yX6_wouldTake yX6_wouldTake, Cond.code yX6_wouldTake cX6_wouldTake 4 (some .int), Cond.methodLink RL 187 yL_bestHue, Cond.static yL_bestHue, Cond.codeWith yL_bestHue cL_bestHue 4 (some .int) [(0, 9, 12, 13)], Cond.methodLink RL 86 yX5_bestHue, Cond.instanceMethod yX5_bestHue, Cond.selects RX5 yX5_bestHue yX5_bestHue, Cond.code yX5_bestHue cX5_bestHue 2 (some .int), Cond.methodLink RX5 238 yX5_fillingHue, Cond.instanceMethod yX5_fillingHue, Cond.selects RX5 yX5_fillingHue yX5_fillingHue, Cond.code yX5_fillingHue cX5_fillingHue 8 (some .int), Cond.methodLink RX5 317 yX2_fillingPhase, Cond.methodLink RX5 320 yX2_placesFrom]
def wsL_law0_r40 : List Cond := [Cond.methodLink RL 189 yX6_bestHue, Cond.instanceMethod yX6_bestHue, Cond.selects RX6 yX6_bestHue yX6_bestHue, Cond.code yX6_bestHue cX6_bestHue 2 (some .int), Cond.methodLink RX6 230 yX6_best, Cond.instanceMethod yX6_best, Cond.selects RX6 yX6_best yX6_best, Cond.code yX6_best cX6_best 7 (some .int), Cond.methodLink RL 190 yL_joining, Cond.static yL_joining, Cond.codeWith yL_joining cL_joining 5 (some .int) [(0, 10, 13, 13)], Cond.methodLink RL 89 yX5_joining, Cond.instanceMethod yX5_joining, Cond.selects RX5 yX5_joining yX5_joining, Cond.code yX5_joining cX5_joining 5 (some .int), Cond.methodLink RL 192 yX6_joining, Cond.instanceMethod yX6_joining, Cond.selects RX6 yX6_joining yX6_joining, Cond.code yX6_joining cX6_joining 3 (some .int), Cond.methodLink RL 193 yL_greatest, Cond.static yL_greatest, Cond.codeWith yL_greatest cL_greatest 4 (some .int) [(0, 9, 12, 13)], Cond.methodLink RL 92 yX5_greatest, Cond.instanceMethod yX5_greatest]
def wsL_law0_r41 : List Cond := [Cond.selects RX5 yX5_greatest yX5_greatest, Cond.code yX5_greatest cX5_greatest 2 (some .int), Cond.methodLink RL 195 yX6_greatest, Cond.instanceMethod yX6_greatest, Cond.selects RX6 yX6_greatest yX6_greatest, Cond.code yX6_greatest cX6_greatest 2 (some .int), Cond.methodLink RL 196 yX5_fullness, Cond.instanceMethod yX5_fullness, Cond.selects RX5 yX5_fullness yX5_fullness, Cond.code yX5_fullness cX5_fullness 3 (some .double), Cond.methodLink RL 200 yX6_fullness, Cond.instanceMethod yX6_fullness, Cond.selects RX6 yX6_fullness yX6_fullness, Cond.code yX6_fullness cX6_fullness 1 (some .double), Cond.methodLink RX6 233 yX6_share, Cond.instanceMethod yX6_share, Cond.selects RX6 yX6_share yX6_share, Cond.code yX6_share cX6_share 1 (some .double), Cond.methodLink RL 201 yX5_digest, Cond.instanceMethod yX5_digest, Cond.selects RX5 yX5_digest yX5_digest, Cond.code yX5_digest cX5_digest 4 (some .long), Cond.constantLong RX5 247 (3643), Cond.methodLink RX5 249 yX5_mixed]
def wsL_law0_r42 : List Cond := [Cond.static yX5_mixed, Cond.code yX5_mixed cX5_mixed 4 (some .long), Cond.constantLong RX5 347 (31), Cond.methodLink RX5 253 yX5_ropeMixed, Cond.instanceMethod yX5_ropeMixed, Cond.selects RX5 yX5_ropeMixed yX5_ropeMixed, Cond.code yX5_ropeMixed cX5_ropeMixed 9 (some .long), Cond.methodLink RX5 349 yX5_hueMixed, Cond.instanceMethod yX5_hueMixed, Cond.selects RX5 yX5_hueMixed yX5_hueMixed, Cond.code yX5_hueMixed cX5_hueMixed 8 (some .long), Cond.methodLink RX5 257 yX5_fullness, Cond.methodLink RX5 261 yX1_bitsOfShare, Cond.static yX1_bitsOfShare, Cond.code yX1_bitsOfShare cX1_bitsOfShare 8 (some .long), Cond.constantLong RX1 18 (1023), Cond.constantDouble RX1 20 (4611686018427387904), Cond.constantDouble RX1 22 (4841369599423283200), Cond.methodLink RL 205 yX6_digest, Cond.instanceMethod yX6_digest, Cond.selects RX6 yX6_digest yX6_digest, Cond.code yX6_digest cX6_digest 2 (some .long), Cond.constantLong RX6 255 (3643), Cond.fieldLink RX6 247 "PennantRopesModel" "digested" "J"]
def wsL_law0_r43 : List Cond := [Cond.methodLink RX6 251 yX6_digestOne, Cond.instanceMethod yX6_digestOne, Cond.selects RX6 yX6_digestOne yX6_digestOne, Cond.code yX6_digestOne cX6_digestOne 3 none, Cond.constantLong RX6 245 (31), Cond.methodLink RX6 257 yX6_digestRope, Cond.instanceMethod yX6_digestRope, Cond.selects RX6 yX6_digestRope yX6_digestRope, Cond.code yX6_digestRope cX6_digestRope 4 none, Cond.methodLink RX6 260 yX6_bitsOf, Cond.static yX6_bitsOf, Cond.code yX6_bitsOf cX6_bitsOf 6 (some .long), Cond.constantLong RX6 237 (1023), Cond.constantDouble RX6 239 (4611686018427387904), Cond.constantLong RX6 241 (4503599627370496), Cond.constantDouble RX6 243 (4841369599423283200)]
def wsL_law0 : List Cond := (wsL_law0_r1 ++ (wsL_law0_r2 ++ (wsL_law0_r3 ++ (wsL_law0_r4 ++ (wsL_law0_r5 ++ (wsL_law0_r6 ++ (wsL_law0_r7 ++ (wsL_law0_r8 ++ (wsL_law0_r9 ++ (wsL_law0_r10 ++ (wsL_law0_r11 ++ (wsL_law0_r12 ++ (wsL_law0_r13 ++ (wsL_law0_r14 ++ (wsL_law0_r15 ++ (wsL_law0_r16 ++ (wsL_law0_r17 ++ (wsL_law0_r18 ++ (wsL_law0_r19 ++ (wsL_law0_r20 ++ (wsL_law0_r21 ++ (wsL_law0_r22 ++ (wsL_law0_r23 ++ (wsL_law0_r24 ++ (wsL_law0_r25 ++ (wsL_law0_r26 ++ (wsL_law0_r27 ++ (wsL_law0_r28 ++ (wsL_law0_r29 ++ (wsL_law0_r30 ++ (wsL_law0_r31 ++ (wsL_law0_r32 ++ (wsL_law0_r33 ++ (wsL_law0_r34 ++ (wsL_law0_r35 ++ (wsL_law0_r36 ++ (wsL_law0_r37 ++ (wsL_law0_r38 ++ (wsL_law0_r39 ++ (wsL_law0_r40 ++ (wsL_law0_r41 ++ (wsL_law0_r42 ++ wsL_law0_r43)))))))))))))))))))))))))))))))))))))))))) ++ wsX50 ++ wsX60 ++ wsX30 ++ wsX00 ++ wsX40 ++ wsX20 ++ ([] : List Cond)
def wsL_law : List Cond := wsL_law0 ++ (vx_atS RX5 52 "java/lang/IllegalArgumentException" ["java/lang/RuntimeException", "java/lang/Exception"]).filter goodWord ++ (vx_atS RX5 63 "java/lang/IllegalStateException" ["java/lang/RuntimeException", "java/lang/Exception"]).filter goodWord ++ (vx_atS RX5 208 "java/lang/IndexOutOfBoundsException" ["java/lang/RuntimeException", "java/lang/Exception"]).filter goodWord
set_option maxRecDepth 20000 in
theorem wsL_law_in0 : ∀ w ∈ wsL_law0, w ∈ lw_tbl := fun w h => (goodIn_p wsL_law0 [100, 103, 108, 115, 154, 170, 892, 482, 486, 305, 256, 309, 591, 595, 599, 252, 260, 333, 604, 950, 953, 956, 960, 964, 968, 971, 975, 979, 946, 611, 615, 620, 264, 625, 444, 447, 359, 983, 987, 991, 633, 637, 642, 995, 999, 1003, 649, 653, 401, 288, 659, 456, 460, 1007, 1011, 1015, 1019, 1023, 1027, 1031, 1035, 668, 673, 284, 1039, 1043, 1047, 680, 423, 276, 427, 347, 367, 352, 430, 685, 1051, 1055, 1059, 1063, 693, 698, 702, 1067, 709, 713, 389, 717, 1071, 1075, 1079, 1083, 724, 434, 440, 451, 729, 1087, 1091, 1095, 1099, 1103, 1107, 736, 741, 746, 207, 1111, 203, 211, 1115, 215, 219, 223, 226, 229, 232, 235, 238, 241, 244, 1119, 1123, 1127, 1131, 1135, 1139, 1143, 753, 757, 762, 766, 770, 774, 1147, 781, 325, 786, 1151, 248, 1155, 793, 1159, 801, 1163, 809, 813, 342, 356, 363, 370, 373, 1167, 1171, 1175, 1179, 1183, 1187, 1190, 821, 382, 1194, 1198, 1202, 828, 1206, 835, 297, 272, 280, 301, 313, 317, 321, 1210, 1214, 1218, 1222, 842, 1226, 849, 463, 1230, 1234, 1238, 856, 859, 1242, 866, 393, 397, 405, 409, 413, 1246, 1250, 1254, 873, 417, 1258, 1262, 880, 1266, 887, 1270, 268, 1274, 1278, 292, 328, 337, 378, 468, 1282, 1287, 1292, 1295] (by decide +kernel) (by decide +kernel) w h).1
theorem wsL_law_x0 : ∀ w ∈ (vx_atS RX5 52 "java/lang/IllegalArgumentException" ["java/lang/RuntimeException", "java/lang/Exception"]).filter goodWord, w ∈ lw_tbl := by decide +kernel
theorem wsL_law_x1 : ∀ w ∈ (vx_atS RX5 63 "java/lang/IllegalStateException" ["java/lang/RuntimeException", "java/lang/Exception"]).filter goodWord, w ∈ lw_tbl := by decide +kernel
theorem wsL_law_x2 : ∀ w ∈ (vx_atS RX5 208 "java/lang/IndexOutOfBoundsException" ["java/lang/RuntimeException", "java/lang/Exception"]).filter goodWord, w ∈ lw_tbl := by decide +kernel
theorem wsL_law_in : ∀ w ∈ wsL_law, w ∈ lw_tbl := fun w h => (List.mem_append.mp h).elim (fun h => (List.mem_append.mp h).elim (fun h => (List.mem_append.mp h).elim (fun h => wsL_law_in0 w h) (fun h => wsL_law_x0 w h)) (fun h => wsL_law_x1 w h)) (fun h => wsL_law_x2 w h)
theorem inlX0 : ∀ w ∈ wsX00, w ∈ wsL_law := fun _ h => List.mem_append_left _ (List.mem_append_left _ (List.mem_append_left _ (List.mem_append_left _ (List.mem_append_left _ (List.mem_append_left _ (List.mem_append_right _ h))))))
theorem inX0 : ∀ w ∈ wsX00, w ∈ lw_tbl := fun w h => wsL_law_in w (inlX0 w h)
theorem inX1 : ∀ w ∈ wsX10, w ∈ lw_tbl := by decide +kernel
theorem inlX2 : ∀ w ∈ wsX20, w ∈ wsL_law := fun _ h => List.mem_append_left _ (List.mem_append_left _ (List.mem_append_left _ (List.mem_append_left _ (List.mem_append_right _ h))))
theorem inX2 : ∀ w ∈ wsX20, w ∈ lw_tbl := fun w h => wsL_law_in w (inlX2 w h)
theorem inlX3 : ∀ w ∈ wsX30, w ∈ wsL_law := fun _ h => List.mem_append_left _ (List.mem_append_left _ (List.mem_append_left _ (List.mem_append_left _ (List.mem_append_left _ (List.mem_append_left _ (List.mem_append_left _ (List.mem_append_right _ h)))))))
theorem inX3 : ∀ w ∈ wsX30, w ∈ lw_tbl := fun w h => wsL_law_in w (inlX3 w h)
theorem inlX4 : ∀ w ∈ wsX40, w ∈ wsL_law := fun _ h => List.mem_append_left _ (List.mem_append_left _ (List.mem_append_left _ (List.mem_append_left _ (List.mem_append_left _ (List.mem_append_right _ h)))))
theorem inX4 : ∀ w ∈ wsX40, w ∈ lw_tbl := fun w h => wsL_law_in w (inlX4 w h)
theorem inlX5 : ∀ w ∈ wsX50, w ∈ wsL_law := fun _ h => List.mem_append_left _ (List.mem_append_left _ (List.mem_append_left _ (List.mem_append_left _ (List.mem_append_left _ (List.mem_append_left _ (List.mem_append_left _ (List.mem_append_left _ (List.mem_append_left _ (List.mem_append_right _ h)))))))))
theorem inX5 : ∀ w ∈ wsX50, w ∈ lw_tbl := fun w h => wsL_law_in w (inlX5 w h)
theorem inlX6 : ∀ w ∈ wsX60, w ∈ wsL_law := fun _ h => List.mem_append_left _ (List.mem_append_left _ (List.mem_append_left _ (List.mem_append_left _ (List.mem_append_left _ (List.mem_append_left _ (List.mem_append_left _ (List.mem_append_left _ (List.mem_append_right _ h))))))))
theorem inX6 : ∀ w ∈ wsX60, w ∈ lw_tbl := fun w h => wsL_law_in w (inlX6 w h)
theorem inJ9 : ∀ w ∈ wsJ90, w ∈ lw_tbl := by decide +kernel
theorem inJ0 : ∀ w ∈ wsJ00, w ∈ lw_tbl := by decide +kernel
abbrev vwCl : List vw_C := [(RX0, TX0, 2), (RX2, TX2, 4), (RX3, TX3, 6), (RX4, TX4, 2), (RX5, TX5, 6), (RX6, TX6, 16)]
end
section
theorem dX0_init_0 : decode cX0_init 0 = .ok (.aload_n 0, 1) := by decide +kernel
theorem dX0_init_1 : decode cX0_init 1 = .ok (.invokespecial 3, 3) := by decide +kernel
theorem dX0_init_4 : decode cX0_init 4 = .ok (.aload_n 0, 1) := by decide +kernel
theorem dX0_init_5 : decode cX0_init 5 = .ok (.bipush 6, 2) := by decide +kernel
theorem dX0_init_7 : decode cX0_init 7 = .ok (.anewarray 9, 3) := by decide +kernel
theorem dX0_init_10 : decode cX0_init 10 = .ok (.putfield 11, 3) := by decide +kernel
theorem dX0_init_13 : decode cX0_init 13 = .ok (.iconst 0, 1) := by decide +kernel
theorem dX0_init_14 : decode cX0_init 14 = .ok (.istore_n 1, 1) := by decide +kernel
theorem dX0_init_15 : decode cX0_init 15 = .ok (.iload_n 1, 1) := by decide +kernel
theorem dX0_init_16 : decode cX0_init 16 = .ok (.aload_n 0, 1) := by decide +kernel
theorem dX0_init_17 : decode cX0_init 17 = .ok (.getfield 11, 3) := by decide +kernel
theorem dX0_init_20 : decode cX0_init 20 = .ok (.arraylength, 1) := by decide +kernel
theorem dX0_init_21 : decode cX0_init 21 = .ok (.if_icmp .ge 22, 3) := by decide +kernel
theorem dX0_init_24 : decode cX0_init 24 = .ok (.aload_n 0, 1) := by decide +kernel
theorem dX0_init_25 : decode cX0_init 25 = .ok (.getfield 11, 3) := by decide +kernel
theorem dX0_init_28 : decode cX0_init 28 = .ok (.iload_n 1, 1) := by decide +kernel
theorem dX0_init_29 : decode cX0_init 29 = .ok (.new 9, 3) := by decide +kernel
theorem dX0_init_32 : decode cX0_init 32 = .ok (.dup, 1) := by decide +kernel
theorem dX0_init_33 : decode cX0_init 33 = .ok (.invokespecial 17, 3) := by decide +kernel
theorem dX0_init_36 : decode cX0_init 36 = .ok (.aastore, 1) := by decide +kernel
theorem dX0_init_37 : decode cX0_init 37 = .ok (.iinc 1 1, 3) := by decide +kernel
theorem dX0_init_40 : decode cX0_init 40 = .ok (.goto (-25), 3) := by decide +kernel
theorem dX0_init_43 : decode cX0_init 43 = .ok (.aload_n 0, 1) := by decide +kernel
theorem dX0_init_44 : decode cX0_init 44 = .ok (.iconst 0, 1) := by decide +kernel
theorem dX0_init_45 : decode cX0_init 45 = .ok (.putfield 18, 3) := by decide +kernel
theorem dX0_init_48 : decode cX0_init 48 = .ok (.return_, 1) := by decide +kernel
theorem dX0_size_0 : decode cX0_size 0 = .ok (.aload_n 0, 1) := by decide +kernel
theorem dX0_size_1 : decode cX0_size 1 = .ok (.getfield 18, 3) := by decide +kernel
theorem dX0_size_4 : decode cX0_size 4 = .ok (.ireturn, 1) := by decide +kernel
theorem dX0_save_0 : decode cX0_save 0 = .ok (.aload_n 0, 1) := by decide +kernel
theorem dX0_save_1 : decode cX0_save 1 = .ok (.getfield 18, 3) := by decide +kernel
theorem dX0_save_4 : decode cX0_save 4 = .ok (.aload_n 0, 1) := by decide +kernel
theorem dX0_save_5 : decode cX0_save 5 = .ok (.getfield 11, 3) := by decide +kernel
theorem dX0_save_8 : decode cX0_save 8 = .ok (.arraylength, 1) := by decide +kernel
theorem dX0_save_9 : decode cX0_save 9 = .ok (.if_icmp .lt 7, 3) := by decide +kernel
theorem dX0_save_12 : decode cX0_save 12 = .ok (.aload_n 0, 1) := by decide +kernel
theorem dX0_save_13 : decode cX0_save 13 = .ok (.invokevirtual 22, 3) := by decide +kernel
theorem dX0_save_16 : decode cX0_save 16 = .ok (.aload_n 0, 1) := by decide +kernel
theorem dX0_save_17 : decode cX0_save 17 = .ok (.aload_n 0, 1) := by decide +kernel
theorem dX0_save_18 : decode cX0_save 18 = .ok (.getfield 18, 3) := by decide +kernel
theorem dX0_save_21 : decode cX0_save 21 = .ok (.invokevirtual 25, 3) := by decide +kernel
theorem dX0_save_24 : decode cX0_save 24 = .ok (.astore_n 2, 1) := by decide +kernel
theorem dX0_save_25 : decode cX0_save 25 = .ok (.aload_n 2, 1) := by decide +kernel
theorem dX0_save_26 : decode cX0_save 26 = .ok (.ifnull 18, 3) := by decide +kernel
theorem dX0_save_29 : decode cX0_save 29 = .ok (.aload_n 2, 1) := by decide +kernel
theorem dX0_save_30 : decode cX0_save 30 = .ok (.aload_n 1, 1) := by decide +kernel
theorem dX0_save_31 : decode cX0_save 31 = .ok (.invokevirtual 29, 3) := by decide +kernel
theorem dX0_save_34 : decode cX0_save 34 = .ok (.aload_n 0, 1) := by decide +kernel
theorem dX0_save_35 : decode cX0_save 35 = .ok (.dup, 1) := by decide +kernel
theorem dX0_save_36 : decode cX0_save 36 = .ok (.getfield 18, 3) := by decide +kernel
theorem dX0_save_39 : decode cX0_save 39 = .ok (.iconst 1, 1) := by decide +kernel
theorem dX0_save_40 : decode cX0_save 40 = .ok (.iadd, 1) := by decide +kernel
theorem dX0_save_41 : decode cX0_save 41 = .ok (.putfield 18, 3) := by decide +kernel
theorem dX0_save_44 : decode cX0_save 44 = .ok (.return_, 1) := by decide +kernel
theorem dX0_restoreLatest_0 : decode cX0_restoreLatest 0 = .ok (.aload_n 0, 1) := by decide +kernel
theorem dX0_restoreLatest_1 : decode cX0_restoreLatest 1 = .ok (.aload_n 0, 1) := by decide +kernel
theorem dX0_restoreLatest_2 : decode cX0_restoreLatest 2 = .ok (.getfield 18, 3) := by decide +kernel
theorem dX0_restoreLatest_5 : decode cX0_restoreLatest 5 = .ok (.iconst 1, 1) := by decide +kernel
theorem dX0_restoreLatest_6 : decode cX0_restoreLatest 6 = .ok (.isub, 1) := by decide +kernel
theorem dX0_restoreLatest_7 : decode cX0_restoreLatest 7 = .ok (.invokevirtual 25, 3) := by decide +kernel
theorem dX0_restoreLatest_10 : decode cX0_restoreLatest 10 = .ok (.astore_n 2, 1) := by decide +kernel
theorem dX0_restoreLatest_11 : decode cX0_restoreLatest 11 = .ok (.aload_n 2, 1) := by decide +kernel
theorem dX0_restoreLatest_12 : decode cX0_restoreLatest 12 = .ok (.ifnull 18, 3) := by decide +kernel
theorem dX0_restoreLatest_15 : decode cX0_restoreLatest 15 = .ok (.aload_n 1, 1) := by decide +kernel
theorem dX0_restoreLatest_16 : decode cX0_restoreLatest 16 = .ok (.aload_n 2, 1) := by decide +kernel
theorem dX0_restoreLatest_17 : decode cX0_restoreLatest 17 = .ok (.invokevirtual 29, 3) := by decide +kernel
theorem dX0_restoreLatest_20 : decode cX0_restoreLatest 20 = .ok (.aload_n 0, 1) := by decide +kernel
theorem dX0_restoreLatest_21 : decode cX0_restoreLatest 21 = .ok (.dup, 1) := by decide +kernel
theorem dX0_restoreLatest_22 : decode cX0_restoreLatest 22 = .ok (.getfield 18, 3) := by decide +kernel
theorem dX0_restoreLatest_25 : decode cX0_restoreLatest 25 = .ok (.iconst 1, 1) := by decide +kernel
theorem dX0_restoreLatest_26 : decode cX0_restoreLatest 26 = .ok (.isub, 1) := by decide +kernel
theorem dX0_restoreLatest_27 : decode cX0_restoreLatest 27 = .ok (.putfield 18, 3) := by decide +kernel
theorem dX0_restoreLatest_30 : decode cX0_restoreLatest 30 = .ok (.return_, 1) := by decide +kernel
theorem dX0_rowAt_0 : decode cX0_rowAt 0 = .ok (.iload_n 1, 1) := by decide +kernel
theorem dX0_rowAt_1 : decode cX0_rowAt 1 = .ok (.ifCond .lt 21, 3) := by decide +kernel
theorem dX0_rowAt_4 : decode cX0_rowAt 4 = .ok (.iload_n 1, 1) := by decide +kernel
theorem dX0_rowAt_5 : decode cX0_rowAt 5 = .ok (.aload_n 0, 1) := by decide +kernel
theorem dX0_rowAt_6 : decode cX0_rowAt 6 = .ok (.getfield 11, 3) := by decide +kernel
theorem dX0_rowAt_9 : decode cX0_rowAt 9 = .ok (.arraylength, 1) := by decide +kernel
theorem dX0_rowAt_10 : decode cX0_rowAt 10 = .ok (.if_icmp .ge 12, 3) := by decide +kernel
theorem dX0_rowAt_13 : decode cX0_rowAt 13 = .ok (.aload_n 0, 1) := by decide +kernel
theorem dX0_rowAt_14 : decode cX0_rowAt 14 = .ok (.getfield 11, 3) := by decide +kernel
theorem dX0_rowAt_17 : decode cX0_rowAt 17 = .ok (.iload_n 1, 1) := by decide +kernel
theorem dX0_rowAt_18 : decode cX0_rowAt 18 = .ok (.aaload, 1) := by decide +kernel
theorem dX0_rowAt_19 : decode cX0_rowAt 19 = .ok (.goto 4, 3) := by decide +kernel
theorem dX0_rowAt_22 : decode cX0_rowAt 22 = .ok (.aconst_null, 1) := by decide +kernel
theorem dX0_rowAt_23 : decode cX0_rowAt 23 = .ok (.areturn, 1) := by decide +kernel
theorem dX0_dropOldest_0 : decode cX0_dropOldest 0 = .ok (.aload_n 0, 1) := by decide +kernel
theorem dX0_dropOldest_1 : decode cX0_dropOldest 1 = .ok (.iconst 0, 1) := by decide +kernel
theorem dX0_dropOldest_2 : decode cX0_dropOldest 2 = .ok (.invokevirtual 25, 3) := by decide +kernel
theorem dX0_dropOldest_5 : decode cX0_dropOldest 5 = .ok (.astore_n 1, 1) := by decide +kernel
theorem dX0_dropOldest_6 : decode cX0_dropOldest 6 = .ok (.iconst 1, 1) := by decide +kernel
theorem dX0_dropOldest_7 : decode cX0_dropOldest 7 = .ok (.istore_n 2, 1) := by decide +kernel
theorem dX0_dropOldest_8 : decode cX0_dropOldest 8 = .ok (.iload_n 2, 1) := by decide +kernel
theorem dX0_dropOldest_9 : decode cX0_dropOldest 9 = .ok (.aload_n 0, 1) := by decide +kernel
theorem dX0_dropOldest_10 : decode cX0_dropOldest 10 = .ok (.getfield 11, 3) := by decide +kernel
theorem dX0_dropOldest_13 : decode cX0_dropOldest 13 = .ok (.arraylength, 1) := by decide +kernel
theorem dX0_dropOldest_14 : decode cX0_dropOldest 14 = .ok (.if_icmp .ge 23, 3) := by decide +kernel
theorem dX0_dropOldest_17 : decode cX0_dropOldest 17 = .ok (.aload_n 0, 1) := by decide +kernel
theorem dX0_dropOldest_18 : decode cX0_dropOldest 18 = .ok (.getfield 11, 3) := by decide +kernel
theorem dX0_dropOldest_21 : decode cX0_dropOldest 21 = .ok (.iload_n 2, 1) := by decide +kernel
theorem dX0_dropOldest_22 : decode cX0_dropOldest 22 = .ok (.iconst 1, 1) := by decide +kernel
theorem dX0_dropOldest_23 : decode cX0_dropOldest 23 = .ok (.isub, 1) := by decide +kernel
theorem dX0_dropOldest_24 : decode cX0_dropOldest 24 = .ok (.aload_n 0, 1) := by decide +kernel
theorem dX0_dropOldest_25 : decode cX0_dropOldest 25 = .ok (.getfield 11, 3) := by decide +kernel
theorem dX0_dropOldest_28 : decode cX0_dropOldest 28 = .ok (.iload_n 2, 1) := by decide +kernel
theorem dX0_dropOldest_29 : decode cX0_dropOldest 29 = .ok (.aaload, 1) := by decide +kernel
theorem dX0_dropOldest_30 : decode cX0_dropOldest 30 = .ok (.aastore, 1) := by decide +kernel
theorem dX0_dropOldest_31 : decode cX0_dropOldest 31 = .ok (.iinc 2 1, 3) := by decide +kernel
theorem dX0_dropOldest_34 : decode cX0_dropOldest 34 = .ok (.goto (-26), 3) := by decide +kernel
theorem dX0_dropOldest_37 : decode cX0_dropOldest 37 = .ok (.aload_n 0, 1) := by decide +kernel
theorem dX0_dropOldest_38 : decode cX0_dropOldest 38 = .ok (.aload_n 0, 1) := by decide +kernel
theorem dX0_dropOldest_39 : decode cX0_dropOldest 39 = .ok (.getfield 11, 3) := by decide +kernel
theorem dX0_dropOldest_42 : decode cX0_dropOldest 42 = .ok (.arraylength, 1) := by decide +kernel
theorem dX0_dropOldest_43 : decode cX0_dropOldest 43 = .ok (.iconst 1, 1) := by decide +kernel
theorem dX0_dropOldest_44 : decode cX0_dropOldest 44 = .ok (.isub, 1) := by decide +kernel
theorem dX0_dropOldest_45 : decode cX0_dropOldest 45 = .ok (.putfield 18, 3) := by decide +kernel
theorem dX0_dropOldest_48 : decode cX0_dropOldest 48 = .ok (.aload_n 0, 1) := by decide +kernel
theorem dX0_dropOldest_49 : decode cX0_dropOldest 49 = .ok (.getfield 18, 3) := by decide +kernel
theorem dX0_dropOldest_52 : decode cX0_dropOldest 52 = .ok (.ifCond .lt 25, 3) := by decide +kernel
theorem dX0_dropOldest_55 : decode cX0_dropOldest 55 = .ok (.aload_n 0, 1) := by decide +kernel
theorem dX0_dropOldest_56 : decode cX0_dropOldest 56 = .ok (.getfield 18, 3) := by decide +kernel
theorem dX0_dropOldest_59 : decode cX0_dropOldest 59 = .ok (.aload_n 0, 1) := by decide +kernel
theorem dX0_dropOldest_60 : decode cX0_dropOldest 60 = .ok (.getfield 11, 3) := by decide +kernel
theorem dX0_dropOldest_63 : decode cX0_dropOldest 63 = .ok (.arraylength, 1) := by decide +kernel
theorem dX0_dropOldest_64 : decode cX0_dropOldest 64 = .ok (.if_icmp .ge 13, 3) := by decide +kernel
theorem dX0_dropOldest_67 : decode cX0_dropOldest 67 = .ok (.aload_n 0, 1) := by decide +kernel
theorem dX0_dropOldest_68 : decode cX0_dropOldest 68 = .ok (.getfield 11, 3) := by decide +kernel
theorem dX0_dropOldest_71 : decode cX0_dropOldest 71 = .ok (.aload_n 0, 1) := by decide +kernel
theorem dX0_dropOldest_72 : decode cX0_dropOldest 72 = .ok (.getfield 18, 3) := by decide +kernel
theorem dX0_dropOldest_75 : decode cX0_dropOldest 75 = .ok (.aload_n 1, 1) := by decide +kernel
theorem dX0_dropOldest_76 : decode cX0_dropOldest 76 = .ok (.aastore, 1) := by decide +kernel
theorem dX0_dropOldest_77 : decode cX0_dropOldest 77 = .ok (.return_, 1) := by decide +kernel
theorem dX1_remainder_0 : decode cX1_remainder 0 = .ok (.iload_n 1, 1) := by decide +kernel
theorem dX1_remainder_1 : decode cX1_remainder 1 = .ok (.ifCond .le 9, 3) := by decide +kernel
theorem dX1_remainder_4 : decode cX1_remainder 4 = .ok (.iload_n 0, 1) := by decide +kernel
theorem dX1_remainder_5 : decode cX1_remainder 5 = .ok (.iload_n 1, 1) := by decide +kernel
theorem dX1_remainder_6 : decode cX1_remainder 6 = .ok (.irem, 1) := by decide +kernel
theorem dX1_remainder_7 : decode cX1_remainder 7 = .ok (.goto 4, 3) := by decide +kernel
theorem dX1_remainder_10 : decode cX1_remainder 10 = .ok (.iconst 0, 1) := by decide +kernel
theorem dX1_remainder_11 : decode cX1_remainder 11 = .ok (.ireturn, 1) := by decide +kernel
theorem dX1_greatestCommonDivisor_0 : decode cX1_greatestCommonDivisor 0 = .ok (.iload_n 0, 1) := by decide +kernel
theorem dX1_greatestCommonDivisor_1 : decode cX1_greatestCommonDivisor 1 = .ok (.istore_n 2, 1) := by decide +kernel
theorem dX1_greatestCommonDivisor_2 : decode cX1_greatestCommonDivisor 2 = .ok (.iload_n 1, 1) := by decide +kernel
theorem dX1_greatestCommonDivisor_3 : decode cX1_greatestCommonDivisor 3 = .ok (.istore_n 3, 1) := by decide +kernel
theorem dX1_greatestCommonDivisor_4 : decode cX1_greatestCommonDivisor 4 = .ok (.iconst 0, 1) := by decide +kernel
theorem dX1_greatestCommonDivisor_5 : decode cX1_greatestCommonDivisor 5 = .ok (.istore 4, 2) := by decide +kernel
theorem dX1_greatestCommonDivisor_7 : decode cX1_greatestCommonDivisor 7 = .ok (.iload 4, 2) := by decide +kernel
theorem dX1_greatestCommonDivisor_9 : decode cX1_greatestCommonDivisor 9 = .ok (.bipush 64, 2) := by decide +kernel
theorem dX1_greatestCommonDivisor_11 : decode cX1_greatestCommonDivisor 11 = .ok (.if_icmp .ge 23, 3) := by decide +kernel
theorem dX1_greatestCommonDivisor_14 : decode cX1_greatestCommonDivisor 14 = .ok (.iload_n 3, 1) := by decide +kernel
theorem dX1_greatestCommonDivisor_15 : decode cX1_greatestCommonDivisor 15 = .ok (.ifCond .le 19, 3) := by decide +kernel
theorem dX1_greatestCommonDivisor_18 : decode cX1_greatestCommonDivisor 18 = .ok (.iload_n 2, 1) := by decide +kernel
theorem dX1_greatestCommonDivisor_19 : decode cX1_greatestCommonDivisor 19 = .ok (.iload_n 3, 1) := by decide +kernel
theorem dX1_greatestCommonDivisor_20 : decode cX1_greatestCommonDivisor 20 = .ok (.irem, 1) := by decide +kernel
theorem dX1_greatestCommonDivisor_21 : decode cX1_greatestCommonDivisor 21 = .ok (.istore 5, 2) := by decide +kernel
theorem dX1_greatestCommonDivisor_23 : decode cX1_greatestCommonDivisor 23 = .ok (.iload_n 3, 1) := by decide +kernel
theorem dX1_greatestCommonDivisor_24 : decode cX1_greatestCommonDivisor 24 = .ok (.istore_n 2, 1) := by decide +kernel
theorem dX1_greatestCommonDivisor_25 : decode cX1_greatestCommonDivisor 25 = .ok (.iload 5, 2) := by decide +kernel
theorem dX1_greatestCommonDivisor_27 : decode cX1_greatestCommonDivisor 27 = .ok (.istore_n 3, 1) := by decide +kernel
theorem dX1_greatestCommonDivisor_28 : decode cX1_greatestCommonDivisor 28 = .ok (.iinc 4 1, 3) := by decide +kernel
theorem dX1_greatestCommonDivisor_31 : decode cX1_greatestCommonDivisor 31 = .ok (.goto (-24), 3) := by decide +kernel
theorem dX1_greatestCommonDivisor_34 : decode cX1_greatestCommonDivisor 34 = .ok (.iload_n 2, 1) := by decide +kernel
theorem dX1_greatestCommonDivisor_35 : decode cX1_greatestCommonDivisor 35 = .ok (.ireturn, 1) := by decide +kernel
theorem dX1_leastCommonMultiple_0 : decode cX1_leastCommonMultiple 0 = .ok (.iload_n 0, 1) := by decide +kernel
theorem dX1_leastCommonMultiple_1 : decode cX1_leastCommonMultiple 1 = .ok (.iload_n 1, 1) := by decide +kernel
theorem dX1_leastCommonMultiple_2 : decode cX1_leastCommonMultiple 2 = .ok (.invokestatic 11, 3) := by decide +kernel
theorem dX1_leastCommonMultiple_5 : decode cX1_leastCommonMultiple 5 = .ok (.istore_n 2, 1) := by decide +kernel
theorem dX1_leastCommonMultiple_6 : decode cX1_leastCommonMultiple 6 = .ok (.iload_n 2, 1) := by decide +kernel
theorem dX1_leastCommonMultiple_7 : decode cX1_leastCommonMultiple 7 = .ok (.ifCond .le 11, 3) := by decide +kernel
theorem dX1_leastCommonMultiple_10 : decode cX1_leastCommonMultiple 10 = .ok (.iload_n 0, 1) := by decide +kernel
theorem dX1_leastCommonMultiple_11 : decode cX1_leastCommonMultiple 11 = .ok (.iload_n 2, 1) := by decide +kernel
theorem dX1_leastCommonMultiple_12 : decode cX1_leastCommonMultiple 12 = .ok (.idiv, 1) := by decide +kernel
theorem dX1_leastCommonMultiple_13 : decode cX1_leastCommonMultiple 13 = .ok (.iload_n 1, 1) := by decide +kernel
theorem dX1_leastCommonMultiple_14 : decode cX1_leastCommonMultiple 14 = .ok (.imul, 1) := by decide +kernel
theorem dX1_leastCommonMultiple_15 : decode cX1_leastCommonMultiple 15 = .ok (.goto 4, 3) := by decide +kernel
theorem dX1_leastCommonMultiple_18 : decode cX1_leastCommonMultiple 18 = .ok (.iconst 0, 1) := by decide +kernel
theorem dX1_leastCommonMultiple_19 : decode cX1_leastCommonMultiple 19 = .ok (.ireturn, 1) := by decide +kernel
theorem dX1_meetByRemainders_0 : decode cX1_meetByRemainders 0 = .ok (.iload_n 0, 1) := by decide +kernel
theorem dX1_meetByRemainders_1 : decode cX1_meetByRemainders 1 = .ok (.iload_n 2, 1) := by decide +kernel
theorem dX1_meetByRemainders_2 : decode cX1_meetByRemainders 2 = .ok (.invokestatic 11, 3) := by decide +kernel
theorem dX1_meetByRemainders_5 : decode cX1_meetByRemainders 5 = .ok (.istore 4, 2) := by decide +kernel
theorem dX1_meetByRemainders_7 : decode cX1_meetByRemainders 7 = .ok (.iload_n 1, 1) := by decide +kernel
theorem dX1_meetByRemainders_8 : decode cX1_meetByRemainders 8 = .ok (.iload_n 3, 1) := by decide +kernel
theorem dX1_meetByRemainders_9 : decode cX1_meetByRemainders 9 = .ok (.isub, 1) := by decide +kernel
theorem dX1_meetByRemainders_10 : decode cX1_meetByRemainders 10 = .ok (.iload 4, 2) := by decide +kernel
theorem dX1_meetByRemainders_12 : decode cX1_meetByRemainders 12 = .ok (.invokestatic 15, 3) := by decide +kernel
theorem dX1_meetByRemainders_15 : decode cX1_meetByRemainders 15 = .ok (.ifCond .eq 5, 3) := by decide +kernel
theorem dX1_meetByRemainders_18 : decode cX1_meetByRemainders 18 = .ok (.iconst (-1), 1) := by decide +kernel
theorem dX1_meetByRemainders_19 : decode cX1_meetByRemainders 19 = .ok (.ireturn, 1) := by decide +kernel
theorem dX1_meetByRemainders_20 : decode cX1_meetByRemainders 20 = .ok (.iload_n 1, 1) := by decide +kernel
theorem dX1_meetByRemainders_21 : decode cX1_meetByRemainders 21 = .ok (.istore 5, 2) := by decide +kernel
theorem dX1_meetByRemainders_23 : decode cX1_meetByRemainders 23 = .ok (.iconst 0, 1) := by decide +kernel
theorem dX1_meetByRemainders_24 : decode cX1_meetByRemainders 24 = .ok (.istore 6, 2) := by decide +kernel
theorem dX1_meetByRemainders_26 : decode cX1_meetByRemainders 26 = .ok (.iload 6, 2) := by decide +kernel
theorem dX1_meetByRemainders_28 : decode cX1_meetByRemainders 28 = .ok (.iload_n 2, 1) := by decide +kernel
theorem dX1_meetByRemainders_29 : decode cX1_meetByRemainders 29 = .ok (.if_icmp .ge 34, 3) := by decide +kernel
theorem dX1_meetByRemainders_32 : decode cX1_meetByRemainders 32 = .ok (.iload 5, 2) := by decide +kernel
theorem dX1_meetByRemainders_34 : decode cX1_meetByRemainders 34 = .ok (.iload_n 3, 1) := by decide +kernel
theorem dX1_meetByRemainders_35 : decode cX1_meetByRemainders 35 = .ok (.if_icmp .lt 16, 3) := by decide +kernel
theorem dX1_meetByRemainders_38 : decode cX1_meetByRemainders 38 = .ok (.iload 5, 2) := by decide +kernel
theorem dX1_meetByRemainders_40 : decode cX1_meetByRemainders 40 = .ok (.iload_n 2, 1) := by decide +kernel
theorem dX1_meetByRemainders_41 : decode cX1_meetByRemainders 41 = .ok (.invokestatic 15, 3) := by decide +kernel
theorem dX1_meetByRemainders_44 : decode cX1_meetByRemainders 44 = .ok (.iload_n 3, 1) := by decide +kernel
theorem dX1_meetByRemainders_45 : decode cX1_meetByRemainders 45 = .ok (.if_icmp .ne 6, 3) := by decide +kernel
theorem dX1_meetByRemainders_48 : decode cX1_meetByRemainders 48 = .ok (.iload 5, 2) := by decide +kernel
theorem dX1_meetByRemainders_50 : decode cX1_meetByRemainders 50 = .ok (.ireturn, 1) := by decide +kernel
theorem dX1_meetByRemainders_51 : decode cX1_meetByRemainders 51 = .ok (.iload 5, 2) := by decide +kernel
theorem dX1_meetByRemainders_53 : decode cX1_meetByRemainders 53 = .ok (.iload_n 0, 1) := by decide +kernel
theorem dX1_meetByRemainders_54 : decode cX1_meetByRemainders 54 = .ok (.iadd, 1) := by decide +kernel
theorem dX1_meetByRemainders_55 : decode cX1_meetByRemainders 55 = .ok (.istore 5, 2) := by decide +kernel
theorem dX1_meetByRemainders_57 : decode cX1_meetByRemainders 57 = .ok (.iinc 6 1, 3) := by decide +kernel
theorem dX1_meetByRemainders_60 : decode cX1_meetByRemainders 60 = .ok (.goto (-34), 3) := by decide +kernel
theorem dX1_meetByRemainders_63 : decode cX1_meetByRemainders 63 = .ok (.iconst (-1), 1) := by decide +kernel
theorem dX1_meetByRemainders_64 : decode cX1_meetByRemainders 64 = .ok (.ireturn, 1) := by decide +kernel
theorem dX1_meetByWalking_0 : decode cX1_meetByWalking 0 = .ok (.iload_n 1, 1) := by decide +kernel
theorem dX1_meetByWalking_1 : decode cX1_meetByWalking 1 = .ok (.istore 4, 2) := by decide +kernel
theorem dX1_meetByWalking_3 : decode cX1_meetByWalking 3 = .ok (.iload_n 3, 1) := by decide +kernel
theorem dX1_meetByWalking_4 : decode cX1_meetByWalking 4 = .ok (.istore 5, 2) := by decide +kernel
theorem dX1_meetByWalking_6 : decode cX1_meetByWalking 6 = .ok (.iconst 0, 1) := by decide +kernel
theorem dX1_meetByWalking_7 : decode cX1_meetByWalking 7 = .ok (.istore 6, 2) := by decide +kernel
theorem dX1_meetByWalking_9 : decode cX1_meetByWalking 9 = .ok (.iload 6, 2) := by decide +kernel
theorem dX1_meetByWalking_11 : decode cX1_meetByWalking 11 = .ok (.sipush 800, 3) := by decide +kernel
theorem dX1_meetByWalking_14 : decode cX1_meetByWalking 14 = .ok (.if_icmp .ge 57, 3) := by decide +kernel
theorem dX1_meetByWalking_17 : decode cX1_meetByWalking 17 = .ok (.iload 4, 2) := by decide +kernel
theorem dX1_meetByWalking_19 : decode cX1_meetByWalking 19 = .ok (.sipush 800, 3) := by decide +kernel
theorem dX1_meetByWalking_22 : decode cX1_meetByWalking 22 = .ok (.if_icmp .ge 49, 3) := by decide +kernel
theorem dX1_meetByWalking_25 : decode cX1_meetByWalking 25 = .ok (.iload 5, 2) := by decide +kernel
theorem dX1_meetByWalking_27 : decode cX1_meetByWalking 27 = .ok (.sipush 800, 3) := by decide +kernel
theorem dX1_meetByWalking_30 : decode cX1_meetByWalking 30 = .ok (.if_icmp .ge 41, 3) := by decide +kernel
theorem dX1_meetByWalking_33 : decode cX1_meetByWalking 33 = .ok (.iload 4, 2) := by decide +kernel
theorem dX1_meetByWalking_35 : decode cX1_meetByWalking 35 = .ok (.iload 5, 2) := by decide +kernel
theorem dX1_meetByWalking_37 : decode cX1_meetByWalking 37 = .ok (.if_icmp .ne 6, 3) := by decide +kernel
theorem dX1_meetByWalking_40 : decode cX1_meetByWalking 40 = .ok (.iload 4, 2) := by decide +kernel
theorem dX1_meetByWalking_42 : decode cX1_meetByWalking 42 = .ok (.ireturn, 1) := by decide +kernel
theorem dX1_meetByWalking_43 : decode cX1_meetByWalking 43 = .ok (.iload 4, 2) := by decide +kernel
theorem dX1_meetByWalking_45 : decode cX1_meetByWalking 45 = .ok (.iload 5, 2) := by decide +kernel
theorem dX1_meetByWalking_47 : decode cX1_meetByWalking 47 = .ok (.if_icmp .ge 12, 3) := by decide +kernel
theorem dX1_meetByWalking_50 : decode cX1_meetByWalking 50 = .ok (.iload 4, 2) := by decide +kernel
theorem dX1_meetByWalking_52 : decode cX1_meetByWalking 52 = .ok (.iload_n 0, 1) := by decide +kernel
theorem dX1_meetByWalking_53 : decode cX1_meetByWalking 53 = .ok (.iadd, 1) := by decide +kernel
theorem dX1_meetByWalking_54 : decode cX1_meetByWalking 54 = .ok (.istore 4, 2) := by decide +kernel
theorem dX1_meetByWalking_56 : decode cX1_meetByWalking 56 = .ok (.goto 9, 3) := by decide +kernel
theorem dX1_meetByWalking_59 : decode cX1_meetByWalking 59 = .ok (.iload 5, 2) := by decide +kernel
theorem dX1_meetByWalking_61 : decode cX1_meetByWalking 61 = .ok (.iload_n 2, 1) := by decide +kernel
theorem dX1_meetByWalking_62 : decode cX1_meetByWalking 62 = .ok (.iadd, 1) := by decide +kernel
theorem dX1_meetByWalking_63 : decode cX1_meetByWalking 63 = .ok (.istore 5, 2) := by decide +kernel
theorem dX1_meetByWalking_65 : decode cX1_meetByWalking 65 = .ok (.iinc 6 1, 3) := by decide +kernel
theorem dX1_meetByWalking_68 : decode cX1_meetByWalking 68 = .ok (.goto (-59), 3) := by decide +kernel
theorem dX1_meetByWalking_71 : decode cX1_meetByWalking 71 = .ok (.iconst (-1), 1) := by decide +kernel
theorem dX1_meetByWalking_72 : decode cX1_meetByWalking 72 = .ok (.ireturn, 1) := by decide +kernel
theorem dX1_bitsOfShare_0 : decode cX1_bitsOfShare 0 = .ok (.dload_n 0, 1) := by decide +kernel
theorem dX1_bitsOfShare_1 : decode cX1_bitsOfShare 1 = .ok (.dstore_n 2, 1) := by decide +kernel
theorem dX1_bitsOfShare_2 : decode cX1_bitsOfShare 2 = .ok (.ldc2_w 18, 3) := by decide +kernel
theorem dX1_bitsOfShare_5 : decode cX1_bitsOfShare 5 = .ok (.lstore 4, 2) := by decide +kernel
theorem dX1_bitsOfShare_7 : decode cX1_bitsOfShare 7 = .ok (.iconst 0, 1) := by decide +kernel
theorem dX1_bitsOfShare_8 : decode cX1_bitsOfShare 8 = .ok (.istore 6, 2) := by decide +kernel
theorem dX1_bitsOfShare_10 : decode cX1_bitsOfShare 10 = .ok (.iload 6, 2) := by decide +kernel
theorem dX1_bitsOfShare_12 : decode cX1_bitsOfShare 12 = .ok (.bipush 64, 2) := by decide +kernel
theorem dX1_bitsOfShare_14 : decode cX1_bitsOfShare 14 = .ok (.if_icmp .ge 27, 3) := by decide +kernel
theorem dX1_bitsOfShare_17 : decode cX1_bitsOfShare 17 = .ok (.dload_n 2, 1) := by decide +kernel
theorem dX1_bitsOfShare_18 : decode cX1_bitsOfShare 18 = .ok (.dconst 1, 1) := by decide +kernel
theorem dX1_bitsOfShare_19 : decode cX1_bitsOfShare 19 = .ok (.dcmp .g, 1) := by decide +kernel
theorem dX1_bitsOfShare_20 : decode cX1_bitsOfShare 20 = .ok (.ifCond .ge 21, 3) := by decide +kernel
theorem dX1_bitsOfShare_23 : decode cX1_bitsOfShare 23 = .ok (.dload_n 2, 1) := by decide +kernel
theorem dX1_bitsOfShare_24 : decode cX1_bitsOfShare 24 = .ok (.ldc2_w 20, 3) := by decide +kernel
theorem dX1_bitsOfShare_27 : decode cX1_bitsOfShare 27 = .ok (.dmul, 1) := by decide +kernel
theorem dX1_bitsOfShare_28 : decode cX1_bitsOfShare 28 = .ok (.dstore_n 2, 1) := by decide +kernel
theorem dX1_bitsOfShare_29 : decode cX1_bitsOfShare 29 = .ok (.lload 4, 2) := by decide +kernel
theorem dX1_bitsOfShare_31 : decode cX1_bitsOfShare 31 = .ok (.lconst 1, 1) := by decide +kernel
theorem dX1_bitsOfShare_32 : decode cX1_bitsOfShare 32 = .ok (.lsub, 1) := by decide +kernel
theorem dX1_bitsOfShare_33 : decode cX1_bitsOfShare 33 = .ok (.lstore 4, 2) := by decide +kernel
theorem dX1_bitsOfShare_35 : decode cX1_bitsOfShare 35 = .ok (.iinc 6 1, 3) := by decide +kernel
theorem dX1_bitsOfShare_38 : decode cX1_bitsOfShare 38 = .ok (.goto (-28), 3) := by decide +kernel
theorem dX1_bitsOfShare_41 : decode cX1_bitsOfShare 41 = .ok (.dload_n 2, 1) := by decide +kernel
theorem dX1_bitsOfShare_42 : decode cX1_bitsOfShare 42 = .ok (.dconst 1, 1) := by decide +kernel
theorem dX1_bitsOfShare_43 : decode cX1_bitsOfShare 43 = .ok (.dcmp .g, 1) := by decide +kernel
theorem dX1_bitsOfShare_44 : decode cX1_bitsOfShare 44 = .ok (.ifCond .ge 5, 3) := by decide +kernel
theorem dX1_bitsOfShare_47 : decode cX1_bitsOfShare 47 = .ok (.lconst 0, 1) := by decide +kernel
theorem dX1_bitsOfShare_48 : decode cX1_bitsOfShare 48 = .ok (.lreturn, 1) := by decide +kernel
theorem dX1_bitsOfShare_49 : decode cX1_bitsOfShare 49 = .ok (.dload_n 2, 1) := by decide +kernel
theorem dX1_bitsOfShare_50 : decode cX1_bitsOfShare 50 = .ok (.dconst 1, 1) := by decide +kernel
theorem dX1_bitsOfShare_51 : decode cX1_bitsOfShare 51 = .ok (.dsub, 1) := by decide +kernel
theorem dX1_bitsOfShare_52 : decode cX1_bitsOfShare 52 = .ok (.ldc2_w 22, 3) := by decide +kernel
theorem dX1_bitsOfShare_55 : decode cX1_bitsOfShare 55 = .ok (.dmul, 1) := by decide +kernel
theorem dX1_bitsOfShare_56 : decode cX1_bitsOfShare 56 = .ok (.d2l, 1) := by decide +kernel
theorem dX1_bitsOfShare_57 : decode cX1_bitsOfShare 57 = .ok (.lstore 6, 2) := by decide +kernel
theorem dX1_bitsOfShare_59 : decode cX1_bitsOfShare 59 = .ok (.lload 4, 2) := by decide +kernel
theorem dX1_bitsOfShare_61 : decode cX1_bitsOfShare 61 = .ok (.bipush 52, 2) := by decide +kernel
theorem dX1_bitsOfShare_63 : decode cX1_bitsOfShare 63 = .ok (.lshl, 1) := by decide +kernel
theorem dX1_bitsOfShare_64 : decode cX1_bitsOfShare 64 = .ok (.lload 6, 2) := by decide +kernel
theorem dX1_bitsOfShare_66 : decode cX1_bitsOfShare 66 = .ok (.ladd, 1) := by decide +kernel
theorem dX1_bitsOfShare_67 : decode cX1_bitsOfShare 67 = .ok (.lreturn, 1) := by decide +kernel
theorem dX2_init_0 : decode cX2_init 0 = .ok (.aload_n 0, 1) := by decide +kernel
theorem dX2_init_1 : decode cX2_init 1 = .ok (.invokespecial 3, 3) := by decide +kernel
theorem dX2_init_4 : decode cX2_init 4 = .ok (.aload_n 0, 1) := by decide +kernel
theorem dX2_init_5 : decode cX2_init 5 = .ok (.bipush 60, 2) := by decide +kernel
theorem dX2_init_7 : decode cX2_init 7 = .ok (.newarray .int, 2) := by decide +kernel
theorem dX2_init_9 : decode cX2_init 9 = .ok (.putfield 9, 3) := by decide +kernel
theorem dX2_init_12 : decode cX2_init 12 = .ok (.aload_n 0, 1) := by decide +kernel
theorem dX2_init_13 : decode cX2_init 13 = .ok (.bipush 8, 2) := by decide +kernel
theorem dX2_init_15 : decode cX2_init 15 = .ok (.newarray .int, 2) := by decide +kernel
theorem dX2_init_17 : decode cX2_init 17 = .ok (.putfield 15, 3) := by decide +kernel
theorem dX2_init_20 : decode cX2_init 20 = .ok (.aload_n 0, 1) := by decide +kernel
theorem dX2_init_21 : decode cX2_init 21 = .ok (.iconst 0, 1) := by decide +kernel
theorem dX2_init_22 : decode cX2_init 22 = .ok (.putfield 18, 3) := by decide +kernel
theorem dX2_init_25 : decode cX2_init 25 = .ok (.aload_n 0, 1) := by decide +kernel
theorem dX2_init_26 : decode cX2_init 26 = .ok (.iconst 0, 1) := by decide +kernel
theorem dX2_init_27 : decode cX2_init 27 = .ok (.putfield 22, 3) := by decide +kernel
theorem dX2_init_30 : decode cX2_init 30 = .ok (.return_, 1) := by decide +kernel
theorem dX2_length_0 : decode cX2_length 0 = .ok (.aload_n 0, 1) := by decide +kernel
theorem dX2_length_1 : decode cX2_length 1 = .ok (.getfield 18, 3) := by decide +kernel
theorem dX2_length_4 : decode cX2_length 4 = .ok (.ireturn, 1) := by decide +kernel
theorem dX2_hueCount_0 : decode cX2_hueCount 0 = .ok (.aload_n 0, 1) := by decide +kernel
theorem dX2_hueCount_1 : decode cX2_hueCount 1 = .ok (.getfield 22, 3) := by decide +kernel
theorem dX2_hueCount_4 : decode cX2_hueCount 4 = .ok (.ireturn, 1) := by decide +kernel
theorem dX2_begin_0 : decode cX2_begin 0 = .ok (.aload_n 0, 1) := by decide +kernel
theorem dX2_begin_1 : decode cX2_begin 1 = .ok (.iconst 0, 1) := by decide +kernel
theorem dX2_begin_2 : decode cX2_begin 2 = .ok (.iload_n 1, 1) := by decide +kernel
theorem dX2_begin_3 : decode cX2_begin 3 = .ok (.aload_n 0, 1) := by decide +kernel
theorem dX2_begin_4 : decode cX2_begin 4 = .ok (.getfield 9, 3) := by decide +kernel
theorem dX2_begin_7 : decode cX2_begin 7 = .ok (.arraylength, 1) := by decide +kernel
theorem dX2_begin_8 : decode cX2_begin 8 = .ok (.invokestatic 25, 3) := by decide +kernel
theorem dX2_begin_11 : decode cX2_begin 11 = .ok (.invokestatic 31, 3) := by decide +kernel
theorem dX2_begin_14 : decode cX2_begin 14 = .ok (.putfield 18, 3) := by decide +kernel
theorem dX2_begin_17 : decode cX2_begin 17 = .ok (.aload_n 0, 1) := by decide +kernel
theorem dX2_begin_18 : decode cX2_begin 18 = .ok (.iconst 0, 1) := by decide +kernel
theorem dX2_begin_19 : decode cX2_begin 19 = .ok (.putfield 22, 3) := by decide +kernel
theorem dX2_begin_22 : decode cX2_begin 22 = .ok (.iconst 0, 1) := by decide +kernel
theorem dX2_begin_23 : decode cX2_begin 23 = .ok (.istore_n 2, 1) := by decide +kernel
theorem dX2_begin_24 : decode cX2_begin 24 = .ok (.iload_n 2, 1) := by decide +kernel
theorem dX2_begin_25 : decode cX2_begin 25 = .ok (.aload_n 0, 1) := by decide +kernel
theorem dX2_begin_26 : decode cX2_begin 26 = .ok (.getfield 9, 3) := by decide +kernel
theorem dX2_begin_29 : decode cX2_begin 29 = .ok (.arraylength, 1) := by decide +kernel
theorem dX2_begin_30 : decode cX2_begin 30 = .ok (.if_icmp .ge 16, 3) := by decide +kernel
theorem dX2_begin_33 : decode cX2_begin 33 = .ok (.aload_n 0, 1) := by decide +kernel
theorem dX2_begin_34 : decode cX2_begin 34 = .ok (.getfield 9, 3) := by decide +kernel
theorem dX2_begin_37 : decode cX2_begin 37 = .ok (.iload_n 2, 1) := by decide +kernel
theorem dX2_begin_38 : decode cX2_begin 38 = .ok (.iconst (-1), 1) := by decide +kernel
theorem dX2_begin_39 : decode cX2_begin 39 = .ok (.iastore, 1) := by decide +kernel
theorem dX2_begin_40 : decode cX2_begin 40 = .ok (.iinc 2 1, 3) := by decide +kernel
theorem dX2_begin_43 : decode cX2_begin 43 = .ok (.goto (-19), 3) := by decide +kernel
theorem dX2_begin_46 : decode cX2_begin 46 = .ok (.return_, 1) := by decide +kernel
theorem dX2_copyFrom_0 : decode cX2_copyFrom 0 = .ok (.aload_n 0, 1) := by decide +kernel
theorem dX2_copyFrom_1 : decode cX2_copyFrom 1 = .ok (.aload_n 1, 1) := by decide +kernel
theorem dX2_copyFrom_2 : decode cX2_copyFrom 2 = .ok (.getfield 18, 3) := by decide +kernel
theorem dX2_copyFrom_5 : decode cX2_copyFrom 5 = .ok (.putfield 18, 3) := by decide +kernel
theorem dX2_copyFrom_8 : decode cX2_copyFrom 8 = .ok (.aload_n 0, 1) := by decide +kernel
theorem dX2_copyFrom_9 : decode cX2_copyFrom 9 = .ok (.aload_n 1, 1) := by decide +kernel
theorem dX2_copyFrom_10 : decode cX2_copyFrom 10 = .ok (.getfield 22, 3) := by decide +kernel
theorem dX2_copyFrom_13 : decode cX2_copyFrom 13 = .ok (.putfield 22, 3) := by decide +kernel
theorem dX2_copyFrom_16 : decode cX2_copyFrom 16 = .ok (.iconst 0, 1) := by decide +kernel
theorem dX2_copyFrom_17 : decode cX2_copyFrom 17 = .ok (.istore_n 2, 1) := by decide +kernel
theorem dX2_copyFrom_18 : decode cX2_copyFrom 18 = .ok (.iload_n 2, 1) := by decide +kernel
theorem dX2_copyFrom_19 : decode cX2_copyFrom 19 = .ok (.aload_n 0, 1) := by decide +kernel
theorem dX2_copyFrom_20 : decode cX2_copyFrom 20 = .ok (.getfield 9, 3) := by decide +kernel
theorem dX2_copyFrom_23 : decode cX2_copyFrom 23 = .ok (.arraylength, 1) := by decide +kernel
theorem dX2_copyFrom_24 : decode cX2_copyFrom 24 = .ok (.if_icmp .ge 30, 3) := by decide +kernel
theorem dX2_copyFrom_27 : decode cX2_copyFrom 27 = .ok (.iload_n 2, 1) := by decide +kernel
theorem dX2_copyFrom_28 : decode cX2_copyFrom 28 = .ok (.aload_n 1, 1) := by decide +kernel
theorem dX2_copyFrom_29 : decode cX2_copyFrom 29 = .ok (.getfield 9, 3) := by decide +kernel
theorem dX2_copyFrom_32 : decode cX2_copyFrom 32 = .ok (.arraylength, 1) := by decide +kernel
theorem dX2_copyFrom_33 : decode cX2_copyFrom 33 = .ok (.if_icmp .ge 21, 3) := by decide +kernel
theorem dX2_copyFrom_36 : decode cX2_copyFrom 36 = .ok (.aload_n 0, 1) := by decide +kernel
theorem dX2_copyFrom_37 : decode cX2_copyFrom 37 = .ok (.getfield 9, 3) := by decide +kernel
theorem dX2_copyFrom_40 : decode cX2_copyFrom 40 = .ok (.iload_n 2, 1) := by decide +kernel
theorem dX2_copyFrom_41 : decode cX2_copyFrom 41 = .ok (.aload_n 1, 1) := by decide +kernel
theorem dX2_copyFrom_42 : decode cX2_copyFrom 42 = .ok (.getfield 9, 3) := by decide +kernel
theorem dX2_copyFrom_45 : decode cX2_copyFrom 45 = .ok (.iload_n 2, 1) := by decide +kernel
theorem dX2_copyFrom_46 : decode cX2_copyFrom 46 = .ok (.iaload, 1) := by decide +kernel
theorem dX2_copyFrom_47 : decode cX2_copyFrom 47 = .ok (.iastore, 1) := by decide +kernel
theorem dX2_copyFrom_48 : decode cX2_copyFrom 48 = .ok (.iinc 2 1, 3) := by decide +kernel
theorem dX2_copyFrom_51 : decode cX2_copyFrom 51 = .ok (.goto (-33), 3) := by decide +kernel
theorem dX2_copyFrom_54 : decode cX2_copyFrom 54 = .ok (.iconst 0, 1) := by decide +kernel
theorem dX2_copyFrom_55 : decode cX2_copyFrom 55 = .ok (.istore_n 2, 1) := by decide +kernel
theorem dX2_copyFrom_56 : decode cX2_copyFrom 56 = .ok (.iload_n 2, 1) := by decide +kernel
theorem dX2_copyFrom_57 : decode cX2_copyFrom 57 = .ok (.aload_n 0, 1) := by decide +kernel
theorem dX2_copyFrom_58 : decode cX2_copyFrom 58 = .ok (.getfield 15, 3) := by decide +kernel
theorem dX2_copyFrom_61 : decode cX2_copyFrom 61 = .ok (.arraylength, 1) := by decide +kernel
theorem dX2_copyFrom_62 : decode cX2_copyFrom 62 = .ok (.if_icmp .ge 30, 3) := by decide +kernel
theorem dX2_copyFrom_65 : decode cX2_copyFrom 65 = .ok (.iload_n 2, 1) := by decide +kernel
theorem dX2_copyFrom_66 : decode cX2_copyFrom 66 = .ok (.aload_n 1, 1) := by decide +kernel
theorem dX2_copyFrom_67 : decode cX2_copyFrom 67 = .ok (.getfield 15, 3) := by decide +kernel
theorem dX2_copyFrom_70 : decode cX2_copyFrom 70 = .ok (.arraylength, 1) := by decide +kernel
theorem dX2_copyFrom_71 : decode cX2_copyFrom 71 = .ok (.if_icmp .ge 21, 3) := by decide +kernel
theorem dX2_copyFrom_74 : decode cX2_copyFrom 74 = .ok (.aload_n 0, 1) := by decide +kernel
theorem dX2_copyFrom_75 : decode cX2_copyFrom 75 = .ok (.getfield 15, 3) := by decide +kernel
theorem dX2_copyFrom_78 : decode cX2_copyFrom 78 = .ok (.iload_n 2, 1) := by decide +kernel
theorem dX2_copyFrom_79 : decode cX2_copyFrom 79 = .ok (.aload_n 1, 1) := by decide +kernel
theorem dX2_copyFrom_80 : decode cX2_copyFrom 80 = .ok (.getfield 15, 3) := by decide +kernel
theorem dX2_copyFrom_83 : decode cX2_copyFrom 83 = .ok (.iload_n 2, 1) := by decide +kernel
theorem dX2_copyFrom_84 : decode cX2_copyFrom 84 = .ok (.iaload, 1) := by decide +kernel
theorem dX2_copyFrom_85 : decode cX2_copyFrom 85 = .ok (.iastore, 1) := by decide +kernel
theorem dX2_copyFrom_86 : decode cX2_copyFrom 86 = .ok (.iinc 2 1, 3) := by decide +kernel
theorem dX2_copyFrom_89 : decode cX2_copyFrom 89 = .ok (.goto (-33), 3) := by decide +kernel
theorem dX2_copyFrom_92 : decode cX2_copyFrom 92 = .ok (.return_, 1) := by decide +kernel
theorem dX2_colourAt_0 : decode cX2_colourAt 0 = .ok (.iload_n 1, 1) := by decide +kernel
theorem dX2_colourAt_1 : decode cX2_colourAt 1 = .ok (.ifCond .lt 29, 3) := by decide +kernel
theorem dX2_colourAt_4 : decode cX2_colourAt 4 = .ok (.iload_n 1, 1) := by decide +kernel
theorem dX2_colourAt_5 : decode cX2_colourAt 5 = .ok (.aload_n 0, 1) := by decide +kernel
theorem dX2_colourAt_6 : decode cX2_colourAt 6 = .ok (.getfield 18, 3) := by decide +kernel
theorem dX2_colourAt_9 : decode cX2_colourAt 9 = .ok (.if_icmp .ge 21, 3) := by decide +kernel
theorem dX2_colourAt_12 : decode cX2_colourAt 12 = .ok (.iload_n 1, 1) := by decide +kernel
theorem dX2_colourAt_13 : decode cX2_colourAt 13 = .ok (.aload_n 0, 1) := by decide +kernel
theorem dX2_colourAt_14 : decode cX2_colourAt 14 = .ok (.getfield 9, 3) := by decide +kernel
theorem dX2_colourAt_17 : decode cX2_colourAt 17 = .ok (.arraylength, 1) := by decide +kernel
theorem dX2_colourAt_18 : decode cX2_colourAt 18 = .ok (.if_icmp .ge 12, 3) := by decide +kernel
theorem dX2_colourAt_21 : decode cX2_colourAt 21 = .ok (.aload_n 0, 1) := by decide +kernel
theorem dX2_colourAt_22 : decode cX2_colourAt 22 = .ok (.getfield 9, 3) := by decide +kernel
theorem dX2_colourAt_25 : decode cX2_colourAt 25 = .ok (.iload_n 1, 1) := by decide +kernel
theorem dX2_colourAt_26 : decode cX2_colourAt 26 = .ok (.iaload, 1) := by decide +kernel
theorem dX2_colourAt_27 : decode cX2_colourAt 27 = .ok (.goto 4, 3) := by decide +kernel
theorem dX2_colourAt_30 : decode cX2_colourAt 30 = .ok (.iconst (-1), 1) := by decide +kernel
theorem dX2_colourAt_31 : decode cX2_colourAt 31 = .ok (.ireturn, 1) := by decide +kernel
theorem dX2_setColour_0 : decode cX2_setColour 0 = .ok (.iload_n 1, 1) := by decide +kernel
theorem dX2_setColour_1 : decode cX2_setColour 1 = .ok (.ifCond .lt 19, 3) := by decide +kernel
theorem dX2_setColour_4 : decode cX2_setColour 4 = .ok (.iload_n 1, 1) := by decide +kernel
theorem dX2_setColour_5 : decode cX2_setColour 5 = .ok (.aload_n 0, 1) := by decide +kernel
theorem dX2_setColour_6 : decode cX2_setColour 6 = .ok (.getfield 9, 3) := by decide +kernel
theorem dX2_setColour_9 : decode cX2_setColour 9 = .ok (.arraylength, 1) := by decide +kernel
theorem dX2_setColour_10 : decode cX2_setColour 10 = .ok (.if_icmp .ge 10, 3) := by decide +kernel
theorem dX2_setColour_13 : decode cX2_setColour 13 = .ok (.aload_n 0, 1) := by decide +kernel
theorem dX2_setColour_14 : decode cX2_setColour 14 = .ok (.getfield 9, 3) := by decide +kernel
theorem dX2_setColour_17 : decode cX2_setColour 17 = .ok (.iload_n 1, 1) := by decide +kernel
theorem dX2_setColour_18 : decode cX2_setColour 18 = .ok (.iload_n 2, 1) := by decide +kernel
theorem dX2_setColour_19 : decode cX2_setColour 19 = .ok (.iastore, 1) := by decide +kernel
theorem dX2_setColour_20 : decode cX2_setColour 20 = .ok (.return_, 1) := by decide +kernel
theorem dX2_hueAt_0 : decode cX2_hueAt 0 = .ok (.iload_n 1, 1) := by decide +kernel
theorem dX2_hueAt_1 : decode cX2_hueAt 1 = .ok (.ifCond .lt 29, 3) := by decide +kernel
theorem dX2_hueAt_4 : decode cX2_hueAt 4 = .ok (.iload_n 1, 1) := by decide +kernel
theorem dX2_hueAt_5 : decode cX2_hueAt 5 = .ok (.aload_n 0, 1) := by decide +kernel
theorem dX2_hueAt_6 : decode cX2_hueAt 6 = .ok (.getfield 22, 3) := by decide +kernel
theorem dX2_hueAt_9 : decode cX2_hueAt 9 = .ok (.if_icmp .ge 21, 3) := by decide +kernel
theorem dX2_hueAt_12 : decode cX2_hueAt 12 = .ok (.iload_n 1, 1) := by decide +kernel
theorem dX2_hueAt_13 : decode cX2_hueAt 13 = .ok (.aload_n 0, 1) := by decide +kernel
theorem dX2_hueAt_14 : decode cX2_hueAt 14 = .ok (.getfield 15, 3) := by decide +kernel
theorem dX2_hueAt_17 : decode cX2_hueAt 17 = .ok (.arraylength, 1) := by decide +kernel
theorem dX2_hueAt_18 : decode cX2_hueAt 18 = .ok (.if_icmp .ge 12, 3) := by decide +kernel
theorem dX2_hueAt_21 : decode cX2_hueAt 21 = .ok (.aload_n 0, 1) := by decide +kernel
theorem dX2_hueAt_22 : decode cX2_hueAt 22 = .ok (.getfield 15, 3) := by decide +kernel
theorem dX2_hueAt_25 : decode cX2_hueAt 25 = .ok (.iload_n 1, 1) := by decide +kernel
theorem dX2_hueAt_26 : decode cX2_hueAt 26 = .ok (.iaload, 1) := by decide +kernel
theorem dX2_hueAt_27 : decode cX2_hueAt 27 = .ok (.goto 4, 3) := by decide +kernel
theorem dX2_hueAt_30 : decode cX2_hueAt 30 = .ok (.iconst (-1), 1) := by decide +kernel
theorem dX2_hueAt_31 : decode cX2_hueAt 31 = .ok (.ireturn, 1) := by decide +kernel
theorem dX2_orderOf_0 : decode cX2_orderOf 0 = .ok (.iconst 0, 1) := by decide +kernel
theorem dX2_orderOf_1 : decode cX2_orderOf 1 = .ok (.istore_n 2, 1) := by decide +kernel
theorem dX2_orderOf_2 : decode cX2_orderOf 2 = .ok (.iload_n 2, 1) := by decide +kernel
theorem dX2_orderOf_3 : decode cX2_orderOf 3 = .ok (.aload_n 0, 1) := by decide +kernel
theorem dX2_orderOf_4 : decode cX2_orderOf 4 = .ok (.getfield 22, 3) := by decide +kernel
theorem dX2_orderOf_7 : decode cX2_orderOf 7 = .ok (.if_icmp .ge 30, 3) := by decide +kernel
theorem dX2_orderOf_10 : decode cX2_orderOf 10 = .ok (.iload_n 2, 1) := by decide +kernel
theorem dX2_orderOf_11 : decode cX2_orderOf 11 = .ok (.aload_n 0, 1) := by decide +kernel
theorem dX2_orderOf_12 : decode cX2_orderOf 12 = .ok (.getfield 15, 3) := by decide +kernel
theorem dX2_orderOf_15 : decode cX2_orderOf 15 = .ok (.arraylength, 1) := by decide +kernel
theorem dX2_orderOf_16 : decode cX2_orderOf 16 = .ok (.if_icmp .ge 21, 3) := by decide +kernel
theorem dX2_orderOf_19 : decode cX2_orderOf 19 = .ok (.aload_n 0, 1) := by decide +kernel
theorem dX2_orderOf_20 : decode cX2_orderOf 20 = .ok (.getfield 15, 3) := by decide +kernel
theorem dX2_orderOf_23 : decode cX2_orderOf 23 = .ok (.iload_n 2, 1) := by decide +kernel
theorem dX2_orderOf_24 : decode cX2_orderOf 24 = .ok (.iaload, 1) := by decide +kernel
theorem dX2_orderOf_25 : decode cX2_orderOf 25 = .ok (.iload_n 1, 1) := by decide +kernel
theorem dX2_orderOf_26 : decode cX2_orderOf 26 = .ok (.if_icmp .ne 5, 3) := by decide +kernel
theorem dX2_orderOf_29 : decode cX2_orderOf 29 = .ok (.iload_n 2, 1) := by decide +kernel
theorem dX2_orderOf_30 : decode cX2_orderOf 30 = .ok (.ireturn, 1) := by decide +kernel
theorem dX2_orderOf_31 : decode cX2_orderOf 31 = .ok (.iinc 2 1, 3) := by decide +kernel
theorem dX2_orderOf_34 : decode cX2_orderOf 34 = .ok (.goto (-32), 3) := by decide +kernel
theorem dX2_orderOf_37 : decode cX2_orderOf 37 = .ok (.iconst (-1), 1) := by decide +kernel
theorem dX2_orderOf_38 : decode cX2_orderOf 38 = .ok (.ireturn, 1) := by decide +kernel
theorem dX2_firstFrom_0 : decode cX2_firstFrom 0 = .ok (.iload_n 2, 1) := by decide +kernel
theorem dX2_firstFrom_1 : decode cX2_firstFrom 1 = .ok (.istore_n 3, 1) := by decide +kernel
theorem dX2_firstFrom_2 : decode cX2_firstFrom 2 = .ok (.iload_n 3, 1) := by decide +kernel
theorem dX2_firstFrom_3 : decode cX2_firstFrom 3 = .ok (.aload_n 0, 1) := by decide +kernel
theorem dX2_firstFrom_4 : decode cX2_firstFrom 4 = .ok (.getfield 18, 3) := by decide +kernel
theorem dX2_firstFrom_7 : decode cX2_firstFrom 7 = .ok (.if_icmp .ge 20, 3) := by decide +kernel
theorem dX2_firstFrom_10 : decode cX2_firstFrom 10 = .ok (.aload_n 0, 1) := by decide +kernel
theorem dX2_firstFrom_11 : decode cX2_firstFrom 11 = .ok (.iload_n 3, 1) := by decide +kernel
theorem dX2_firstFrom_12 : decode cX2_firstFrom 12 = .ok (.invokevirtual 34, 3) := by decide +kernel
theorem dX2_firstFrom_15 : decode cX2_firstFrom 15 = .ok (.iload_n 1, 1) := by decide +kernel
theorem dX2_firstFrom_16 : decode cX2_firstFrom 16 = .ok (.if_icmp .ne 5, 3) := by decide +kernel
theorem dX2_firstFrom_19 : decode cX2_firstFrom 19 = .ok (.iload_n 3, 1) := by decide +kernel
theorem dX2_firstFrom_20 : decode cX2_firstFrom 20 = .ok (.ireturn, 1) := by decide +kernel
theorem dX2_firstFrom_21 : decode cX2_firstFrom 21 = .ok (.iinc 3 1, 3) := by decide +kernel
theorem dX2_firstFrom_24 : decode cX2_firstFrom 24 = .ok (.goto (-22), 3) := by decide +kernel
theorem dX2_firstFrom_27 : decode cX2_firstFrom 27 = .ok (.iconst (-1), 1) := by decide +kernel
theorem dX2_firstFrom_28 : decode cX2_firstFrom 28 = .ok (.ireturn, 1) := by decide +kernel
theorem dX2_lastOf_0 : decode cX2_lastOf 0 = .ok (.aload_n 0, 1) := by decide +kernel
theorem dX2_lastOf_1 : decode cX2_lastOf 1 = .ok (.getfield 18, 3) := by decide +kernel
theorem dX2_lastOf_4 : decode cX2_lastOf 4 = .ok (.iconst 1, 1) := by decide +kernel
theorem dX2_lastOf_5 : decode cX2_lastOf 5 = .ok (.isub, 1) := by decide +kernel
theorem dX2_lastOf_6 : decode cX2_lastOf 6 = .ok (.istore_n 2, 1) := by decide +kernel
theorem dX2_lastOf_7 : decode cX2_lastOf 7 = .ok (.iload_n 2, 1) := by decide +kernel
theorem dX2_lastOf_8 : decode cX2_lastOf 8 = .ok (.ifCond .lt 20, 3) := by decide +kernel
theorem dX2_lastOf_11 : decode cX2_lastOf 11 = .ok (.aload_n 0, 1) := by decide +kernel
theorem dX2_lastOf_12 : decode cX2_lastOf 12 = .ok (.iload_n 2, 1) := by decide +kernel
theorem dX2_lastOf_13 : decode cX2_lastOf 13 = .ok (.invokevirtual 34, 3) := by decide +kernel
theorem dX2_lastOf_16 : decode cX2_lastOf 16 = .ok (.iload_n 1, 1) := by decide +kernel
theorem dX2_lastOf_17 : decode cX2_lastOf 17 = .ok (.if_icmp .ne 5, 3) := by decide +kernel
theorem dX2_lastOf_20 : decode cX2_lastOf 20 = .ok (.iload_n 2, 1) := by decide +kernel
theorem dX2_lastOf_21 : decode cX2_lastOf 21 = .ok (.ireturn, 1) := by decide +kernel
theorem dX2_lastOf_22 : decode cX2_lastOf 22 = .ok (.iinc 2 (-1), 3) := by decide +kernel
theorem dX2_lastOf_25 : decode cX2_lastOf 25 = .ok (.goto (-18), 3) := by decide +kernel
theorem dX2_lastOf_28 : decode cX2_lastOf 28 = .ok (.iconst (-1), 1) := by decide +kernel
theorem dX2_lastOf_29 : decode cX2_lastOf 29 = .ok (.ireturn, 1) := by decide +kernel
theorem dX2_placesOf_0 : decode cX2_placesOf 0 = .ok (.iconst 0, 1) := by decide +kernel
theorem dX2_placesOf_1 : decode cX2_placesOf 1 = .ok (.istore_n 2, 1) := by decide +kernel
theorem dX2_placesOf_2 : decode cX2_placesOf 2 = .ok (.iconst 0, 1) := by decide +kernel
theorem dX2_placesOf_3 : decode cX2_placesOf 3 = .ok (.istore_n 3, 1) := by decide +kernel
theorem dX2_placesOf_4 : decode cX2_placesOf 4 = .ok (.iload_n 3, 1) := by decide +kernel
theorem dX2_placesOf_5 : decode cX2_placesOf 5 = .ok (.aload_n 0, 1) := by decide +kernel
theorem dX2_placesOf_6 : decode cX2_placesOf 6 = .ok (.getfield 18, 3) := by decide +kernel
theorem dX2_placesOf_9 : decode cX2_placesOf 9 = .ok (.if_icmp .ge 21, 3) := by decide +kernel
theorem dX2_placesOf_12 : decode cX2_placesOf 12 = .ok (.aload_n 0, 1) := by decide +kernel
theorem dX2_placesOf_13 : decode cX2_placesOf 13 = .ok (.iload_n 3, 1) := by decide +kernel
theorem dX2_placesOf_14 : decode cX2_placesOf 14 = .ok (.invokevirtual 34, 3) := by decide +kernel
theorem dX2_placesOf_17 : decode cX2_placesOf 17 = .ok (.iload_n 1, 1) := by decide +kernel
theorem dX2_placesOf_18 : decode cX2_placesOf 18 = .ok (.if_icmp .ne 6, 3) := by decide +kernel
theorem dX2_placesOf_21 : decode cX2_placesOf 21 = .ok (.iinc 2 1, 3) := by decide +kernel
theorem dX2_placesOf_24 : decode cX2_placesOf 24 = .ok (.iinc 3 1, 3) := by decide +kernel
theorem dX2_placesOf_27 : decode cX2_placesOf 27 = .ok (.goto (-23), 3) := by decide +kernel
theorem dX2_placesOf_30 : decode cX2_placesOf 30 = .ok (.iload_n 2, 1) := by decide +kernel
theorem dX2_placesOf_31 : decode cX2_placesOf 31 = .ok (.ireturn, 1) := by decide +kernel
theorem dX2_placesFrom_0 : decode cX2_placesFrom 0 = .ok (.iconst 0, 1) := by decide +kernel
theorem dX2_placesFrom_1 : decode cX2_placesFrom 1 = .ok (.istore_n 3, 1) := by decide +kernel
theorem dX2_placesFrom_2 : decode cX2_placesFrom 2 = .ok (.iconst 1, 1) := by decide +kernel
theorem dX2_placesFrom_3 : decode cX2_placesFrom 3 = .ok (.iload_n 2, 1) := by decide +kernel
theorem dX2_placesFrom_4 : decode cX2_placesFrom 4 = .ok (.invokestatic 31, 3) := by decide +kernel
theorem dX2_placesFrom_7 : decode cX2_placesFrom 7 = .ok (.istore 4, 2) := by decide +kernel
theorem dX2_placesFrom_9 : decode cX2_placesFrom 9 = .ok (.iload_n 1, 1) := by decide +kernel
theorem dX2_placesFrom_10 : decode cX2_placesFrom 10 = .ok (.istore 5, 2) := by decide +kernel
theorem dX2_placesFrom_12 : decode cX2_placesFrom 12 = .ok (.iload 5, 2) := by decide +kernel
theorem dX2_placesFrom_14 : decode cX2_placesFrom 14 = .ok (.aload_n 0, 1) := by decide +kernel
theorem dX2_placesFrom_15 : decode cX2_placesFrom 15 = .ok (.getfield 18, 3) := by decide +kernel
theorem dX2_placesFrom_18 : decode cX2_placesFrom 18 = .ok (.if_icmp .ge 16, 3) := by decide +kernel
theorem dX2_placesFrom_21 : decode cX2_placesFrom 21 = .ok (.iinc 3 1, 3) := by decide +kernel
theorem dX2_placesFrom_24 : decode cX2_placesFrom 24 = .ok (.iload 5, 2) := by decide +kernel
theorem dX2_placesFrom_26 : decode cX2_placesFrom 26 = .ok (.iload 4, 2) := by decide +kernel
theorem dX2_placesFrom_28 : decode cX2_placesFrom 28 = .ok (.iadd, 1) := by decide +kernel
theorem dX2_placesFrom_29 : decode cX2_placesFrom 29 = .ok (.istore 5, 2) := by decide +kernel
theorem dX2_placesFrom_31 : decode cX2_placesFrom 31 = .ok (.goto (-19), 3) := by decide +kernel
theorem dX2_placesFrom_34 : decode cX2_placesFrom 34 = .ok (.iload_n 3, 1) := by decide +kernel
theorem dX2_placesFrom_35 : decode cX2_placesFrom 35 = .ok (.ireturn, 1) := by decide +kernel
theorem dX2_reasonAgainst_0 : decode cX2_reasonAgainst 0 = .ok (.aload_n 0, 1) := by decide +kernel
theorem dX2_reasonAgainst_1 : decode cX2_reasonAgainst 1 = .ok (.iload_n 1, 1) := by decide +kernel
theorem dX2_reasonAgainst_2 : decode cX2_reasonAgainst 2 = .ok (.invokevirtual 38, 3) := by decide +kernel
theorem dX2_reasonAgainst_5 : decode cX2_reasonAgainst 5 = .ok (.iconst (-1), 1) := by decide +kernel
theorem dX2_reasonAgainst_6 : decode cX2_reasonAgainst 6 = .ok (.if_icmp .eq 5, 3) := by decide +kernel
theorem dX2_reasonAgainst_9 : decode cX2_reasonAgainst 9 = .ok (.iconst 1, 1) := by decide +kernel
theorem dX2_reasonAgainst_10 : decode cX2_reasonAgainst 10 = .ok (.ireturn, 1) := by decide +kernel
theorem dX2_reasonAgainst_11 : decode cX2_reasonAgainst 11 = .ok (.iload_n 2, 1) := by decide +kernel
theorem dX2_reasonAgainst_12 : decode cX2_reasonAgainst 12 = .ok (.aload_n 0, 1) := by decide +kernel
theorem dX2_reasonAgainst_13 : decode cX2_reasonAgainst 13 = .ok (.getfield 18, 3) := by decide +kernel
theorem dX2_reasonAgainst_16 : decode cX2_reasonAgainst 16 = .ok (.if_icmp .lt 5, 3) := by decide +kernel
theorem dX2_reasonAgainst_19 : decode cX2_reasonAgainst 19 = .ok (.iconst 2, 1) := by decide +kernel
theorem dX2_reasonAgainst_20 : decode cX2_reasonAgainst 20 = .ok (.ireturn, 1) := by decide +kernel
theorem dX2_reasonAgainst_21 : decode cX2_reasonAgainst 21 = .ok (.iconst 1, 1) := by decide +kernel
theorem dX2_reasonAgainst_22 : decode cX2_reasonAgainst 22 = .ok (.iload_n 3, 1) := by decide +kernel
theorem dX2_reasonAgainst_23 : decode cX2_reasonAgainst 23 = .ok (.invokestatic 31, 3) := by decide +kernel
theorem dX2_reasonAgainst_26 : decode cX2_reasonAgainst 26 = .ok (.istore 4, 2) := by decide +kernel
theorem dX2_reasonAgainst_28 : decode cX2_reasonAgainst 28 = .ok (.iload_n 2, 1) := by decide +kernel
theorem dX2_reasonAgainst_29 : decode cX2_reasonAgainst 29 = .ok (.istore 5, 2) := by decide +kernel
theorem dX2_reasonAgainst_31 : decode cX2_reasonAgainst 31 = .ok (.iload 5, 2) := by decide +kernel
theorem dX2_reasonAgainst_33 : decode cX2_reasonAgainst 33 = .ok (.aload_n 0, 1) := by decide +kernel
theorem dX2_reasonAgainst_34 : decode cX2_reasonAgainst 34 = .ok (.getfield 18, 3) := by decide +kernel
theorem dX2_reasonAgainst_37 : decode cX2_reasonAgainst 37 = .ok (.if_icmp .ge 25, 3) := by decide +kernel
theorem dX2_reasonAgainst_40 : decode cX2_reasonAgainst 40 = .ok (.aload_n 0, 1) := by decide +kernel
theorem dX2_reasonAgainst_41 : decode cX2_reasonAgainst 41 = .ok (.iload 5, 2) := by decide +kernel
theorem dX2_reasonAgainst_43 : decode cX2_reasonAgainst 43 = .ok (.invokevirtual 34, 3) := by decide +kernel
theorem dX2_reasonAgainst_46 : decode cX2_reasonAgainst 46 = .ok (.iconst (-1), 1) := by decide +kernel
theorem dX2_reasonAgainst_47 : decode cX2_reasonAgainst 47 = .ok (.if_icmp .eq 5, 3) := by decide +kernel
theorem dX2_reasonAgainst_50 : decode cX2_reasonAgainst 50 = .ok (.iconst 3, 1) := by decide +kernel
theorem dX2_reasonAgainst_51 : decode cX2_reasonAgainst 51 = .ok (.ireturn, 1) := by decide +kernel
theorem dX2_reasonAgainst_52 : decode cX2_reasonAgainst 52 = .ok (.iload 5, 2) := by decide +kernel
theorem dX2_reasonAgainst_54 : decode cX2_reasonAgainst 54 = .ok (.iload 4, 2) := by decide +kernel
theorem dX2_reasonAgainst_56 : decode cX2_reasonAgainst 56 = .ok (.iadd, 1) := by decide +kernel
theorem dX2_reasonAgainst_57 : decode cX2_reasonAgainst 57 = .ok (.istore 5, 2) := by decide +kernel
theorem dX2_reasonAgainst_59 : decode cX2_reasonAgainst 59 = .ok (.goto (-28), 3) := by decide +kernel
theorem dX2_reasonAgainst_62 : decode cX2_reasonAgainst 62 = .ok (.iconst 0, 1) := by decide +kernel
theorem dX2_reasonAgainst_63 : decode cX2_reasonAgainst 63 = .ok (.ireturn, 1) := by decide +kernel
theorem dX2_put_0 : decode cX2_put 0 = .ok (.iload_n 2, 1) := by decide +kernel
theorem dX2_put_1 : decode cX2_put 1 = .ok (.ifCond .lt 30, 3) := by decide +kernel
theorem dX2_put_4 : decode cX2_put 4 = .ok (.iload_n 2, 1) := by decide +kernel
theorem dX2_put_5 : decode cX2_put 5 = .ok (.aload_n 0, 1) := by decide +kernel
theorem dX2_put_6 : decode cX2_put 6 = .ok (.getfield 18, 3) := by decide +kernel
theorem dX2_put_9 : decode cX2_put 9 = .ok (.if_icmp .ge 22, 3) := by decide +kernel
theorem dX2_put_12 : decode cX2_put 12 = .ok (.aload_n 0, 1) := by decide +kernel
theorem dX2_put_13 : decode cX2_put 13 = .ok (.getfield 22, 3) := by decide +kernel
theorem dX2_put_16 : decode cX2_put 16 = .ok (.ifCond .lt 15, 3) := by decide +kernel
theorem dX2_put_19 : decode cX2_put 19 = .ok (.aload_n 0, 1) := by decide +kernel
theorem dX2_put_20 : decode cX2_put 20 = .ok (.getfield 22, 3) := by decide +kernel
theorem dX2_put_23 : decode cX2_put 23 = .ok (.aload_n 0, 1) := by decide +kernel
theorem dX2_put_24 : decode cX2_put 24 = .ok (.getfield 15, 3) := by decide +kernel
theorem dX2_put_27 : decode cX2_put 27 = .ok (.arraylength, 1) := by decide +kernel
theorem dX2_put_28 : decode cX2_put 28 = .ok (.if_icmp .lt 5, 3) := by decide +kernel
theorem dX2_put_31 : decode cX2_put 31 = .ok (.iconst 0, 1) := by decide +kernel
theorem dX2_put_32 : decode cX2_put 32 = .ok (.ireturn, 1) := by decide +kernel
theorem dX2_put_33 : decode cX2_put 33 = .ok (.aload_n 0, 1) := by decide +kernel
theorem dX2_put_34 : decode cX2_put 34 = .ok (.getfield 15, 3) := by decide +kernel
theorem dX2_put_37 : decode cX2_put 37 = .ok (.aload_n 0, 1) := by decide +kernel
theorem dX2_put_38 : decode cX2_put 38 = .ok (.getfield 22, 3) := by decide +kernel
theorem dX2_put_41 : decode cX2_put 41 = .ok (.iload_n 1, 1) := by decide +kernel
theorem dX2_put_42 : decode cX2_put 42 = .ok (.iastore, 1) := by decide +kernel
theorem dX2_put_43 : decode cX2_put 43 = .ok (.aload_n 0, 1) := by decide +kernel
theorem dX2_put_44 : decode cX2_put 44 = .ok (.dup, 1) := by decide +kernel
theorem dX2_put_45 : decode cX2_put 45 = .ok (.getfield 22, 3) := by decide +kernel
theorem dX2_put_48 : decode cX2_put 48 = .ok (.iconst 1, 1) := by decide +kernel
theorem dX2_put_49 : decode cX2_put 49 = .ok (.iadd, 1) := by decide +kernel
theorem dX2_put_50 : decode cX2_put 50 = .ok (.putfield 22, 3) := by decide +kernel
theorem dX2_put_53 : decode cX2_put 53 = .ok (.iconst 0, 1) := by decide +kernel
theorem dX2_put_54 : decode cX2_put 54 = .ok (.istore 4, 2) := by decide +kernel
theorem dX2_put_56 : decode cX2_put 56 = .ok (.iconst 1, 1) := by decide +kernel
theorem dX2_put_57 : decode cX2_put 57 = .ok (.iload_n 3, 1) := by decide +kernel
theorem dX2_put_58 : decode cX2_put 58 = .ok (.invokestatic 31, 3) := by decide +kernel
theorem dX2_put_61 : decode cX2_put 61 = .ok (.istore 5, 2) := by decide +kernel
theorem dX2_put_63 : decode cX2_put 63 = .ok (.iload_n 2, 1) := by decide +kernel
theorem dX2_put_64 : decode cX2_put 64 = .ok (.istore 6, 2) := by decide +kernel
theorem dX2_put_66 : decode cX2_put 66 = .ok (.iload 6, 2) := by decide +kernel
theorem dX2_put_68 : decode cX2_put 68 = .ok (.aload_n 0, 1) := by decide +kernel
theorem dX2_put_69 : decode cX2_put 69 = .ok (.getfield 18, 3) := by decide +kernel
theorem dX2_put_72 : decode cX2_put 72 = .ok (.if_icmp .ge 23, 3) := by decide +kernel
theorem dX2_put_75 : decode cX2_put 75 = .ok (.aload_n 0, 1) := by decide +kernel
theorem dX2_put_76 : decode cX2_put 76 = .ok (.iload 6, 2) := by decide +kernel
theorem dX2_put_78 : decode cX2_put 78 = .ok (.iload_n 1, 1) := by decide +kernel
theorem dX2_put_79 : decode cX2_put 79 = .ok (.invokevirtual 41, 3) := by decide +kernel
theorem dX2_put_82 : decode cX2_put 82 = .ok (.iinc 4 1, 3) := by decide +kernel
theorem dX2_put_85 : decode cX2_put 85 = .ok (.iload 6, 2) := by decide +kernel
theorem dX2_put_87 : decode cX2_put 87 = .ok (.iload 5, 2) := by decide +kernel
theorem dX2_put_89 : decode cX2_put 89 = .ok (.iadd, 1) := by decide +kernel
theorem dX2_put_90 : decode cX2_put 90 = .ok (.istore 6, 2) := by decide +kernel
theorem dX2_put_92 : decode cX2_put 92 = .ok (.goto (-26), 3) := by decide +kernel
theorem dX2_put_95 : decode cX2_put 95 = .ok (.iload 4, 2) := by decide +kernel
theorem dX2_put_97 : decode cX2_put 97 = .ok (.ireturn, 1) := by decide +kernel
theorem dX2_remove_0 : decode cX2_remove 0 = .ok (.aload_n 0, 1) := by decide +kernel
theorem dX2_remove_1 : decode cX2_remove 1 = .ok (.iload_n 1, 1) := by decide +kernel
theorem dX2_remove_2 : decode cX2_remove 2 = .ok (.invokevirtual 38, 3) := by decide +kernel
theorem dX2_remove_5 : decode cX2_remove 5 = .ok (.istore_n 2, 1) := by decide +kernel
theorem dX2_remove_6 : decode cX2_remove 6 = .ok (.iload_n 2, 1) := by decide +kernel
theorem dX2_remove_7 : decode cX2_remove 7 = .ok (.ifCond .ge 5, 3) := by decide +kernel
theorem dX2_remove_10 : decode cX2_remove 10 = .ok (.iconst 0, 1) := by decide +kernel
theorem dX2_remove_11 : decode cX2_remove 11 = .ok (.ireturn, 1) := by decide +kernel
theorem dX2_remove_12 : decode cX2_remove 12 = .ok (.iload_n 2, 1) := by decide +kernel
theorem dX2_remove_13 : decode cX2_remove 13 = .ok (.iconst 1, 1) := by decide +kernel
theorem dX2_remove_14 : decode cX2_remove 14 = .ok (.iadd, 1) := by decide +kernel
theorem dX2_remove_15 : decode cX2_remove 15 = .ok (.istore_n 3, 1) := by decide +kernel
theorem dX2_remove_16 : decode cX2_remove 16 = .ok (.iload_n 3, 1) := by decide +kernel
theorem dX2_remove_17 : decode cX2_remove 17 = .ok (.aload_n 0, 1) := by decide +kernel
theorem dX2_remove_18 : decode cX2_remove 18 = .ok (.getfield 22, 3) := by decide +kernel
theorem dX2_remove_21 : decode cX2_remove 21 = .ok (.if_icmp .ge 32, 3) := by decide +kernel
theorem dX2_remove_24 : decode cX2_remove 24 = .ok (.iload_n 3, 1) := by decide +kernel
theorem dX2_remove_25 : decode cX2_remove 25 = .ok (.aload_n 0, 1) := by decide +kernel
theorem dX2_remove_26 : decode cX2_remove 26 = .ok (.getfield 15, 3) := by decide +kernel
theorem dX2_remove_29 : decode cX2_remove 29 = .ok (.arraylength, 1) := by decide +kernel
theorem dX2_remove_30 : decode cX2_remove 30 = .ok (.if_icmp .ge 23, 3) := by decide +kernel
theorem dX2_remove_33 : decode cX2_remove 33 = .ok (.aload_n 0, 1) := by decide +kernel
theorem dX2_remove_34 : decode cX2_remove 34 = .ok (.getfield 15, 3) := by decide +kernel
theorem dX2_remove_37 : decode cX2_remove 37 = .ok (.iload_n 3, 1) := by decide +kernel
theorem dX2_remove_38 : decode cX2_remove 38 = .ok (.iconst 1, 1) := by decide +kernel
theorem dX2_remove_39 : decode cX2_remove 39 = .ok (.isub, 1) := by decide +kernel
theorem dX2_remove_40 : decode cX2_remove 40 = .ok (.aload_n 0, 1) := by decide +kernel
theorem dX2_remove_41 : decode cX2_remove 41 = .ok (.getfield 15, 3) := by decide +kernel
theorem dX2_remove_44 : decode cX2_remove 44 = .ok (.iload_n 3, 1) := by decide +kernel
theorem dX2_remove_45 : decode cX2_remove 45 = .ok (.iaload, 1) := by decide +kernel
theorem dX2_remove_46 : decode cX2_remove 46 = .ok (.iastore, 1) := by decide +kernel
theorem dX2_remove_47 : decode cX2_remove 47 = .ok (.iinc 3 1, 3) := by decide +kernel
theorem dX2_remove_50 : decode cX2_remove 50 = .ok (.goto (-34), 3) := by decide +kernel
theorem dX2_remove_53 : decode cX2_remove 53 = .ok (.aload_n 0, 1) := by decide +kernel
theorem dX2_remove_54 : decode cX2_remove 54 = .ok (.dup, 1) := by decide +kernel
theorem dX2_remove_55 : decode cX2_remove 55 = .ok (.getfield 22, 3) := by decide +kernel
theorem dX2_remove_58 : decode cX2_remove 58 = .ok (.iconst 1, 1) := by decide +kernel
theorem dX2_remove_59 : decode cX2_remove 59 = .ok (.isub, 1) := by decide +kernel
theorem dX2_remove_60 : decode cX2_remove 60 = .ok (.putfield 22, 3) := by decide +kernel
theorem dX2_remove_63 : decode cX2_remove 63 = .ok (.aload_n 0, 1) := by decide +kernel
theorem dX2_remove_64 : decode cX2_remove 64 = .ok (.iload_n 1, 1) := by decide +kernel
theorem dX2_remove_65 : decode cX2_remove 65 = .ok (.invokevirtual 45, 3) := by decide +kernel
theorem dX2_remove_68 : decode cX2_remove 68 = .ok (.istore_n 3, 1) := by decide +kernel
theorem dX2_remove_69 : decode cX2_remove 69 = .ok (.iconst 0, 1) := by decide +kernel
theorem dX2_remove_70 : decode cX2_remove 70 = .ok (.istore 4, 2) := by decide +kernel
theorem dX2_remove_72 : decode cX2_remove 72 = .ok (.iload 4, 2) := by decide +kernel
theorem dX2_remove_74 : decode cX2_remove 74 = .ok (.aload_n 0, 1) := by decide +kernel
theorem dX2_remove_75 : decode cX2_remove 75 = .ok (.getfield 18, 3) := by decide +kernel
theorem dX2_remove_78 : decode cX2_remove 78 = .ok (.if_icmp .ge 26, 3) := by decide +kernel
theorem dX2_remove_81 : decode cX2_remove 81 = .ok (.aload_n 0, 1) := by decide +kernel
theorem dX2_remove_82 : decode cX2_remove 82 = .ok (.iload 4, 2) := by decide +kernel
theorem dX2_remove_84 : decode cX2_remove 84 = .ok (.invokevirtual 34, 3) := by decide +kernel
theorem dX2_remove_87 : decode cX2_remove 87 = .ok (.iload_n 1, 1) := by decide +kernel
theorem dX2_remove_88 : decode cX2_remove 88 = .ok (.if_icmp .ne 10, 3) := by decide +kernel
theorem dX2_remove_91 : decode cX2_remove 91 = .ok (.aload_n 0, 1) := by decide +kernel
theorem dX2_remove_92 : decode cX2_remove 92 = .ok (.iload 4, 2) := by decide +kernel
theorem dX2_remove_94 : decode cX2_remove 94 = .ok (.iconst (-1), 1) := by decide +kernel
theorem dX2_remove_95 : decode cX2_remove 95 = .ok (.invokevirtual 41, 3) := by decide +kernel
theorem dX2_remove_98 : decode cX2_remove 98 = .ok (.iinc 4 1, 3) := by decide +kernel
theorem dX2_remove_101 : decode cX2_remove 101 = .ok (.goto (-29), 3) := by decide +kernel
theorem dX2_remove_104 : decode cX2_remove 104 = .ok (.iload_n 3, 1) := by decide +kernel
theorem dX2_remove_105 : decode cX2_remove 105 = .ok (.ireturn, 1) := by decide +kernel
theorem dX2_differences_0 : decode cX2_differences 0 = .ok (.iconst 0, 1) := by decide +kernel
theorem dX2_differences_1 : decode cX2_differences 1 = .ok (.istore_n 2, 1) := by decide +kernel
theorem dX2_differences_2 : decode cX2_differences 2 = .ok (.iconst 0, 1) := by decide +kernel
theorem dX2_differences_3 : decode cX2_differences 3 = .ok (.istore_n 3, 1) := by decide +kernel
theorem dX2_differences_4 : decode cX2_differences 4 = .ok (.iload_n 3, 1) := by decide +kernel
theorem dX2_differences_5 : decode cX2_differences 5 = .ok (.aload_n 0, 1) := by decide +kernel
theorem dX2_differences_6 : decode cX2_differences 6 = .ok (.getfield 18, 3) := by decide +kernel
theorem dX2_differences_9 : decode cX2_differences 9 = .ok (.if_icmp .ge 25, 3) := by decide +kernel
theorem dX2_differences_12 : decode cX2_differences 12 = .ok (.aload_n 0, 1) := by decide +kernel
theorem dX2_differences_13 : decode cX2_differences 13 = .ok (.iload_n 3, 1) := by decide +kernel
theorem dX2_differences_14 : decode cX2_differences 14 = .ok (.invokevirtual 34, 3) := by decide +kernel
theorem dX2_differences_17 : decode cX2_differences 17 = .ok (.aload_n 1, 1) := by decide +kernel
theorem dX2_differences_18 : decode cX2_differences 18 = .ok (.iload_n 3, 1) := by decide +kernel
theorem dX2_differences_19 : decode cX2_differences 19 = .ok (.invokevirtual 34, 3) := by decide +kernel
theorem dX2_differences_22 : decode cX2_differences 22 = .ok (.if_icmp .eq 6, 3) := by decide +kernel
theorem dX2_differences_25 : decode cX2_differences 25 = .ok (.iinc 2 1, 3) := by decide +kernel
theorem dX2_differences_28 : decode cX2_differences 28 = .ok (.iinc 3 1, 3) := by decide +kernel
theorem dX2_differences_31 : decode cX2_differences 31 = .ok (.goto (-27), 3) := by decide +kernel
theorem dX2_differences_34 : decode cX2_differences 34 = .ok (.iload_n 2, 1) := by decide +kernel
theorem dX2_differences_35 : decode cX2_differences 35 = .ok (.ireturn, 1) := by decide +kernel
theorem dX2_mostHolesSideBySide_0 : decode cX2_mostHolesSideBySide 0 = .ok (.iconst 0, 1) := by decide +kernel
theorem dX2_mostHolesSideBySide_1 : decode cX2_mostHolesSideBySide 1 = .ok (.istore_n 1, 1) := by decide +kernel
theorem dX2_mostHolesSideBySide_2 : decode cX2_mostHolesSideBySide 2 = .ok (.iconst 0, 1) := by decide +kernel
theorem dX2_mostHolesSideBySide_3 : decode cX2_mostHolesSideBySide 3 = .ok (.istore_n 2, 1) := by decide +kernel
theorem dX2_mostHolesSideBySide_4 : decode cX2_mostHolesSideBySide 4 = .ok (.iconst 0, 1) := by decide +kernel
theorem dX2_mostHolesSideBySide_5 : decode cX2_mostHolesSideBySide 5 = .ok (.istore_n 3, 1) := by decide +kernel
theorem dX2_mostHolesSideBySide_6 : decode cX2_mostHolesSideBySide 6 = .ok (.iload_n 3, 1) := by decide +kernel
theorem dX2_mostHolesSideBySide_7 : decode cX2_mostHolesSideBySide 7 = .ok (.aload_n 0, 1) := by decide +kernel
theorem dX2_mostHolesSideBySide_8 : decode cX2_mostHolesSideBySide 8 = .ok (.getfield 18, 3) := by decide +kernel
theorem dX2_mostHolesSideBySide_11 : decode cX2_mostHolesSideBySide 11 = .ok (.if_icmp .ge 32, 3) := by decide +kernel
theorem dX2_mostHolesSideBySide_14 : decode cX2_mostHolesSideBySide 14 = .ok (.aload_n 0, 1) := by decide +kernel
theorem dX2_mostHolesSideBySide_15 : decode cX2_mostHolesSideBySide 15 = .ok (.iload_n 3, 1) := by decide +kernel
theorem dX2_mostHolesSideBySide_16 : decode cX2_mostHolesSideBySide 16 = .ok (.invokevirtual 34, 3) := by decide +kernel
theorem dX2_mostHolesSideBySide_19 : decode cX2_mostHolesSideBySide 19 = .ok (.iconst (-1), 1) := by decide +kernel
theorem dX2_mostHolesSideBySide_20 : decode cX2_mostHolesSideBySide 20 = .ok (.if_icmp .ne 9, 3) := by decide +kernel
theorem dX2_mostHolesSideBySide_23 : decode cX2_mostHolesSideBySide 23 = .ok (.iload_n 2, 1) := by decide +kernel
theorem dX2_mostHolesSideBySide_24 : decode cX2_mostHolesSideBySide 24 = .ok (.iconst 1, 1) := by decide +kernel
theorem dX2_mostHolesSideBySide_25 : decode cX2_mostHolesSideBySide 25 = .ok (.iadd, 1) := by decide +kernel
theorem dX2_mostHolesSideBySide_26 : decode cX2_mostHolesSideBySide 26 = .ok (.goto 4, 3) := by decide +kernel
theorem dX2_mostHolesSideBySide_29 : decode cX2_mostHolesSideBySide 29 = .ok (.iconst 0, 1) := by decide +kernel
theorem dX2_mostHolesSideBySide_30 : decode cX2_mostHolesSideBySide 30 = .ok (.istore_n 2, 1) := by decide +kernel
theorem dX2_mostHolesSideBySide_31 : decode cX2_mostHolesSideBySide 31 = .ok (.iload_n 1, 1) := by decide +kernel
theorem dX2_mostHolesSideBySide_32 : decode cX2_mostHolesSideBySide 32 = .ok (.iload_n 2, 1) := by decide +kernel
theorem dX2_mostHolesSideBySide_33 : decode cX2_mostHolesSideBySide 33 = .ok (.invokestatic 31, 3) := by decide +kernel
theorem dX2_mostHolesSideBySide_36 : decode cX2_mostHolesSideBySide 36 = .ok (.istore_n 1, 1) := by decide +kernel
theorem dX2_mostHolesSideBySide_37 : decode cX2_mostHolesSideBySide 37 = .ok (.iinc 3 1, 3) := by decide +kernel
theorem dX2_mostHolesSideBySide_40 : decode cX2_mostHolesSideBySide 40 = .ok (.goto (-34), 3) := by decide +kernel
theorem dX2_mostHolesSideBySide_43 : decode cX2_mostHolesSideBySide 43 = .ok (.iload_n 1, 1) := by decide +kernel
theorem dX2_mostHolesSideBySide_44 : decode cX2_mostHolesSideBySide 44 = .ok (.ireturn, 1) := by decide +kernel
theorem dX2_hueNumber_0 : decode cX2_hueNumber 0 = .ok (.aload_n 0, 1) := by decide +kernel
theorem dX2_hueNumber_1 : decode cX2_hueNumber 1 = .ok (.iload_n 1, 1) := by decide +kernel
theorem dX2_hueNumber_2 : decode cX2_hueNumber 2 = .ok (.invokevirtual 38, 3) := by decide +kernel
theorem dX2_hueNumber_5 : decode cX2_hueNumber 5 = .ok (.istore_n 3, 1) := by decide +kernel
theorem dX2_hueNumber_6 : decode cX2_hueNumber 6 = .ok (.iload_n 3, 1) := by decide +kernel
theorem dX2_hueNumber_7 : decode cX2_hueNumber 7 = .ok (.iconst (-1), 1) := by decide +kernel
theorem dX2_hueNumber_8 : decode cX2_hueNumber 8 = .ok (.if_icmp .ne 5, 3) := by decide +kernel
theorem dX2_hueNumber_11 : decode cX2_hueNumber 11 = .ok (.iconst (-1), 1) := by decide +kernel
theorem dX2_hueNumber_12 : decode cX2_hueNumber 12 = .ok (.ireturn, 1) := by decide +kernel
theorem dX2_hueNumber_13 : decode cX2_hueNumber 13 = .ok (.iload_n 2, 1) := by decide +kernel
theorem dX2_hueNumber_14 : decode cX2_hueNumber 14 = .ok (.tableswitch 45 0 2 #[26, 33, 39], 26) := by decide +kernel
theorem dX2_hueNumber_40 : decode cX2_hueNumber 40 = .ok (.aload_n 0, 1) := by decide +kernel
theorem dX2_hueNumber_41 : decode cX2_hueNumber 41 = .ok (.iload_n 1, 1) := by decide +kernel
theorem dX2_hueNumber_42 : decode cX2_hueNumber 42 = .ok (.iconst 0, 1) := by decide +kernel
theorem dX2_hueNumber_43 : decode cX2_hueNumber 43 = .ok (.invokevirtual 48, 3) := by decide +kernel
theorem dX2_hueNumber_46 : decode cX2_hueNumber 46 = .ok (.ireturn, 1) := by decide +kernel
theorem dX2_hueNumber_47 : decode cX2_hueNumber 47 = .ok (.aload_n 0, 1) := by decide +kernel
theorem dX2_hueNumber_48 : decode cX2_hueNumber 48 = .ok (.iload_n 1, 1) := by decide +kernel
theorem dX2_hueNumber_49 : decode cX2_hueNumber 49 = .ok (.invokevirtual 45, 3) := by decide +kernel
theorem dX2_hueNumber_52 : decode cX2_hueNumber 52 = .ok (.ireturn, 1) := by decide +kernel
theorem dX2_hueNumber_53 : decode cX2_hueNumber 53 = .ok (.aload_n 0, 1) := by decide +kernel
theorem dX2_hueNumber_54 : decode cX2_hueNumber 54 = .ok (.iload_n 1, 1) := by decide +kernel
theorem dX2_hueNumber_55 : decode cX2_hueNumber 55 = .ok (.invokevirtual 51, 3) := by decide +kernel
theorem dX2_hueNumber_58 : decode cX2_hueNumber 58 = .ok (.ireturn, 1) := by decide +kernel
theorem dX2_hueNumber_59 : decode cX2_hueNumber 59 = .ok (.iload_n 3, 1) := by decide +kernel
theorem dX2_hueNumber_60 : decode cX2_hueNumber 60 = .ok (.ireturn, 1) := by decide +kernel
theorem dX2_phaseNumber_0 : decode cX2_phaseNumber 0 = .ok (.iload_n 3, 1) := by decide +kernel
theorem dX2_phaseNumber_1 : decode cX2_phaseNumber 1 = .ok (.lookupswitch 41 #[(0, 27), (1, 34)], 27) := by decide +kernel
theorem dX2_phaseNumber_28 : decode cX2_phaseNumber 28 = .ok (.aload_n 0, 1) := by decide +kernel
theorem dX2_phaseNumber_29 : decode cX2_phaseNumber 29 = .ok (.iload_n 1, 1) := by decide +kernel
theorem dX2_phaseNumber_30 : decode cX2_phaseNumber 30 = .ok (.iload_n 2, 1) := by decide +kernel
theorem dX2_phaseNumber_31 : decode cX2_phaseNumber 31 = .ok (.invokevirtual 54, 3) := by decide +kernel
theorem dX2_phaseNumber_34 : decode cX2_phaseNumber 34 = .ok (.ireturn, 1) := by decide +kernel
theorem dX2_phaseNumber_35 : decode cX2_phaseNumber 35 = .ok (.aload_n 0, 1) := by decide +kernel
theorem dX2_phaseNumber_36 : decode cX2_phaseNumber 36 = .ok (.iload_n 1, 1) := by decide +kernel
theorem dX2_phaseNumber_37 : decode cX2_phaseNumber 37 = .ok (.iload_n 2, 1) := by decide +kernel
theorem dX2_phaseNumber_38 : decode cX2_phaseNumber 38 = .ok (.invokevirtual 57, 3) := by decide +kernel
theorem dX2_phaseNumber_41 : decode cX2_phaseNumber 41 = .ok (.ireturn, 1) := by decide +kernel
theorem dX2_phaseNumber_42 : decode cX2_phaseNumber 42 = .ok (.aload_n 0, 1) := by decide +kernel
theorem dX2_phaseNumber_43 : decode cX2_phaseNumber 43 = .ok (.iload_n 1, 1) := by decide +kernel
theorem dX2_phaseNumber_44 : decode cX2_phaseNumber 44 = .ok (.iload_n 2, 1) := by decide +kernel
theorem dX2_phaseNumber_45 : decode cX2_phaseNumber 45 = .ok (.invokevirtual 60, 3) := by decide +kernel
theorem dX2_phaseNumber_48 : decode cX2_phaseNumber 48 = .ok (.ireturn, 1) := by decide +kernel
theorem dX2_fittingPhases_0 : decode cX2_fittingPhases 0 = .ok (.iconst 0, 1) := by decide +kernel
theorem dX2_fittingPhases_1 : decode cX2_fittingPhases 1 = .ok (.istore_n 3, 1) := by decide +kernel
theorem dX2_fittingPhases_2 : decode cX2_fittingPhases 2 = .ok (.iconst 0, 1) := by decide +kernel
theorem dX2_fittingPhases_3 : decode cX2_fittingPhases 3 = .ok (.istore 4, 2) := by decide +kernel
theorem dX2_fittingPhases_5 : decode cX2_fittingPhases 5 = .ok (.iload 4, 2) := by decide +kernel
theorem dX2_fittingPhases_7 : decode cX2_fittingPhases 7 = .ok (.iload_n 2, 1) := by decide +kernel
theorem dX2_fittingPhases_8 : decode cX2_fittingPhases 8 = .ok (.if_icmp .ge 23, 3) := by decide +kernel
theorem dX2_fittingPhases_11 : decode cX2_fittingPhases 11 = .ok (.aload_n 0, 1) := by decide +kernel
theorem dX2_fittingPhases_12 : decode cX2_fittingPhases 12 = .ok (.iload_n 1, 1) := by decide +kernel
theorem dX2_fittingPhases_13 : decode cX2_fittingPhases 13 = .ok (.iload 4, 2) := by decide +kernel
theorem dX2_fittingPhases_15 : decode cX2_fittingPhases 15 = .ok (.iload_n 2, 1) := by decide +kernel
theorem dX2_fittingPhases_16 : decode cX2_fittingPhases 16 = .ok (.invokevirtual 63, 3) := by decide +kernel
theorem dX2_fittingPhases_19 : decode cX2_fittingPhases 19 = .ok (.ifCond .ne 6, 3) := by decide +kernel
theorem dX2_fittingPhases_22 : decode cX2_fittingPhases 22 = .ok (.iinc 3 1, 3) := by decide +kernel
theorem dX2_fittingPhases_25 : decode cX2_fittingPhases 25 = .ok (.iinc 4 1, 3) := by decide +kernel
theorem dX2_fittingPhases_28 : decode cX2_fittingPhases 28 = .ok (.goto (-23), 3) := by decide +kernel
theorem dX2_fittingPhases_31 : decode cX2_fittingPhases 31 = .ok (.iload_n 3, 1) := by decide +kernel
theorem dX2_fittingPhases_32 : decode cX2_fittingPhases 32 = .ok (.ireturn, 1) := by decide +kernel
theorem dX2_lowestPhase_0 : decode cX2_lowestPhase 0 = .ok (.iconst 0, 1) := by decide +kernel
theorem dX2_lowestPhase_1 : decode cX2_lowestPhase 1 = .ok (.istore_n 3, 1) := by decide +kernel
theorem dX2_lowestPhase_2 : decode cX2_lowestPhase 2 = .ok (.iload_n 3, 1) := by decide +kernel
theorem dX2_lowestPhase_3 : decode cX2_lowestPhase 3 = .ok (.iload_n 2, 1) := by decide +kernel
theorem dX2_lowestPhase_4 : decode cX2_lowestPhase 4 = .ok (.if_icmp .ge 21, 3) := by decide +kernel
theorem dX2_lowestPhase_7 : decode cX2_lowestPhase 7 = .ok (.aload_n 0, 1) := by decide +kernel
theorem dX2_lowestPhase_8 : decode cX2_lowestPhase 8 = .ok (.iload_n 1, 1) := by decide +kernel
theorem dX2_lowestPhase_9 : decode cX2_lowestPhase 9 = .ok (.iload_n 3, 1) := by decide +kernel
theorem dX2_lowestPhase_10 : decode cX2_lowestPhase 10 = .ok (.iload_n 2, 1) := by decide +kernel
theorem dX2_lowestPhase_11 : decode cX2_lowestPhase 11 = .ok (.invokevirtual 63, 3) := by decide +kernel
theorem dX2_lowestPhase_14 : decode cX2_lowestPhase 14 = .ok (.ifCond .ne 5, 3) := by decide +kernel
theorem dX2_lowestPhase_17 : decode cX2_lowestPhase 17 = .ok (.iload_n 3, 1) := by decide +kernel
theorem dX2_lowestPhase_18 : decode cX2_lowestPhase 18 = .ok (.ireturn, 1) := by decide +kernel
theorem dX2_lowestPhase_19 : decode cX2_lowestPhase 19 = .ok (.iinc 3 1, 3) := by decide +kernel
theorem dX2_lowestPhase_22 : decode cX2_lowestPhase 22 = .ok (.goto (-20), 3) := by decide +kernel
theorem dX2_lowestPhase_25 : decode cX2_lowestPhase 25 = .ok (.iconst (-1), 1) := by decide +kernel
theorem dX2_lowestPhase_26 : decode cX2_lowestPhase 26 = .ok (.ireturn, 1) := by decide +kernel
theorem dX2_fillingPhase_0 : decode cX2_fillingPhase 0 = .ok (.iconst (-1), 1) := by decide +kernel
theorem dX2_fillingPhase_1 : decode cX2_fillingPhase 1 = .ok (.istore_n 3, 1) := by decide +kernel
theorem dX2_fillingPhase_2 : decode cX2_fillingPhase 2 = .ok (.iconst 0, 1) := by decide +kernel
theorem dX2_fillingPhase_3 : decode cX2_fillingPhase 3 = .ok (.istore 4, 2) := by decide +kernel
theorem dX2_fillingPhase_5 : decode cX2_fillingPhase 5 = .ok (.iconst 0, 1) := by decide +kernel
theorem dX2_fillingPhase_6 : decode cX2_fillingPhase 6 = .ok (.istore 5, 2) := by decide +kernel
theorem dX2_fillingPhase_8 : decode cX2_fillingPhase 8 = .ok (.iload 5, 2) := by decide +kernel
theorem dX2_fillingPhase_10 : decode cX2_fillingPhase 10 = .ok (.iload_n 2, 1) := by decide +kernel
theorem dX2_fillingPhase_11 : decode cX2_fillingPhase 11 = .ok (.if_icmp .ge 43, 3) := by decide +kernel
theorem dX2_fillingPhase_14 : decode cX2_fillingPhase 14 = .ok (.aload_n 0, 1) := by decide +kernel
theorem dX2_fillingPhase_15 : decode cX2_fillingPhase 15 = .ok (.iload 5, 2) := by decide +kernel
theorem dX2_fillingPhase_17 : decode cX2_fillingPhase 17 = .ok (.iload_n 2, 1) := by decide +kernel
theorem dX2_fillingPhase_18 : decode cX2_fillingPhase 18 = .ok (.invokevirtual 67, 3) := by decide +kernel
theorem dX2_fillingPhase_21 : decode cX2_fillingPhase 21 = .ok (.istore 6, 2) := by decide +kernel
theorem dX2_fillingPhase_23 : decode cX2_fillingPhase 23 = .ok (.iload 6, 2) := by decide +kernel
theorem dX2_fillingPhase_25 : decode cX2_fillingPhase 25 = .ok (.iload 4, 2) := by decide +kernel
theorem dX2_fillingPhase_27 : decode cX2_fillingPhase 27 = .ok (.if_icmp .le 21, 3) := by decide +kernel
theorem dX2_fillingPhase_30 : decode cX2_fillingPhase 30 = .ok (.aload_n 0, 1) := by decide +kernel
theorem dX2_fillingPhase_31 : decode cX2_fillingPhase 31 = .ok (.iload_n 1, 1) := by decide +kernel
theorem dX2_fillingPhase_32 : decode cX2_fillingPhase 32 = .ok (.iload 5, 2) := by decide +kernel
theorem dX2_fillingPhase_34 : decode cX2_fillingPhase 34 = .ok (.iload_n 2, 1) := by decide +kernel
theorem dX2_fillingPhase_35 : decode cX2_fillingPhase 35 = .ok (.invokevirtual 63, 3) := by decide +kernel
theorem dX2_fillingPhase_38 : decode cX2_fillingPhase 38 = .ok (.ifCond .ne 10, 3) := by decide +kernel
theorem dX2_fillingPhase_41 : decode cX2_fillingPhase 41 = .ok (.iload 6, 2) := by decide +kernel
theorem dX2_fillingPhase_43 : decode cX2_fillingPhase 43 = .ok (.istore 4, 2) := by decide +kernel
theorem dX2_fillingPhase_45 : decode cX2_fillingPhase 45 = .ok (.iload 5, 2) := by decide +kernel
theorem dX2_fillingPhase_47 : decode cX2_fillingPhase 47 = .ok (.istore_n 3, 1) := by decide +kernel
theorem dX2_fillingPhase_48 : decode cX2_fillingPhase 48 = .ok (.iinc 5 1, 3) := by decide +kernel
theorem dX2_fillingPhase_51 : decode cX2_fillingPhase 51 = .ok (.goto (-43), 3) := by decide +kernel
theorem dX2_fillingPhase_54 : decode cX2_fillingPhase 54 = .ok (.iload_n 3, 1) := by decide +kernel
theorem dX2_fillingPhase_55 : decode cX2_fillingPhase 55 = .ok (.ireturn, 1) := by decide +kernel
theorem dX3_init_0 : decode cX3_init 0 = .ok (.aload_n 0, 1) := by decide +kernel
theorem dX3_init_1 : decode cX3_init 1 = .ok (.invokespecial 3, 3) := by decide +kernel
theorem dX3_init_4 : decode cX3_init 4 = .ok (.aload_n 0, 1) := by decide +kernel
theorem dX3_init_5 : decode cX3_init 5 = .ok (.bipush 8, 2) := by decide +kernel
theorem dX3_init_7 : decode cX3_init 7 = .ok (.newarray .int, 2) := by decide +kernel
theorem dX3_init_9 : decode cX3_init 9 = .ok (.putfield 9, 3) := by decide +kernel
theorem dX3_init_12 : decode cX3_init 12 = .ok (.iconst 0, 1) := by decide +kernel
theorem dX3_init_13 : decode cX3_init 13 = .ok (.istore_n 1, 1) := by decide +kernel
theorem dX3_init_14 : decode cX3_init 14 = .ok (.iload_n 1, 1) := by decide +kernel
theorem dX3_init_15 : decode cX3_init 15 = .ok (.aload_n 0, 1) := by decide +kernel
theorem dX3_init_16 : decode cX3_init 16 = .ok (.getfield 9, 3) := by decide +kernel
theorem dX3_init_19 : decode cX3_init 19 = .ok (.arraylength, 1) := by decide +kernel
theorem dX3_init_20 : decode cX3_init 20 = .ok (.if_icmp .ge 18, 3) := by decide +kernel
theorem dX3_init_23 : decode cX3_init 23 = .ok (.aload_n 0, 1) := by decide +kernel
theorem dX3_init_24 : decode cX3_init 24 = .ok (.getfield 9, 3) := by decide +kernel
theorem dX3_init_27 : decode cX3_init 27 = .ok (.iload_n 1, 1) := by decide +kernel
theorem dX3_init_28 : decode cX3_init 28 = .ok (.iconst 2, 1) := by decide +kernel
theorem dX3_init_29 : decode cX3_init 29 = .ok (.iload_n 1, 1) := by decide +kernel
theorem dX3_init_30 : decode cX3_init 30 = .ok (.iadd, 1) := by decide +kernel
theorem dX3_init_31 : decode cX3_init 31 = .ok (.iastore, 1) := by decide +kernel
theorem dX3_init_32 : decode cX3_init 32 = .ok (.iinc 1 1, 3) := by decide +kernel
theorem dX3_init_35 : decode cX3_init 35 = .ok (.goto (-21), 3) := by decide +kernel
theorem dX3_init_38 : decode cX3_init 38 = .ok (.aload_n 0, 1) := by decide +kernel
theorem dX3_init_39 : decode cX3_init 39 = .ok (.iconst 4, 1) := by decide +kernel
theorem dX3_init_40 : decode cX3_init 40 = .ok (.anewarray 15, 3) := by decide +kernel
theorem dX3_init_43 : decode cX3_init 43 = .ok (.putfield 17, 3) := by decide +kernel
theorem dX3_init_46 : decode cX3_init 46 = .ok (.iconst 0, 1) := by decide +kernel
theorem dX3_init_47 : decode cX3_init 47 = .ok (.istore_n 1, 1) := by decide +kernel
theorem dX3_init_48 : decode cX3_init 48 = .ok (.iload_n 1, 1) := by decide +kernel
theorem dX3_init_49 : decode cX3_init 49 = .ok (.aload_n 0, 1) := by decide +kernel
theorem dX3_init_50 : decode cX3_init 50 = .ok (.getfield 17, 3) := by decide +kernel
theorem dX3_init_53 : decode cX3_init 53 = .ok (.arraylength, 1) := by decide +kernel
theorem dX3_init_54 : decode cX3_init 54 = .ok (.if_icmp .ge 22, 3) := by decide +kernel
theorem dX3_init_57 : decode cX3_init 57 = .ok (.aload_n 0, 1) := by decide +kernel
theorem dX3_init_58 : decode cX3_init 58 = .ok (.getfield 17, 3) := by decide +kernel
theorem dX3_init_61 : decode cX3_init 61 = .ok (.iload_n 1, 1) := by decide +kernel
theorem dX3_init_62 : decode cX3_init 62 = .ok (.new 15, 3) := by decide +kernel
theorem dX3_init_65 : decode cX3_init 65 = .ok (.dup, 1) := by decide +kernel
theorem dX3_init_66 : decode cX3_init 66 = .ok (.invokespecial 21, 3) := by decide +kernel
theorem dX3_init_69 : decode cX3_init 69 = .ok (.aastore, 1) := by decide +kernel
theorem dX3_init_70 : decode cX3_init 70 = .ok (.iinc 1 1, 3) := by decide +kernel
theorem dX3_init_73 : decode cX3_init 73 = .ok (.goto (-25), 3) := by decide +kernel
theorem dX3_init_76 : decode cX3_init 76 = .ok (.aload_n 0, 1) := by decide +kernel
theorem dX3_init_77 : decode cX3_init 77 = .ok (.iconst 0, 1) := by decide +kernel
theorem dX3_init_78 : decode cX3_init 78 = .ok (.putfield 22, 3) := by decide +kernel
theorem dX3_init_81 : decode cX3_init 81 = .ok (.aload_n 0, 1) := by decide +kernel
theorem dX3_init_82 : decode cX3_init 82 = .ok (.iconst 0, 1) := by decide +kernel
theorem dX3_init_83 : decode cX3_init 83 = .ok (.putfield 26, 3) := by decide +kernel
theorem dX3_init_86 : decode cX3_init 86 = .ok (.aload_n 0, 1) := by decide +kernel
theorem dX3_init_87 : decode cX3_init 87 = .ok (.iconst 0, 1) := by decide +kernel
theorem dX3_init_88 : decode cX3_init 88 = .ok (.putfield 29, 3) := by decide +kernel
theorem dX3_init_91 : decode cX3_init 91 = .ok (.aload_n 0, 1) := by decide +kernel
theorem dX3_init_92 : decode cX3_init 92 = .ok (.iconst 0, 1) := by decide +kernel
theorem dX3_init_93 : decode cX3_init 93 = .ok (.putfield 32, 3) := by decide +kernel
theorem dX3_init_96 : decode cX3_init 96 = .ok (.return_, 1) := by decide +kernel
theorem dX3_copyFrom_0 : decode cX3_copyFrom 0 = .ok (.iconst 0, 1) := by decide +kernel
theorem dX3_copyFrom_1 : decode cX3_copyFrom 1 = .ok (.istore_n 2, 1) := by decide +kernel
theorem dX3_copyFrom_2 : decode cX3_copyFrom 2 = .ok (.iload_n 2, 1) := by decide +kernel
theorem dX3_copyFrom_3 : decode cX3_copyFrom 3 = .ok (.aload_n 0, 1) := by decide +kernel
theorem dX3_copyFrom_4 : decode cX3_copyFrom 4 = .ok (.getfield 9, 3) := by decide +kernel
theorem dX3_copyFrom_7 : decode cX3_copyFrom 7 = .ok (.arraylength, 1) := by decide +kernel
theorem dX3_copyFrom_8 : decode cX3_copyFrom 8 = .ok (.if_icmp .ge 30, 3) := by decide +kernel
theorem dX3_copyFrom_11 : decode cX3_copyFrom 11 = .ok (.iload_n 2, 1) := by decide +kernel
theorem dX3_copyFrom_12 : decode cX3_copyFrom 12 = .ok (.aload_n 1, 1) := by decide +kernel
theorem dX3_copyFrom_13 : decode cX3_copyFrom 13 = .ok (.getfield 9, 3) := by decide +kernel
theorem dX3_copyFrom_16 : decode cX3_copyFrom 16 = .ok (.arraylength, 1) := by decide +kernel
theorem dX3_copyFrom_17 : decode cX3_copyFrom 17 = .ok (.if_icmp .ge 21, 3) := by decide +kernel
theorem dX3_copyFrom_20 : decode cX3_copyFrom 20 = .ok (.aload_n 0, 1) := by decide +kernel
theorem dX3_copyFrom_21 : decode cX3_copyFrom 21 = .ok (.getfield 9, 3) := by decide +kernel
theorem dX3_copyFrom_24 : decode cX3_copyFrom 24 = .ok (.iload_n 2, 1) := by decide +kernel
theorem dX3_copyFrom_25 : decode cX3_copyFrom 25 = .ok (.aload_n 1, 1) := by decide +kernel
theorem dX3_copyFrom_26 : decode cX3_copyFrom 26 = .ok (.getfield 9, 3) := by decide +kernel
theorem dX3_copyFrom_29 : decode cX3_copyFrom 29 = .ok (.iload_n 2, 1) := by decide +kernel
theorem dX3_copyFrom_30 : decode cX3_copyFrom 30 = .ok (.iaload, 1) := by decide +kernel
theorem dX3_copyFrom_31 : decode cX3_copyFrom 31 = .ok (.iastore, 1) := by decide +kernel
theorem dX3_copyFrom_32 : decode cX3_copyFrom 32 = .ok (.iinc 2 1, 3) := by decide +kernel
theorem dX3_copyFrom_35 : decode cX3_copyFrom 35 = .ok (.goto (-33), 3) := by decide +kernel
theorem dX3_copyFrom_38 : decode cX3_copyFrom 38 = .ok (.aload_n 0, 1) := by decide +kernel
theorem dX3_copyFrom_39 : decode cX3_copyFrom 39 = .ok (.aload_n 1, 1) := by decide +kernel
theorem dX3_copyFrom_40 : decode cX3_copyFrom 40 = .ok (.getfield 22, 3) := by decide +kernel
theorem dX3_copyFrom_43 : decode cX3_copyFrom 43 = .ok (.putfield 22, 3) := by decide +kernel
theorem dX3_copyFrom_46 : decode cX3_copyFrom 46 = .ok (.iconst 0, 1) := by decide +kernel
theorem dX3_copyFrom_47 : decode cX3_copyFrom 47 = .ok (.istore_n 2, 1) := by decide +kernel
theorem dX3_copyFrom_48 : decode cX3_copyFrom 48 = .ok (.iload_n 2, 1) := by decide +kernel
theorem dX3_copyFrom_49 : decode cX3_copyFrom 49 = .ok (.aload_n 0, 1) := by decide +kernel
theorem dX3_copyFrom_50 : decode cX3_copyFrom 50 = .ok (.getfield 22, 3) := by decide +kernel
theorem dX3_copyFrom_53 : decode cX3_copyFrom 53 = .ok (.if_icmp .ge 37, 3) := by decide +kernel
theorem dX3_copyFrom_56 : decode cX3_copyFrom 56 = .ok (.aload_n 0, 1) := by decide +kernel
theorem dX3_copyFrom_57 : decode cX3_copyFrom 57 = .ok (.iload_n 2, 1) := by decide +kernel
theorem dX3_copyFrom_58 : decode cX3_copyFrom 58 = .ok (.invokevirtual 35, 3) := by decide +kernel
theorem dX3_copyFrom_61 : decode cX3_copyFrom 61 = .ok (.astore_n 3, 1) := by decide +kernel
theorem dX3_copyFrom_62 : decode cX3_copyFrom 62 = .ok (.aload_n 1, 1) := by decide +kernel
theorem dX3_copyFrom_63 : decode cX3_copyFrom 63 = .ok (.iload_n 2, 1) := by decide +kernel
theorem dX3_copyFrom_64 : decode cX3_copyFrom 64 = .ok (.invokevirtual 35, 3) := by decide +kernel
theorem dX3_copyFrom_67 : decode cX3_copyFrom 67 = .ok (.astore 4, 2) := by decide +kernel
theorem dX3_copyFrom_69 : decode cX3_copyFrom 69 = .ok (.aload_n 3, 1) := by decide +kernel
theorem dX3_copyFrom_70 : decode cX3_copyFrom 70 = .ok (.ifnull 14, 3) := by decide +kernel
theorem dX3_copyFrom_73 : decode cX3_copyFrom 73 = .ok (.aload 4, 2) := by decide +kernel
theorem dX3_copyFrom_75 : decode cX3_copyFrom 75 = .ok (.ifnull 9, 3) := by decide +kernel
theorem dX3_copyFrom_78 : decode cX3_copyFrom 78 = .ok (.aload_n 3, 1) := by decide +kernel
theorem dX3_copyFrom_79 : decode cX3_copyFrom 79 = .ok (.aload 4, 2) := by decide +kernel
theorem dX3_copyFrom_81 : decode cX3_copyFrom 81 = .ok (.invokevirtual 39, 3) := by decide +kernel
theorem dX3_copyFrom_84 : decode cX3_copyFrom 84 = .ok (.iinc 2 1, 3) := by decide +kernel
theorem dX3_copyFrom_87 : decode cX3_copyFrom 87 = .ok (.goto (-39), 3) := by decide +kernel
theorem dX3_copyFrom_90 : decode cX3_copyFrom 90 = .ok (.aload_n 0, 1) := by decide +kernel
theorem dX3_copyFrom_91 : decode cX3_copyFrom 91 = .ok (.aload_n 1, 1) := by decide +kernel
theorem dX3_copyFrom_92 : decode cX3_copyFrom 92 = .ok (.getfield 26, 3) := by decide +kernel
theorem dX3_copyFrom_95 : decode cX3_copyFrom 95 = .ok (.putfield 26, 3) := by decide +kernel
theorem dX3_copyFrom_98 : decode cX3_copyFrom 98 = .ok (.aload_n 0, 1) := by decide +kernel
theorem dX3_copyFrom_99 : decode cX3_copyFrom 99 = .ok (.aload_n 1, 1) := by decide +kernel
theorem dX3_copyFrom_100 : decode cX3_copyFrom 100 = .ok (.getfield 29, 3) := by decide +kernel
theorem dX3_copyFrom_103 : decode cX3_copyFrom 103 = .ok (.putfield 29, 3) := by decide +kernel
theorem dX3_copyFrom_106 : decode cX3_copyFrom 106 = .ok (.aload_n 0, 1) := by decide +kernel
theorem dX3_copyFrom_107 : decode cX3_copyFrom 107 = .ok (.aload_n 1, 1) := by decide +kernel
theorem dX3_copyFrom_108 : decode cX3_copyFrom 108 = .ok (.getfield 32, 3) := by decide +kernel
theorem dX3_copyFrom_111 : decode cX3_copyFrom 111 = .ok (.putfield 32, 3) := by decide +kernel
theorem dX3_copyFrom_114 : decode cX3_copyFrom 114 = .ok (.return_, 1) := by decide +kernel
theorem dX3_gapAt_0 : decode cX3_gapAt 0 = .ok (.iload_n 1, 1) := by decide +kernel
theorem dX3_gapAt_1 : decode cX3_gapAt 1 = .ok (.ifCond .lt 21, 3) := by decide +kernel
theorem dX3_gapAt_4 : decode cX3_gapAt 4 = .ok (.iload_n 1, 1) := by decide +kernel
theorem dX3_gapAt_5 : decode cX3_gapAt 5 = .ok (.aload_n 0, 1) := by decide +kernel
theorem dX3_gapAt_6 : decode cX3_gapAt 6 = .ok (.getfield 9, 3) := by decide +kernel
theorem dX3_gapAt_9 : decode cX3_gapAt 9 = .ok (.arraylength, 1) := by decide +kernel
theorem dX3_gapAt_10 : decode cX3_gapAt 10 = .ok (.if_icmp .ge 12, 3) := by decide +kernel
theorem dX3_gapAt_13 : decode cX3_gapAt 13 = .ok (.aload_n 0, 1) := by decide +kernel
theorem dX3_gapAt_14 : decode cX3_gapAt 14 = .ok (.getfield 9, 3) := by decide +kernel
theorem dX3_gapAt_17 : decode cX3_gapAt 17 = .ok (.iload_n 1, 1) := by decide +kernel
theorem dX3_gapAt_18 : decode cX3_gapAt 18 = .ok (.iaload, 1) := by decide +kernel
theorem dX3_gapAt_19 : decode cX3_gapAt 19 = .ok (.goto 4, 3) := by decide +kernel
theorem dX3_gapAt_22 : decode cX3_gapAt 22 = .ok (.iconst 0, 1) := by decide +kernel
theorem dX3_gapAt_23 : decode cX3_gapAt 23 = .ok (.ireturn, 1) := by decide +kernel
theorem dX3_setGap_0 : decode cX3_setGap 0 = .ok (.iload_n 1, 1) := by decide +kernel
theorem dX3_setGap_1 : decode cX3_setGap 1 = .ok (.ifCond .lt 19, 3) := by decide +kernel
theorem dX3_setGap_4 : decode cX3_setGap 4 = .ok (.iload_n 1, 1) := by decide +kernel
theorem dX3_setGap_5 : decode cX3_setGap 5 = .ok (.aload_n 0, 1) := by decide +kernel
theorem dX3_setGap_6 : decode cX3_setGap 6 = .ok (.getfield 9, 3) := by decide +kernel
theorem dX3_setGap_9 : decode cX3_setGap 9 = .ok (.arraylength, 1) := by decide +kernel
theorem dX3_setGap_10 : decode cX3_setGap 10 = .ok (.if_icmp .ge 10, 3) := by decide +kernel
theorem dX3_setGap_13 : decode cX3_setGap 13 = .ok (.aload_n 0, 1) := by decide +kernel
theorem dX3_setGap_14 : decode cX3_setGap 14 = .ok (.getfield 9, 3) := by decide +kernel
theorem dX3_setGap_17 : decode cX3_setGap 17 = .ok (.iload_n 1, 1) := by decide +kernel
theorem dX3_setGap_18 : decode cX3_setGap 18 = .ok (.iload_n 2, 1) := by decide +kernel
theorem dX3_setGap_19 : decode cX3_setGap 19 = .ok (.iastore, 1) := by decide +kernel
theorem dX3_setGap_20 : decode cX3_setGap 20 = .ok (.return_, 1) := by decide +kernel
theorem dX3_ropeCount_0 : decode cX3_ropeCount 0 = .ok (.aload_n 0, 1) := by decide +kernel
theorem dX3_ropeCount_1 : decode cX3_ropeCount 1 = .ok (.getfield 22, 3) := by decide +kernel
theorem dX3_ropeCount_4 : decode cX3_ropeCount 4 = .ok (.ireturn, 1) := by decide +kernel
theorem dX3_ropeAt_0 : decode cX3_ropeAt 0 = .ok (.iload_n 1, 1) := by decide +kernel
theorem dX3_ropeAt_1 : decode cX3_ropeAt 1 = .ok (.ifCond .lt 29, 3) := by decide +kernel
theorem dX3_ropeAt_4 : decode cX3_ropeAt 4 = .ok (.iload_n 1, 1) := by decide +kernel
theorem dX3_ropeAt_5 : decode cX3_ropeAt 5 = .ok (.aload_n 0, 1) := by decide +kernel
theorem dX3_ropeAt_6 : decode cX3_ropeAt 6 = .ok (.getfield 22, 3) := by decide +kernel
theorem dX3_ropeAt_9 : decode cX3_ropeAt 9 = .ok (.if_icmp .ge 21, 3) := by decide +kernel
theorem dX3_ropeAt_12 : decode cX3_ropeAt 12 = .ok (.iload_n 1, 1) := by decide +kernel
theorem dX3_ropeAt_13 : decode cX3_ropeAt 13 = .ok (.aload_n 0, 1) := by decide +kernel
theorem dX3_ropeAt_14 : decode cX3_ropeAt 14 = .ok (.getfield 17, 3) := by decide +kernel
theorem dX3_ropeAt_17 : decode cX3_ropeAt 17 = .ok (.arraylength, 1) := by decide +kernel
theorem dX3_ropeAt_18 : decode cX3_ropeAt 18 = .ok (.if_icmp .ge 12, 3) := by decide +kernel
theorem dX3_ropeAt_21 : decode cX3_ropeAt 21 = .ok (.aload_n 0, 1) := by decide +kernel
theorem dX3_ropeAt_22 : decode cX3_ropeAt 22 = .ok (.getfield 17, 3) := by decide +kernel
theorem dX3_ropeAt_25 : decode cX3_ropeAt 25 = .ok (.iload_n 1, 1) := by decide +kernel
theorem dX3_ropeAt_26 : decode cX3_ropeAt 26 = .ok (.aaload, 1) := by decide +kernel
theorem dX3_ropeAt_27 : decode cX3_ropeAt 27 = .ok (.goto 4, 3) := by decide +kernel
theorem dX3_ropeAt_30 : decode cX3_ropeAt 30 = .ok (.aconst_null, 1) := by decide +kernel
theorem dX3_ropeAt_31 : decode cX3_ropeAt 31 = .ok (.areturn, 1) := by decide +kernel
theorem dX3_addRope_0 : decode cX3_addRope 0 = .ok (.aload_n 0, 1) := by decide +kernel
theorem dX3_addRope_1 : decode cX3_addRope 1 = .ok (.getfield 22, 3) := by decide +kernel
theorem dX3_addRope_4 : decode cX3_addRope 4 = .ok (.ifCond .lt 15, 3) := by decide +kernel
theorem dX3_addRope_7 : decode cX3_addRope 7 = .ok (.aload_n 0, 1) := by decide +kernel
theorem dX3_addRope_8 : decode cX3_addRope 8 = .ok (.getfield 22, 3) := by decide +kernel
theorem dX3_addRope_11 : decode cX3_addRope 11 = .ok (.aload_n 0, 1) := by decide +kernel
theorem dX3_addRope_12 : decode cX3_addRope 12 = .ok (.getfield 17, 3) := by decide +kernel
theorem dX3_addRope_15 : decode cX3_addRope 15 = .ok (.arraylength, 1) := by decide +kernel
theorem dX3_addRope_16 : decode cX3_addRope 16 = .ok (.if_icmp .lt 5, 3) := by decide +kernel
theorem dX3_addRope_19 : decode cX3_addRope 19 = .ok (.aconst_null, 1) := by decide +kernel
theorem dX3_addRope_20 : decode cX3_addRope 20 = .ok (.areturn, 1) := by decide +kernel
theorem dX3_addRope_21 : decode cX3_addRope 21 = .ok (.aload_n 0, 1) := by decide +kernel
theorem dX3_addRope_22 : decode cX3_addRope 22 = .ok (.dup, 1) := by decide +kernel
theorem dX3_addRope_23 : decode cX3_addRope 23 = .ok (.getfield 22, 3) := by decide +kernel
theorem dX3_addRope_26 : decode cX3_addRope 26 = .ok (.iconst 1, 1) := by decide +kernel
theorem dX3_addRope_27 : decode cX3_addRope 27 = .ok (.iadd, 1) := by decide +kernel
theorem dX3_addRope_28 : decode cX3_addRope 28 = .ok (.putfield 22, 3) := by decide +kernel
theorem dX3_addRope_31 : decode cX3_addRope 31 = .ok (.aload_n 0, 1) := by decide +kernel
theorem dX3_addRope_32 : decode cX3_addRope 32 = .ok (.aload_n 0, 1) := by decide +kernel
theorem dX3_addRope_33 : decode cX3_addRope 33 = .ok (.getfield 22, 3) := by decide +kernel
theorem dX3_addRope_36 : decode cX3_addRope 36 = .ok (.iconst 1, 1) := by decide +kernel
theorem dX3_addRope_37 : decode cX3_addRope 37 = .ok (.isub, 1) := by decide +kernel
theorem dX3_addRope_38 : decode cX3_addRope 38 = .ok (.invokevirtual 35, 3) := by decide +kernel
theorem dX3_addRope_41 : decode cX3_addRope 41 = .ok (.astore_n 2, 1) := by decide +kernel
theorem dX3_addRope_42 : decode cX3_addRope 42 = .ok (.aload_n 2, 1) := by decide +kernel
theorem dX3_addRope_43 : decode cX3_addRope 43 = .ok (.ifnull 8, 3) := by decide +kernel
theorem dX3_addRope_46 : decode cX3_addRope 46 = .ok (.aload_n 2, 1) := by decide +kernel
theorem dX3_addRope_47 : decode cX3_addRope 47 = .ok (.iload_n 1, 1) := by decide +kernel
theorem dX3_addRope_48 : decode cX3_addRope 48 = .ok (.invokevirtual 43, 3) := by decide +kernel
theorem dX3_addRope_51 : decode cX3_addRope 51 = .ok (.aload_n 2, 1) := by decide +kernel
theorem dX3_addRope_52 : decode cX3_addRope 52 = .ok (.areturn, 1) := by decide +kernel
theorem dX3_removeRope_0 : decode cX3_removeRope 0 = .ok (.aload_n 0, 1) := by decide +kernel
theorem dX3_removeRope_1 : decode cX3_removeRope 1 = .ok (.iload_n 1, 1) := by decide +kernel
theorem dX3_removeRope_2 : decode cX3_removeRope 2 = .ok (.invokevirtual 35, 3) := by decide +kernel
theorem dX3_removeRope_5 : decode cX3_removeRope 5 = .ok (.astore_n 2, 1) := by decide +kernel
theorem dX3_removeRope_6 : decode cX3_removeRope 6 = .ok (.aload_n 2, 1) := by decide +kernel
theorem dX3_removeRope_7 : decode cX3_removeRope 7 = .ok (.ifnonnull 4, 3) := by decide +kernel
theorem dX3_removeRope_10 : decode cX3_removeRope 10 = .ok (.return_, 1) := by decide +kernel
theorem dX3_removeRope_11 : decode cX3_removeRope 11 = .ok (.iload_n 1, 1) := by decide +kernel
theorem dX3_removeRope_12 : decode cX3_removeRope 12 = .ok (.iconst 1, 1) := by decide +kernel
theorem dX3_removeRope_13 : decode cX3_removeRope 13 = .ok (.iadd, 1) := by decide +kernel
theorem dX3_removeRope_14 : decode cX3_removeRope 14 = .ok (.istore_n 3, 1) := by decide +kernel
theorem dX3_removeRope_15 : decode cX3_removeRope 15 = .ok (.iload_n 3, 1) := by decide +kernel
theorem dX3_removeRope_16 : decode cX3_removeRope 16 = .ok (.aload_n 0, 1) := by decide +kernel
theorem dX3_removeRope_17 : decode cX3_removeRope 17 = .ok (.getfield 22, 3) := by decide +kernel
theorem dX3_removeRope_20 : decode cX3_removeRope 20 = .ok (.if_icmp .ge 32, 3) := by decide +kernel
theorem dX3_removeRope_23 : decode cX3_removeRope 23 = .ok (.iload_n 3, 1) := by decide +kernel
theorem dX3_removeRope_24 : decode cX3_removeRope 24 = .ok (.aload_n 0, 1) := by decide +kernel
theorem dX3_removeRope_25 : decode cX3_removeRope 25 = .ok (.getfield 17, 3) := by decide +kernel
theorem dX3_removeRope_28 : decode cX3_removeRope 28 = .ok (.arraylength, 1) := by decide +kernel
theorem dX3_removeRope_29 : decode cX3_removeRope 29 = .ok (.if_icmp .ge 23, 3) := by decide +kernel
theorem dX3_removeRope_32 : decode cX3_removeRope 32 = .ok (.aload_n 0, 1) := by decide +kernel
theorem dX3_removeRope_33 : decode cX3_removeRope 33 = .ok (.getfield 17, 3) := by decide +kernel
theorem dX3_removeRope_36 : decode cX3_removeRope 36 = .ok (.iload_n 3, 1) := by decide +kernel
theorem dX3_removeRope_37 : decode cX3_removeRope 37 = .ok (.iconst 1, 1) := by decide +kernel
theorem dX3_removeRope_38 : decode cX3_removeRope 38 = .ok (.isub, 1) := by decide +kernel
theorem dX3_removeRope_39 : decode cX3_removeRope 39 = .ok (.aload_n 0, 1) := by decide +kernel
theorem dX3_removeRope_40 : decode cX3_removeRope 40 = .ok (.getfield 17, 3) := by decide +kernel
theorem dX3_removeRope_43 : decode cX3_removeRope 43 = .ok (.iload_n 3, 1) := by decide +kernel
theorem dX3_removeRope_44 : decode cX3_removeRope 44 = .ok (.aaload, 1) := by decide +kernel
theorem dX3_removeRope_45 : decode cX3_removeRope 45 = .ok (.aastore, 1) := by decide +kernel
theorem dX3_removeRope_46 : decode cX3_removeRope 46 = .ok (.iinc 3 1, 3) := by decide +kernel
theorem dX3_removeRope_49 : decode cX3_removeRope 49 = .ok (.goto (-34), 3) := by decide +kernel
theorem dX3_removeRope_52 : decode cX3_removeRope 52 = .ok (.aload_n 0, 1) := by decide +kernel
theorem dX3_removeRope_53 : decode cX3_removeRope 53 = .ok (.dup, 1) := by decide +kernel
theorem dX3_removeRope_54 : decode cX3_removeRope 54 = .ok (.getfield 22, 3) := by decide +kernel
theorem dX3_removeRope_57 : decode cX3_removeRope 57 = .ok (.iconst 1, 1) := by decide +kernel
theorem dX3_removeRope_58 : decode cX3_removeRope 58 = .ok (.isub, 1) := by decide +kernel
theorem dX3_removeRope_59 : decode cX3_removeRope 59 = .ok (.putfield 22, 3) := by decide +kernel
theorem dX3_removeRope_62 : decode cX3_removeRope 62 = .ok (.aload_n 0, 1) := by decide +kernel
theorem dX3_removeRope_63 : decode cX3_removeRope 63 = .ok (.getfield 22, 3) := by decide +kernel
theorem dX3_removeRope_66 : decode cX3_removeRope 66 = .ok (.ifCond .lt 25, 3) := by decide +kernel
theorem dX3_removeRope_69 : decode cX3_removeRope 69 = .ok (.aload_n 0, 1) := by decide +kernel
theorem dX3_removeRope_70 : decode cX3_removeRope 70 = .ok (.getfield 22, 3) := by decide +kernel
theorem dX3_removeRope_73 : decode cX3_removeRope 73 = .ok (.aload_n 0, 1) := by decide +kernel
theorem dX3_removeRope_74 : decode cX3_removeRope 74 = .ok (.getfield 17, 3) := by decide +kernel
theorem dX3_removeRope_77 : decode cX3_removeRope 77 = .ok (.arraylength, 1) := by decide +kernel
theorem dX3_removeRope_78 : decode cX3_removeRope 78 = .ok (.if_icmp .ge 13, 3) := by decide +kernel
theorem dX3_removeRope_81 : decode cX3_removeRope 81 = .ok (.aload_n 0, 1) := by decide +kernel
theorem dX3_removeRope_82 : decode cX3_removeRope 82 = .ok (.getfield 17, 3) := by decide +kernel
theorem dX3_removeRope_85 : decode cX3_removeRope 85 = .ok (.aload_n 0, 1) := by decide +kernel
theorem dX3_removeRope_86 : decode cX3_removeRope 86 = .ok (.getfield 22, 3) := by decide +kernel
theorem dX3_removeRope_89 : decode cX3_removeRope 89 = .ok (.aload_n 2, 1) := by decide +kernel
theorem dX3_removeRope_90 : decode cX3_removeRope 90 = .ok (.aastore, 1) := by decide +kernel
theorem dX3_removeRope_91 : decode cX3_removeRope 91 = .ok (.return_, 1) := by decide +kernel
theorem dX3_layOn_0 : decode cX3_layOn 0 = .ok (.aload_n 0, 1) := by decide +kernel
theorem dX3_layOn_1 : decode cX3_layOn 1 = .ok (.dup, 1) := by decide +kernel
theorem dX3_layOn_2 : decode cX3_layOn 2 = .ok (.getfield 26, 3) := by decide +kernel
theorem dX3_layOn_5 : decode cX3_layOn 5 = .ok (.iconst 1, 1) := by decide +kernel
theorem dX3_layOn_6 : decode cX3_layOn 6 = .ok (.iadd, 1) := by decide +kernel
theorem dX3_layOn_7 : decode cX3_layOn 7 = .ok (.putfield 26, 3) := by decide +kernel
theorem dX3_layOn_10 : decode cX3_layOn 10 = .ok (.aload_n 1, 1) := by decide +kernel
theorem dX3_layOn_11 : decode cX3_layOn 11 = .ok (.iload_n 2, 1) := by decide +kernel
theorem dX3_layOn_12 : decode cX3_layOn 12 = .ok (.iload_n 3, 1) := by decide +kernel
theorem dX3_layOn_13 : decode cX3_layOn 13 = .ok (.aload_n 0, 1) := by decide +kernel
theorem dX3_layOn_14 : decode cX3_layOn 14 = .ok (.iload_n 2, 1) := by decide +kernel
theorem dX3_layOn_15 : decode cX3_layOn 15 = .ok (.invokevirtual 47, 3) := by decide +kernel
theorem dX3_layOn_18 : decode cX3_layOn 18 = .ok (.invokevirtual 51, 3) := by decide +kernel
theorem dX3_layOn_21 : decode cX3_layOn 21 = .ok (.ireturn, 1) := by decide +kernel
theorem dX3_countJoin_0 : decode cX3_countJoin 0 = .ok (.aload_n 0, 1) := by decide +kernel
theorem dX3_countJoin_1 : decode cX3_countJoin 1 = .ok (.dup, 1) := by decide +kernel
theorem dX3_countJoin_2 : decode cX3_countJoin 2 = .ok (.getfield 29, 3) := by decide +kernel
theorem dX3_countJoin_5 : decode cX3_countJoin 5 = .ok (.iconst 1, 1) := by decide +kernel
theorem dX3_countJoin_6 : decode cX3_countJoin 6 = .ok (.iadd, 1) := by decide +kernel
theorem dX3_countJoin_7 : decode cX3_countJoin 7 = .ok (.putfield 29, 3) := by decide +kernel
theorem dX3_countJoin_10 : decode cX3_countJoin 10 = .ok (.return_, 1) := by decide +kernel
theorem dX3_countCut_0 : decode cX3_countCut 0 = .ok (.aload_n 0, 1) := by decide +kernel
theorem dX3_countCut_1 : decode cX3_countCut 1 = .ok (.dup, 1) := by decide +kernel
theorem dX3_countCut_2 : decode cX3_countCut 2 = .ok (.getfield 32, 3) := by decide +kernel
theorem dX3_countCut_5 : decode cX3_countCut 5 = .ok (.iconst 1, 1) := by decide +kernel
theorem dX3_countCut_6 : decode cX3_countCut 6 = .ok (.iadd, 1) := by decide +kernel
theorem dX3_countCut_7 : decode cX3_countCut 7 = .ok (.putfield 32, 3) := by decide +kernel
theorem dX3_countCut_10 : decode cX3_countCut 10 = .ok (.return_, 1) := by decide +kernel
theorem dX3_layings_0 : decode cX3_layings 0 = .ok (.aload_n 0, 1) := by decide +kernel
theorem dX3_layings_1 : decode cX3_layings 1 = .ok (.getfield 26, 3) := by decide +kernel
theorem dX3_layings_4 : decode cX3_layings 4 = .ok (.ireturn, 1) := by decide +kernel
theorem dX3_joins_0 : decode cX3_joins 0 = .ok (.aload_n 0, 1) := by decide +kernel
theorem dX3_joins_1 : decode cX3_joins 1 = .ok (.getfield 29, 3) := by decide +kernel
theorem dX3_joins_4 : decode cX3_joins 4 = .ok (.ireturn, 1) := by decide +kernel
theorem dX3_cuts_0 : decode cX3_cuts 0 = .ok (.aload_n 0, 1) := by decide +kernel
theorem dX3_cuts_1 : decode cX3_cuts 1 = .ok (.getfield 32, 3) := by decide +kernel
theorem dX3_cuts_4 : decode cX3_cuts 4 = .ok (.ireturn, 1) := by decide +kernel
theorem dX3_places_0 : decode cX3_places 0 = .ok (.iconst 0, 1) := by decide +kernel
theorem dX3_places_1 : decode cX3_places 1 = .ok (.istore_n 1, 1) := by decide +kernel
theorem dX3_places_2 : decode cX3_places 2 = .ok (.iconst 0, 1) := by decide +kernel
theorem dX3_places_3 : decode cX3_places 3 = .ok (.istore_n 2, 1) := by decide +kernel
theorem dX3_places_4 : decode cX3_places 4 = .ok (.iload_n 2, 1) := by decide +kernel
theorem dX3_places_5 : decode cX3_places 5 = .ok (.aload_n 0, 1) := by decide +kernel
theorem dX3_places_6 : decode cX3_places 6 = .ok (.getfield 22, 3) := by decide +kernel
theorem dX3_places_9 : decode cX3_places 9 = .ok (.if_icmp .ge 30, 3) := by decide +kernel
theorem dX3_places_12 : decode cX3_places 12 = .ok (.aload_n 0, 1) := by decide +kernel
theorem dX3_places_13 : decode cX3_places 13 = .ok (.iload_n 2, 1) := by decide +kernel
theorem dX3_places_14 : decode cX3_places 14 = .ok (.invokevirtual 35, 3) := by decide +kernel
theorem dX3_places_17 : decode cX3_places 17 = .ok (.astore_n 3, 1) := by decide +kernel
theorem dX3_places_18 : decode cX3_places 18 = .ok (.iload_n 1, 1) := by decide +kernel
theorem dX3_places_19 : decode cX3_places 19 = .ok (.aload_n 3, 1) := by decide +kernel
theorem dX3_places_20 : decode cX3_places 20 = .ok (.ifnonnull 7, 3) := by decide +kernel
theorem dX3_places_23 : decode cX3_places 23 = .ok (.iconst 0, 1) := by decide +kernel
theorem dX3_places_24 : decode cX3_places 24 = .ok (.goto 7, 3) := by decide +kernel
theorem dX3_places_27 : decode cX3_places 27 = .ok (.aload_n 3, 1) := by decide +kernel
theorem dX3_places_28 : decode cX3_places 28 = .ok (.invokevirtual 55, 3) := by decide +kernel
theorem dX3_places_31 : decode cX3_places 31 = .ok (.iadd, 1) := by decide +kernel
theorem dX3_places_32 : decode cX3_places 32 = .ok (.istore_n 1, 1) := by decide +kernel
theorem dX3_places_33 : decode cX3_places 33 = .ok (.iinc 2 1, 3) := by decide +kernel
theorem dX3_places_36 : decode cX3_places 36 = .ok (.goto (-32), 3) := by decide +kernel
theorem dX3_places_39 : decode cX3_places 39 = .ok (.iload_n 1, 1) := by decide +kernel
theorem dX3_places_40 : decode cX3_places 40 = .ok (.ireturn, 1) := by decide +kernel
theorem dX3_holes_0 : decode cX3_holes 0 = .ok (.iconst 0, 1) := by decide +kernel
theorem dX3_holes_1 : decode cX3_holes 1 = .ok (.istore_n 1, 1) := by decide +kernel
theorem dX3_holes_2 : decode cX3_holes 2 = .ok (.iconst 0, 1) := by decide +kernel
theorem dX3_holes_3 : decode cX3_holes 3 = .ok (.istore_n 2, 1) := by decide +kernel
theorem dX3_holes_4 : decode cX3_holes 4 = .ok (.iload_n 2, 1) := by decide +kernel
theorem dX3_holes_5 : decode cX3_holes 5 = .ok (.aload_n 0, 1) := by decide +kernel
theorem dX3_holes_6 : decode cX3_holes 6 = .ok (.getfield 22, 3) := by decide +kernel
theorem dX3_holes_9 : decode cX3_holes 9 = .ok (.if_icmp .ge 31, 3) := by decide +kernel
theorem dX3_holes_12 : decode cX3_holes 12 = .ok (.aload_n 0, 1) := by decide +kernel
theorem dX3_holes_13 : decode cX3_holes 13 = .ok (.iload_n 2, 1) := by decide +kernel
theorem dX3_holes_14 : decode cX3_holes 14 = .ok (.invokevirtual 35, 3) := by decide +kernel
theorem dX3_holes_17 : decode cX3_holes 17 = .ok (.astore_n 3, 1) := by decide +kernel
theorem dX3_holes_18 : decode cX3_holes 18 = .ok (.iload_n 1, 1) := by decide +kernel
theorem dX3_holes_19 : decode cX3_holes 19 = .ok (.aload_n 3, 1) := by decide +kernel
theorem dX3_holes_20 : decode cX3_holes 20 = .ok (.ifnonnull 7, 3) := by decide +kernel
theorem dX3_holes_23 : decode cX3_holes 23 = .ok (.iconst 0, 1) := by decide +kernel
theorem dX3_holes_24 : decode cX3_holes 24 = .ok (.goto 8, 3) := by decide +kernel
theorem dX3_holes_27 : decode cX3_holes 27 = .ok (.aload_n 3, 1) := by decide +kernel
theorem dX3_holes_28 : decode cX3_holes 28 = .ok (.iconst (-1), 1) := by decide +kernel
theorem dX3_holes_29 : decode cX3_holes 29 = .ok (.invokevirtual 59, 3) := by decide +kernel
theorem dX3_holes_32 : decode cX3_holes 32 = .ok (.iadd, 1) := by decide +kernel
theorem dX3_holes_33 : decode cX3_holes 33 = .ok (.istore_n 1, 1) := by decide +kernel
theorem dX3_holes_34 : decode cX3_holes 34 = .ok (.iinc 2 1, 3) := by decide +kernel
theorem dX3_holes_37 : decode cX3_holes 37 = .ok (.goto (-33), 3) := by decide +kernel
theorem dX3_holes_40 : decode cX3_holes 40 = .ok (.iload_n 1, 1) := by decide +kernel
theorem dX3_holes_41 : decode cX3_holes 41 = .ok (.ireturn, 1) := by decide +kernel
theorem dX3_laidHues_0 : decode cX3_laidHues 0 = .ok (.iconst 0, 1) := by decide +kernel
theorem dX3_laidHues_1 : decode cX3_laidHues 1 = .ok (.istore_n 1, 1) := by decide +kernel
theorem dX3_laidHues_2 : decode cX3_laidHues 2 = .ok (.iconst 0, 1) := by decide +kernel
theorem dX3_laidHues_3 : decode cX3_laidHues 3 = .ok (.istore_n 2, 1) := by decide +kernel
theorem dX3_laidHues_4 : decode cX3_laidHues 4 = .ok (.iload_n 2, 1) := by decide +kernel
theorem dX3_laidHues_5 : decode cX3_laidHues 5 = .ok (.bipush 8, 2) := by decide +kernel
theorem dX3_laidHues_7 : decode cX3_laidHues 7 = .ok (.if_icmp .ge 20, 3) := by decide +kernel
theorem dX3_laidHues_10 : decode cX3_laidHues 10 = .ok (.aload_n 0, 1) := by decide +kernel
theorem dX3_laidHues_11 : decode cX3_laidHues 11 = .ok (.iload_n 2, 1) := by decide +kernel
theorem dX3_laidHues_12 : decode cX3_laidHues 12 = .ok (.invokevirtual 62, 3) := by decide +kernel
theorem dX3_laidHues_15 : decode cX3_laidHues 15 = .ok (.ifCond .eq 6, 3) := by decide +kernel
theorem dX3_laidHues_18 : decode cX3_laidHues 18 = .ok (.iinc 1 1, 3) := by decide +kernel
theorem dX3_laidHues_21 : decode cX3_laidHues 21 = .ok (.iinc 2 1, 3) := by decide +kernel
theorem dX3_laidHues_24 : decode cX3_laidHues 24 = .ok (.goto (-20), 3) := by decide +kernel
theorem dX3_laidHues_27 : decode cX3_laidHues 27 = .ok (.iload_n 1, 1) := by decide +kernel
theorem dX3_laidHues_28 : decode cX3_laidHues 28 = .ok (.ireturn, 1) := by decide +kernel
theorem dX3_isLaidOnSome_0 : decode cX3_isLaidOnSome 0 = .ok (.iconst 0, 1) := by decide +kernel
theorem dX3_isLaidOnSome_1 : decode cX3_isLaidOnSome 1 = .ok (.istore_n 2, 1) := by decide +kernel
theorem dX3_isLaidOnSome_2 : decode cX3_isLaidOnSome 2 = .ok (.iload_n 2, 1) := by decide +kernel
theorem dX3_isLaidOnSome_3 : decode cX3_isLaidOnSome 3 = .ok (.aload_n 0, 1) := by decide +kernel
theorem dX3_isLaidOnSome_4 : decode cX3_isLaidOnSome 4 = .ok (.getfield 22, 3) := by decide +kernel
theorem dX3_isLaidOnSome_7 : decode cX3_isLaidOnSome 7 = .ok (.if_icmp .ge 30, 3) := by decide +kernel
theorem dX3_isLaidOnSome_10 : decode cX3_isLaidOnSome 10 = .ok (.aload_n 0, 1) := by decide +kernel
theorem dX3_isLaidOnSome_11 : decode cX3_isLaidOnSome 11 = .ok (.iload_n 2, 1) := by decide +kernel
theorem dX3_isLaidOnSome_12 : decode cX3_isLaidOnSome 12 = .ok (.invokevirtual 35, 3) := by decide +kernel
theorem dX3_isLaidOnSome_15 : decode cX3_isLaidOnSome 15 = .ok (.astore_n 3, 1) := by decide +kernel
theorem dX3_isLaidOnSome_16 : decode cX3_isLaidOnSome 16 = .ok (.aload_n 3, 1) := by decide +kernel
theorem dX3_isLaidOnSome_17 : decode cX3_isLaidOnSome 17 = .ok (.ifnull 14, 3) := by decide +kernel
theorem dX3_isLaidOnSome_20 : decode cX3_isLaidOnSome 20 = .ok (.aload_n 3, 1) := by decide +kernel
theorem dX3_isLaidOnSome_21 : decode cX3_isLaidOnSome 21 = .ok (.iload_n 1, 1) := by decide +kernel
theorem dX3_isLaidOnSome_22 : decode cX3_isLaidOnSome 22 = .ok (.invokevirtual 66, 3) := by decide +kernel
theorem dX3_isLaidOnSome_25 : decode cX3_isLaidOnSome 25 = .ok (.iconst (-1), 1) := by decide +kernel
theorem dX3_isLaidOnSome_26 : decode cX3_isLaidOnSome 26 = .ok (.if_icmp .eq 5, 3) := by decide +kernel
theorem dX3_isLaidOnSome_29 : decode cX3_isLaidOnSome 29 = .ok (.iconst 1, 1) := by decide +kernel
theorem dX3_isLaidOnSome_30 : decode cX3_isLaidOnSome 30 = .ok (.ireturn, 1) := by decide +kernel
theorem dX3_isLaidOnSome_31 : decode cX3_isLaidOnSome 31 = .ok (.iinc 2 1, 3) := by decide +kernel
theorem dX3_isLaidOnSome_34 : decode cX3_isLaidOnSome 34 = .ok (.goto (-32), 3) := by decide +kernel
theorem dX3_isLaidOnSome_37 : decode cX3_isLaidOnSome 37 = .ok (.iconst 0, 1) := by decide +kernel
theorem dX3_isLaidOnSome_38 : decode cX3_isLaidOnSome 38 = .ok (.ireturn, 1) := by decide +kernel
theorem dX4_init_0 : decode cX4_init 0 = .ok (.aload_n 0, 1) := by decide +kernel
theorem dX4_init_1 : decode cX4_init 1 = .ok (.invokespecial 3, 3) := by decide +kernel
theorem dX4_init_4 : decode cX4_init 4 = .ok (.aload_n 0, 1) := by decide +kernel
theorem dX4_init_5 : decode cX4_init 5 = .ok (.bipush 60, 2) := by decide +kernel
theorem dX4_init_7 : decode cX4_init 7 = .ok (.newarray .int, 2) := by decide +kernel
theorem dX4_init_9 : decode cX4_init 9 = .ok (.putfield 9, 3) := by decide +kernel
theorem dX4_init_12 : decode cX4_init 12 = .ok (.aload_n 0, 1) := by decide +kernel
theorem dX4_init_13 : decode cX4_init 13 = .ok (.iconst 0, 1) := by decide +kernel
theorem dX4_init_14 : decode cX4_init 14 = .ok (.putfield 15, 3) := by decide +kernel
theorem dX4_init_17 : decode cX4_init 17 = .ok (.return_, 1) := by decide +kernel
theorem dX4_length_0 : decode cX4_length 0 = .ok (.aload_n 0, 1) := by decide +kernel
theorem dX4_length_1 : decode cX4_length 1 = .ok (.getfield 15, 3) := by decide +kernel
theorem dX4_length_4 : decode cX4_length 4 = .ok (.ireturn, 1) := by decide +kernel
theorem dX4_isFull_0 : decode cX4_isFull 0 = .ok (.aload_n 0, 1) := by decide +kernel
theorem dX4_isFull_1 : decode cX4_isFull 1 = .ok (.getfield 15, 3) := by decide +kernel
theorem dX4_isFull_4 : decode cX4_isFull 4 = .ok (.aload_n 0, 1) := by decide +kernel
theorem dX4_isFull_5 : decode cX4_isFull 5 = .ok (.getfield 9, 3) := by decide +kernel
theorem dX4_isFull_8 : decode cX4_isFull 8 = .ok (.arraylength, 1) := by decide +kernel
theorem dX4_isFull_9 : decode cX4_isFull 9 = .ok (.if_icmp .lt 7, 3) := by decide +kernel
theorem dX4_isFull_12 : decode cX4_isFull 12 = .ok (.iconst 1, 1) := by decide +kernel
theorem dX4_isFull_13 : decode cX4_isFull 13 = .ok (.goto 4, 3) := by decide +kernel
theorem dX4_isFull_16 : decode cX4_isFull 16 = .ok (.iconst 0, 1) := by decide +kernel
theorem dX4_isFull_17 : decode cX4_isFull 17 = .ok (.ireturn, 1) := by decide +kernel
theorem dX4_add_0 : decode cX4_add 0 = .ok (.aload_n 0, 1) := by decide +kernel
theorem dX4_add_1 : decode cX4_add 1 = .ok (.getfield 15, 3) := by decide +kernel
theorem dX4_add_4 : decode cX4_add 4 = .ok (.ifCond .lt 35, 3) := by decide +kernel
theorem dX4_add_7 : decode cX4_add 7 = .ok (.aload_n 0, 1) := by decide +kernel
theorem dX4_add_8 : decode cX4_add 8 = .ok (.getfield 15, 3) := by decide +kernel
theorem dX4_add_11 : decode cX4_add 11 = .ok (.aload_n 0, 1) := by decide +kernel
theorem dX4_add_12 : decode cX4_add 12 = .ok (.getfield 9, 3) := by decide +kernel
theorem dX4_add_15 : decode cX4_add 15 = .ok (.arraylength, 1) := by decide +kernel
theorem dX4_add_16 : decode cX4_add 16 = .ok (.if_icmp .ge 23, 3) := by decide +kernel
theorem dX4_add_19 : decode cX4_add 19 = .ok (.aload_n 0, 1) := by decide +kernel
theorem dX4_add_20 : decode cX4_add 20 = .ok (.getfield 9, 3) := by decide +kernel
theorem dX4_add_23 : decode cX4_add 23 = .ok (.aload_n 0, 1) := by decide +kernel
theorem dX4_add_24 : decode cX4_add 24 = .ok (.getfield 15, 3) := by decide +kernel
theorem dX4_add_27 : decode cX4_add 27 = .ok (.iload_n 1, 1) := by decide +kernel
theorem dX4_add_28 : decode cX4_add 28 = .ok (.iastore, 1) := by decide +kernel
theorem dX4_add_29 : decode cX4_add 29 = .ok (.aload_n 0, 1) := by decide +kernel
theorem dX4_add_30 : decode cX4_add 30 = .ok (.dup, 1) := by decide +kernel
theorem dX4_add_31 : decode cX4_add 31 = .ok (.getfield 15, 3) := by decide +kernel
theorem dX4_add_34 : decode cX4_add 34 = .ok (.iconst 1, 1) := by decide +kernel
theorem dX4_add_35 : decode cX4_add 35 = .ok (.iadd, 1) := by decide +kernel
theorem dX4_add_36 : decode cX4_add 36 = .ok (.putfield 15, 3) := by decide +kernel
theorem dX4_add_39 : decode cX4_add 39 = .ok (.return_, 1) := by decide +kernel
theorem dX4_empty_0 : decode cX4_empty 0 = .ok (.aload_n 0, 1) := by decide +kernel
theorem dX4_empty_1 : decode cX4_empty 1 = .ok (.iconst 0, 1) := by decide +kernel
theorem dX4_empty_2 : decode cX4_empty 2 = .ok (.putfield 15, 3) := by decide +kernel
theorem dX4_empty_5 : decode cX4_empty 5 = .ok (.return_, 1) := by decide +kernel
theorem dX4_codeAt_0 : decode cX4_codeAt 0 = .ok (.iload_n 1, 1) := by decide +kernel
theorem dX4_codeAt_1 : decode cX4_codeAt 1 = .ok (.ifCond .lt 29, 3) := by decide +kernel
theorem dX4_codeAt_4 : decode cX4_codeAt 4 = .ok (.iload_n 1, 1) := by decide +kernel
theorem dX4_codeAt_5 : decode cX4_codeAt 5 = .ok (.aload_n 0, 1) := by decide +kernel
theorem dX4_codeAt_6 : decode cX4_codeAt 6 = .ok (.getfield 15, 3) := by decide +kernel
theorem dX4_codeAt_9 : decode cX4_codeAt 9 = .ok (.if_icmp .ge 21, 3) := by decide +kernel
theorem dX4_codeAt_12 : decode cX4_codeAt 12 = .ok (.iload_n 1, 1) := by decide +kernel
theorem dX4_codeAt_13 : decode cX4_codeAt 13 = .ok (.aload_n 0, 1) := by decide +kernel
theorem dX4_codeAt_14 : decode cX4_codeAt 14 = .ok (.getfield 9, 3) := by decide +kernel
theorem dX4_codeAt_17 : decode cX4_codeAt 17 = .ok (.arraylength, 1) := by decide +kernel
theorem dX4_codeAt_18 : decode cX4_codeAt 18 = .ok (.if_icmp .ge 12, 3) := by decide +kernel
theorem dX4_codeAt_21 : decode cX4_codeAt 21 = .ok (.aload_n 0, 1) := by decide +kernel
theorem dX4_codeAt_22 : decode cX4_codeAt 22 = .ok (.getfield 9, 3) := by decide +kernel
theorem dX4_codeAt_25 : decode cX4_codeAt 25 = .ok (.iload_n 1, 1) := by decide +kernel
theorem dX4_codeAt_26 : decode cX4_codeAt 26 = .ok (.iaload, 1) := by decide +kernel
theorem dX4_codeAt_27 : decode cX4_codeAt 27 = .ok (.goto 4, 3) := by decide +kernel
theorem dX4_codeAt_30 : decode cX4_codeAt 30 = .ok (.iconst (-1), 1) := by decide +kernel
theorem dX4_codeAt_31 : decode cX4_codeAt 31 = .ok (.ireturn, 1) := by decide +kernel
theorem dX4_firstWrong_0 : decode cX4_firstWrong 0 = .ok (.iconst 0, 1) := by decide +kernel
theorem dX4_firstWrong_1 : decode cX4_firstWrong 1 = .ok (.istore_n 1, 1) := by decide +kernel
theorem dX4_firstWrong_2 : decode cX4_firstWrong 2 = .ok (.iconst 0, 1) := by decide +kernel
theorem dX4_firstWrong_3 : decode cX4_firstWrong 3 = .ok (.istore_n 2, 1) := by decide +kernel
theorem dX4_firstWrong_4 : decode cX4_firstWrong 4 = .ok (.iload_n 2, 1) := by decide +kernel
theorem dX4_firstWrong_5 : decode cX4_firstWrong 5 = .ok (.aload_n 0, 1) := by decide +kernel
theorem dX4_firstWrong_6 : decode cX4_firstWrong 6 = .ok (.getfield 15, 3) := by decide +kernel
theorem dX4_firstWrong_9 : decode cX4_firstWrong 9 = .ok (.if_icmp .ge 27, 3) := by decide +kernel
theorem dX4_firstWrong_12 : decode cX4_firstWrong 12 = .ok (.iload_n 1, 1) := by decide +kernel
theorem dX4_firstWrong_13 : decode cX4_firstWrong 13 = .ok (.aload_n 0, 1) := by decide +kernel
theorem dX4_firstWrong_14 : decode cX4_firstWrong 14 = .ok (.iload_n 2, 1) := by decide +kernel
theorem dX4_firstWrong_15 : decode cX4_firstWrong 15 = .ok (.invokevirtual 19, 3) := by decide +kernel
theorem dX4_firstWrong_18 : decode cX4_firstWrong 18 = .ok (.invokestatic 23, 3) := by decide +kernel
theorem dX4_firstWrong_21 : decode cX4_firstWrong 21 = .ok (.istore_n 1, 1) := by decide +kernel
theorem dX4_firstWrong_22 : decode cX4_firstWrong 22 = .ok (.iload_n 1, 1) := by decide +kernel
theorem dX4_firstWrong_23 : decode cX4_firstWrong 23 = .ok (.bipush 7, 2) := by decide +kernel
theorem dX4_firstWrong_25 : decode cX4_firstWrong 25 = .ok (.if_icmp .ne 5, 3) := by decide +kernel
theorem dX4_firstWrong_28 : decode cX4_firstWrong 28 = .ok (.iload_n 2, 1) := by decide +kernel
theorem dX4_firstWrong_29 : decode cX4_firstWrong 29 = .ok (.ireturn, 1) := by decide +kernel
theorem dX4_firstWrong_30 : decode cX4_firstWrong 30 = .ok (.iinc 2 1, 3) := by decide +kernel
theorem dX4_firstWrong_33 : decode cX4_firstWrong 33 = .ok (.goto (-29), 3) := by decide +kernel
theorem dX4_firstWrong_36 : decode cX4_firstWrong 36 = .ok (.aload_n 0, 1) := by decide +kernel
theorem dX4_firstWrong_37 : decode cX4_firstWrong 37 = .ok (.getfield 15, 3) := by decide +kernel
theorem dX4_firstWrong_40 : decode cX4_firstWrong 40 = .ok (.ireturn, 1) := by decide +kernel
theorem dX4_isComplete_0 : decode cX4_isComplete 0 = .ok (.iconst 0, 1) := by decide +kernel
theorem dX4_isComplete_1 : decode cX4_isComplete 1 = .ok (.istore_n 1, 1) := by decide +kernel
theorem dX4_isComplete_2 : decode cX4_isComplete 2 = .ok (.iconst 0, 1) := by decide +kernel
theorem dX4_isComplete_3 : decode cX4_isComplete 3 = .ok (.istore_n 2, 1) := by decide +kernel
theorem dX4_isComplete_4 : decode cX4_isComplete 4 = .ok (.iload_n 2, 1) := by decide +kernel
theorem dX4_isComplete_5 : decode cX4_isComplete 5 = .ok (.aload_n 0, 1) := by decide +kernel
theorem dX4_isComplete_6 : decode cX4_isComplete 6 = .ok (.getfield 15, 3) := by decide +kernel
theorem dX4_isComplete_9 : decode cX4_isComplete 9 = .ok (.if_icmp .ge 19, 3) := by decide +kernel
theorem dX4_isComplete_12 : decode cX4_isComplete 12 = .ok (.iload_n 1, 1) := by decide +kernel
theorem dX4_isComplete_13 : decode cX4_isComplete 13 = .ok (.aload_n 0, 1) := by decide +kernel
theorem dX4_isComplete_14 : decode cX4_isComplete 14 = .ok (.iload_n 2, 1) := by decide +kernel
theorem dX4_isComplete_15 : decode cX4_isComplete 15 = .ok (.invokevirtual 19, 3) := by decide +kernel
theorem dX4_isComplete_18 : decode cX4_isComplete 18 = .ok (.invokestatic 23, 3) := by decide +kernel
theorem dX4_isComplete_21 : decode cX4_isComplete 21 = .ok (.istore_n 1, 1) := by decide +kernel
theorem dX4_isComplete_22 : decode cX4_isComplete 22 = .ok (.iinc 2 1, 3) := by decide +kernel
theorem dX4_isComplete_25 : decode cX4_isComplete 25 = .ok (.goto (-21), 3) := by decide +kernel
theorem dX4_isComplete_28 : decode cX4_isComplete 28 = .ok (.iload_n 1, 1) := by decide +kernel
theorem dX4_isComplete_29 : decode cX4_isComplete 29 = .ok (.iconst 4, 1) := by decide +kernel
theorem dX4_isComplete_30 : decode cX4_isComplete 30 = .ok (.if_icmp .eq 14, 3) := by decide +kernel
theorem dX4_isComplete_33 : decode cX4_isComplete 33 = .ok (.iload_n 1, 1) := by decide +kernel
theorem dX4_isComplete_34 : decode cX4_isComplete 34 = .ok (.iconst 5, 1) := by decide +kernel
theorem dX4_isComplete_35 : decode cX4_isComplete 35 = .ok (.if_icmp .eq 9, 3) := by decide +kernel
theorem dX4_isComplete_38 : decode cX4_isComplete 38 = .ok (.iload_n 1, 1) := by decide +kernel
theorem dX4_isComplete_39 : decode cX4_isComplete 39 = .ok (.bipush 6, 2) := by decide +kernel
theorem dX4_isComplete_41 : decode cX4_isComplete 41 = .ok (.if_icmp .ne 7, 3) := by decide +kernel
theorem dX4_isComplete_44 : decode cX4_isComplete 44 = .ok (.iconst 1, 1) := by decide +kernel
theorem dX4_isComplete_45 : decode cX4_isComplete 45 = .ok (.goto 4, 3) := by decide +kernel
theorem dX4_isComplete_48 : decode cX4_isComplete 48 = .ok (.iconst 0, 1) := by decide +kernel
theorem dX4_isComplete_49 : decode cX4_isComplete 49 = .ok (.ireturn, 1) := by decide +kernel
theorem dX4_partEnd_0 : decode cX4_partEnd 0 = .ok (.iload_n 1, 1) := by decide +kernel
theorem dX4_partEnd_1 : decode cX4_partEnd 1 = .ok (.istore_n 2, 1) := by decide +kernel
theorem dX4_partEnd_2 : decode cX4_partEnd 2 = .ok (.iload_n 2, 1) := by decide +kernel
theorem dX4_partEnd_3 : decode cX4_partEnd 3 = .ok (.aload_n 0, 1) := by decide +kernel
theorem dX4_partEnd_4 : decode cX4_partEnd 4 = .ok (.getfield 15, 3) := by decide +kernel
theorem dX4_partEnd_7 : decode cX4_partEnd 7 = .ok (.if_icmp .ge 21, 3) := by decide +kernel
theorem dX4_partEnd_10 : decode cX4_partEnd 10 = .ok (.aload_n 0, 1) := by decide +kernel
theorem dX4_partEnd_11 : decode cX4_partEnd 11 = .ok (.iload_n 2, 1) := by decide +kernel
theorem dX4_partEnd_12 : decode cX4_partEnd 12 = .ok (.invokevirtual 19, 3) := by decide +kernel
theorem dX4_partEnd_15 : decode cX4_partEnd 15 = .ok (.bipush 44, 2) := by decide +kernel
theorem dX4_partEnd_17 : decode cX4_partEnd 17 = .ok (.if_icmp .ne 5, 3) := by decide +kernel
theorem dX4_partEnd_20 : decode cX4_partEnd 20 = .ok (.iload_n 2, 1) := by decide +kernel
theorem dX4_partEnd_21 : decode cX4_partEnd 21 = .ok (.ireturn, 1) := by decide +kernel
theorem dX4_partEnd_22 : decode cX4_partEnd 22 = .ok (.iinc 2 1, 3) := by decide +kernel
theorem dX4_partEnd_25 : decode cX4_partEnd 25 = .ok (.goto (-23), 3) := by decide +kernel
theorem dX4_partEnd_28 : decode cX4_partEnd 28 = .ok (.aload_n 0, 1) := by decide +kernel
theorem dX4_partEnd_29 : decode cX4_partEnd 29 = .ok (.getfield 15, 3) := by decide +kernel
theorem dX4_partEnd_32 : decode cX4_partEnd 32 = .ok (.ireturn, 1) := by decide +kernel
theorem dX4_numberIn_0 : decode cX4_numberIn 0 = .ok (.iconst 0, 1) := by decide +kernel
theorem dX4_numberIn_1 : decode cX4_numberIn 1 = .ok (.istore_n 3, 1) := by decide +kernel
theorem dX4_numberIn_2 : decode cX4_numberIn 2 = .ok (.iload_n 1, 1) := by decide +kernel
theorem dX4_numberIn_3 : decode cX4_numberIn 3 = .ok (.istore 4, 2) := by decide +kernel
theorem dX4_numberIn_5 : decode cX4_numberIn 5 = .ok (.iload 4, 2) := by decide +kernel
theorem dX4_numberIn_7 : decode cX4_numberIn 7 = .ok (.iload_n 2, 1) := by decide +kernel
theorem dX4_numberIn_8 : decode cX4_numberIn 8 = .ok (.if_icmp .ge 24, 3) := by decide +kernel
theorem dX4_numberIn_11 : decode cX4_numberIn 11 = .ok (.bipush 10, 2) := by decide +kernel
theorem dX4_numberIn_13 : decode cX4_numberIn 13 = .ok (.iload_n 3, 1) := by decide +kernel
theorem dX4_numberIn_14 : decode cX4_numberIn 14 = .ok (.imul, 1) := by decide +kernel
theorem dX4_numberIn_15 : decode cX4_numberIn 15 = .ok (.aload_n 0, 1) := by decide +kernel
theorem dX4_numberIn_16 : decode cX4_numberIn 16 = .ok (.iload 4, 2) := by decide +kernel
theorem dX4_numberIn_18 : decode cX4_numberIn 18 = .ok (.invokevirtual 19, 3) := by decide +kernel
theorem dX4_numberIn_21 : decode cX4_numberIn 21 = .ok (.iadd, 1) := by decide +kernel
theorem dX4_numberIn_22 : decode cX4_numberIn 22 = .ok (.bipush 48, 2) := by decide +kernel
theorem dX4_numberIn_24 : decode cX4_numberIn 24 = .ok (.isub, 1) := by decide +kernel
theorem dX4_numberIn_25 : decode cX4_numberIn 25 = .ok (.istore_n 3, 1) := by decide +kernel
theorem dX4_numberIn_26 : decode cX4_numberIn 26 = .ok (.iinc 4 1, 3) := by decide +kernel
theorem dX4_numberIn_29 : decode cX4_numberIn 29 = .ok (.goto (-24), 3) := by decide +kernel
theorem dX4_numberIn_32 : decode cX4_numberIn 32 = .ok (.iload_n 3, 1) := by decide +kernel
theorem dX4_numberIn_33 : decode cX4_numberIn 33 = .ok (.ireturn, 1) := by decide +kernel
theorem dX4_dueBehind_0 : decode cX4_dueBehind 0 = .ok (.iload_n 0, 1) := by decide +kernel
theorem dX4_dueBehind_1 : decode cX4_dueBehind 1 = .ok (.tableswitch 115 0 6 #[43, 48, 53, 58, 73, 94, 110], 43) := by decide +kernel
theorem dX4_dueBehind_44 : decode cX4_dueBehind 44 = .ok (.iload_n 1, 1) := by decide +kernel
theorem dX4_dueBehind_45 : decode cX4_dueBehind 45 = .ok (.invokestatic 27, 3) := by decide +kernel
theorem dX4_dueBehind_48 : decode cX4_dueBehind 48 = .ok (.ireturn, 1) := by decide +kernel
theorem dX4_dueBehind_49 : decode cX4_dueBehind 49 = .ok (.iload_n 1, 1) := by decide +kernel
theorem dX4_dueBehind_50 : decode cX4_dueBehind 50 = .ok (.invokestatic 30, 3) := by decide +kernel
theorem dX4_dueBehind_53 : decode cX4_dueBehind 53 = .ok (.ireturn, 1) := by decide +kernel
theorem dX4_dueBehind_54 : decode cX4_dueBehind 54 = .ok (.iload_n 1, 1) := by decide +kernel
theorem dX4_dueBehind_55 : decode cX4_dueBehind 55 = .ok (.invokestatic 33, 3) := by decide +kernel
theorem dX4_dueBehind_58 : decode cX4_dueBehind 58 = .ok (.ireturn, 1) := by decide +kernel
theorem dX4_dueBehind_59 : decode cX4_dueBehind 59 = .ok (.iload_n 1, 1) := by decide +kernel
theorem dX4_dueBehind_60 : decode cX4_dueBehind 60 = .ok (.invokestatic 36, 3) := by decide +kernel
theorem dX4_dueBehind_63 : decode cX4_dueBehind 63 = .ok (.ifCond .eq 8, 3) := by decide +kernel
theorem dX4_dueBehind_66 : decode cX4_dueBehind 66 = .ok (.bipush 6, 2) := by decide +kernel
theorem dX4_dueBehind_68 : decode cX4_dueBehind 68 = .ok (.goto 5, 3) := by decide +kernel
theorem dX4_dueBehind_71 : decode cX4_dueBehind 71 = .ok (.bipush 7, 2) := by decide +kernel
theorem dX4_dueBehind_73 : decode cX4_dueBehind 73 = .ok (.ireturn, 1) := by decide +kernel
theorem dX4_dueBehind_74 : decode cX4_dueBehind 74 = .ok (.iload_n 1, 1) := by decide +kernel
theorem dX4_dueBehind_75 : decode cX4_dueBehind 75 = .ok (.bipush 48, 2) := by decide +kernel
theorem dX4_dueBehind_77 : decode cX4_dueBehind 77 = .ok (.bipush 57, 2) := by decide +kernel
theorem dX4_dueBehind_79 : decode cX4_dueBehind 79 = .ok (.invokestatic 40, 3) := by decide +kernel
theorem dX4_dueBehind_82 : decode cX4_dueBehind 82 = .ok (.ifCond .eq 8, 3) := by decide +kernel
theorem dX4_dueBehind_85 : decode cX4_dueBehind 85 = .ok (.bipush 6, 2) := by decide +kernel
theorem dX4_dueBehind_87 : decode cX4_dueBehind 87 = .ok (.goto 7, 3) := by decide +kernel
theorem dX4_dueBehind_90 : decode cX4_dueBehind 90 = .ok (.iload_n 1, 1) := by decide +kernel
theorem dX4_dueBehind_91 : decode cX4_dueBehind 91 = .ok (.invokestatic 44, 3) := by decide +kernel
theorem dX4_dueBehind_94 : decode cX4_dueBehind 94 = .ok (.ireturn, 1) := by decide +kernel
theorem dX4_dueBehind_95 : decode cX4_dueBehind 95 = .ok (.iload_n 1, 1) := by decide +kernel
theorem dX4_dueBehind_96 : decode cX4_dueBehind 96 = .ok (.bipush 48, 2) := by decide +kernel
theorem dX4_dueBehind_98 : decode cX4_dueBehind 98 = .ok (.if_icmp .ne 8, 3) := by decide +kernel
theorem dX4_dueBehind_101 : decode cX4_dueBehind 101 = .ok (.bipush 6, 2) := by decide +kernel
theorem dX4_dueBehind_103 : decode cX4_dueBehind 103 = .ok (.goto 7, 3) := by decide +kernel
theorem dX4_dueBehind_106 : decode cX4_dueBehind 106 = .ok (.iload_n 1, 1) := by decide +kernel
theorem dX4_dueBehind_107 : decode cX4_dueBehind 107 = .ok (.invokestatic 44, 3) := by decide +kernel
theorem dX4_dueBehind_110 : decode cX4_dueBehind 110 = .ok (.ireturn, 1) := by decide +kernel
theorem dX4_dueBehind_111 : decode cX4_dueBehind 111 = .ok (.iload_n 1, 1) := by decide +kernel
theorem dX4_dueBehind_112 : decode cX4_dueBehind 112 = .ok (.invokestatic 44, 3) := by decide +kernel
theorem dX4_dueBehind_115 : decode cX4_dueBehind 115 = .ok (.ireturn, 1) := by decide +kernel
theorem dX4_dueBehind_116 : decode cX4_dueBehind 116 = .ok (.bipush 7, 2) := by decide +kernel
theorem dX4_dueBehind_118 : decode cX4_dueBehind 118 = .ok (.ireturn, 1) := by decide +kernel
theorem dX4_dueBehindFirst_0 : decode cX4_dueBehindFirst 0 = .ok (.iload_n 0, 1) := by decide +kernel
theorem dX4_dueBehindFirst_1 : decode cX4_dueBehindFirst 1 = .ok (.invokestatic 36, 3) := by decide +kernel
theorem dX4_dueBehindFirst_4 : decode cX4_dueBehindFirst 4 = .ok (.ifCond .eq 5, 3) := by decide +kernel
theorem dX4_dueBehindFirst_7 : decode cX4_dueBehindFirst 7 = .ok (.iconst 2, 1) := by decide +kernel
theorem dX4_dueBehindFirst_8 : decode cX4_dueBehindFirst 8 = .ok (.ireturn, 1) := by decide +kernel
theorem dX4_dueBehindFirst_9 : decode cX4_dueBehindFirst 9 = .ok (.iload_n 0, 1) := by decide +kernel
theorem dX4_dueBehindFirst_10 : decode cX4_dueBehindFirst 10 = .ok (.lookupswitch 41 #[(45, 36), (60, 38), (114, 34)], 34) := by decide +kernel
theorem dX4_dueBehindFirst_44 : decode cX4_dueBehindFirst 44 = .ok (.iconst 1, 1) := by decide +kernel
theorem dX4_dueBehindFirst_45 : decode cX4_dueBehindFirst 45 = .ok (.ireturn, 1) := by decide +kernel
theorem dX4_dueBehindFirst_46 : decode cX4_dueBehindFirst 46 = .ok (.iconst 3, 1) := by decide +kernel
theorem dX4_dueBehindFirst_47 : decode cX4_dueBehindFirst 47 = .ok (.ireturn, 1) := by decide +kernel
theorem dX4_dueBehindFirst_48 : decode cX4_dueBehindFirst 48 = .ok (.bipush 6, 2) := by decide +kernel
theorem dX4_dueBehindFirst_50 : decode cX4_dueBehindFirst 50 = .ok (.ireturn, 1) := by decide +kernel
theorem dX4_dueBehindFirst_51 : decode cX4_dueBehindFirst 51 = .ok (.bipush 7, 2) := by decide +kernel
theorem dX4_dueBehindFirst_53 : decode cX4_dueBehindFirst 53 = .ok (.ireturn, 1) := by decide +kernel
theorem dX4_dueBehindLengthDigit_0 : decode cX4_dueBehindLengthDigit 0 = .ok (.iload_n 0, 1) := by decide +kernel
theorem dX4_dueBehindLengthDigit_1 : decode cX4_dueBehindLengthDigit 1 = .ok (.bipush 54, 2) := by decide +kernel
theorem dX4_dueBehindLengthDigit_3 : decode cX4_dueBehindLengthDigit 3 = .ok (.if_icmp .ne 5, 3) := by decide +kernel
theorem dX4_dueBehindLengthDigit_6 : decode cX4_dueBehindLengthDigit 6 = .ok (.iconst 5, 1) := by decide +kernel
theorem dX4_dueBehindLengthDigit_7 : decode cX4_dueBehindLengthDigit 7 = .ok (.ireturn, 1) := by decide +kernel
theorem dX4_dueBehindLengthDigit_8 : decode cX4_dueBehindLengthDigit 8 = .ok (.iload_n 0, 1) := by decide +kernel
theorem dX4_dueBehindLengthDigit_9 : decode cX4_dueBehindLengthDigit 9 = .ok (.bipush 49, 2) := by decide +kernel
theorem dX4_dueBehindLengthDigit_11 : decode cX4_dueBehindLengthDigit 11 = .ok (.bipush 53, 2) := by decide +kernel
theorem dX4_dueBehindLengthDigit_13 : decode cX4_dueBehindLengthDigit 13 = .ok (.invokestatic 40, 3) := by decide +kernel
theorem dX4_dueBehindLengthDigit_16 : decode cX4_dueBehindLengthDigit 16 = .ok (.ifCond .eq 5, 3) := by decide +kernel
theorem dX4_dueBehindLengthDigit_19 : decode cX4_dueBehindLengthDigit 19 = .ok (.iconst 4, 1) := by decide +kernel
theorem dX4_dueBehindLengthDigit_20 : decode cX4_dueBehindLengthDigit 20 = .ok (.ireturn, 1) := by decide +kernel
theorem dX4_dueBehindLengthDigit_21 : decode cX4_dueBehindLengthDigit 21 = .ok (.iload_n 0, 1) := by decide +kernel
theorem dX4_dueBehindLengthDigit_22 : decode cX4_dueBehindLengthDigit 22 = .ok (.bipush 55, 2) := by decide +kernel
theorem dX4_dueBehindLengthDigit_24 : decode cX4_dueBehindLengthDigit 24 = .ok (.bipush 57, 2) := by decide +kernel
theorem dX4_dueBehindLengthDigit_26 : decode cX4_dueBehindLengthDigit 26 = .ok (.invokestatic 40, 3) := by decide +kernel
theorem dX4_dueBehindLengthDigit_29 : decode cX4_dueBehindLengthDigit 29 = .ok (.ifCond .eq 8, 3) := by decide +kernel
theorem dX4_dueBehindLengthDigit_32 : decode cX4_dueBehindLengthDigit 32 = .ok (.bipush 6, 2) := by decide +kernel
theorem dX4_dueBehindLengthDigit_34 : decode cX4_dueBehindLengthDigit 34 = .ok (.goto 5, 3) := by decide +kernel
theorem dX4_dueBehindLengthDigit_37 : decode cX4_dueBehindLengthDigit 37 = .ok (.bipush 7, 2) := by decide +kernel
theorem dX4_dueBehindLengthDigit_39 : decode cX4_dueBehindLengthDigit 39 = .ok (.ireturn, 1) := by decide +kernel
theorem dX4_dueBehindPhaseDigit_0 : decode cX4_dueBehindPhaseDigit 0 = .ok (.iload_n 0, 1) := by decide +kernel
theorem dX4_dueBehindPhaseDigit_1 : decode cX4_dueBehindPhaseDigit 1 = .ok (.bipush 49, 2) := by decide +kernel
theorem dX4_dueBehindPhaseDigit_3 : decode cX4_dueBehindPhaseDigit 3 = .ok (.if_icmp .ne 5, 3) := by decide +kernel
theorem dX4_dueBehindPhaseDigit_6 : decode cX4_dueBehindPhaseDigit 6 = .ok (.iconst 4, 1) := by decide +kernel
theorem dX4_dueBehindPhaseDigit_7 : decode cX4_dueBehindPhaseDigit 7 = .ok (.ireturn, 1) := by decide +kernel
theorem dX4_dueBehindPhaseDigit_8 : decode cX4_dueBehindPhaseDigit 8 = .ok (.iload_n 0, 1) := by decide +kernel
theorem dX4_dueBehindPhaseDigit_9 : decode cX4_dueBehindPhaseDigit 9 = .ok (.bipush 48, 2) := by decide +kernel
theorem dX4_dueBehindPhaseDigit_11 : decode cX4_dueBehindPhaseDigit 11 = .ok (.bipush 57, 2) := by decide +kernel
theorem dX4_dueBehindPhaseDigit_13 : decode cX4_dueBehindPhaseDigit 13 = .ok (.invokestatic 40, 3) := by decide +kernel
theorem dX4_dueBehindPhaseDigit_16 : decode cX4_dueBehindPhaseDigit 16 = .ok (.ifCond .eq 8, 3) := by decide +kernel
theorem dX4_dueBehindPhaseDigit_19 : decode cX4_dueBehindPhaseDigit 19 = .ok (.bipush 6, 2) := by decide +kernel
theorem dX4_dueBehindPhaseDigit_21 : decode cX4_dueBehindPhaseDigit 21 = .ok (.goto 5, 3) := by decide +kernel
theorem dX4_dueBehindPhaseDigit_24 : decode cX4_dueBehindPhaseDigit 24 = .ok (.bipush 7, 2) := by decide +kernel
theorem dX4_dueBehindPhaseDigit_26 : decode cX4_dueBehindPhaseDigit 26 = .ok (.ireturn, 1) := by decide +kernel
theorem dX4_dueBehindComma_0 : decode cX4_dueBehindComma 0 = .ok (.iload_n 0, 1) := by decide +kernel
theorem dX4_dueBehindComma_1 : decode cX4_dueBehindComma 1 = .ok (.bipush 44, 2) := by decide +kernel
theorem dX4_dueBehindComma_3 : decode cX4_dueBehindComma 3 = .ok (.if_icmp .ne 7, 3) := by decide +kernel
theorem dX4_dueBehindComma_6 : decode cX4_dueBehindComma 6 = .ok (.iconst 0, 1) := by decide +kernel
theorem dX4_dueBehindComma_7 : decode cX4_dueBehindComma 7 = .ok (.goto 5, 3) := by decide +kernel
theorem dX4_dueBehindComma_10 : decode cX4_dueBehindComma 10 = .ok (.bipush 7, 2) := by decide +kernel
theorem dX4_dueBehindComma_12 : decode cX4_dueBehindComma 12 = .ok (.ireturn, 1) := by decide +kernel
theorem dX4_isHue_0 : decode cX4_isHue 0 = .ok (.iload_n 0, 1) := by decide +kernel
theorem dX4_isHue_1 : decode cX4_isHue 1 = .ok (.bipush 97, 2) := by decide +kernel
theorem dX4_isHue_3 : decode cX4_isHue 3 = .ok (.bipush 104, 2) := by decide +kernel
theorem dX4_isHue_5 : decode cX4_isHue 5 = .ok (.invokestatic 40, 3) := by decide +kernel
theorem dX4_isHue_8 : decode cX4_isHue 8 = .ok (.ireturn, 1) := by decide +kernel
theorem dX4_isBetween_0 : decode cX4_isBetween 0 = .ok (.iload_n 0, 1) := by decide +kernel
theorem dX4_isBetween_1 : decode cX4_isBetween 1 = .ok (.iload_n 1, 1) := by decide +kernel
theorem dX4_isBetween_2 : decode cX4_isBetween 2 = .ok (.if_icmp .lt 12, 3) := by decide +kernel
theorem dX4_isBetween_5 : decode cX4_isBetween 5 = .ok (.iload_n 0, 1) := by decide +kernel
theorem dX4_isBetween_6 : decode cX4_isBetween 6 = .ok (.iload_n 2, 1) := by decide +kernel
theorem dX4_isBetween_7 : decode cX4_isBetween 7 = .ok (.if_icmp .gt 7, 3) := by decide +kernel
theorem dX4_isBetween_10 : decode cX4_isBetween 10 = .ok (.iconst 1, 1) := by decide +kernel
theorem dX4_isBetween_11 : decode cX4_isBetween 11 = .ok (.goto 4, 3) := by decide +kernel
theorem dX4_isBetween_14 : decode cX4_isBetween 14 = .ok (.iconst 0, 1) := by decide +kernel
theorem dX4_isBetween_15 : decode cX4_isBetween 15 = .ok (.ireturn, 1) := by decide +kernel
theorem dX5_init_0 : decode cX5_init 0 = .ok (.aload_n 0, 1) := by decide +kernel
theorem dX5_init_1 : decode cX5_init 1 = .ok (.invokespecial 1, 3) := by decide +kernel
theorem dX5_init_4 : decode cX5_init 4 = .ok (.aload_n 0, 1) := by decide +kernel
theorem dX5_init_5 : decode cX5_init 5 = .ok (.new 7, 3) := by decide +kernel
theorem dX5_init_8 : decode cX5_init 8 = .ok (.dup, 1) := by decide +kernel
theorem dX5_init_9 : decode cX5_init 9 = .ok (.invokespecial 9, 3) := by decide +kernel
theorem dX5_init_12 : decode cX5_init 12 = .ok (.putfield 10, 3) := by decide +kernel
theorem dX5_init_15 : decode cX5_init 15 = .ok (.aload_n 0, 1) := by decide +kernel
theorem dX5_init_16 : decode cX5_init 16 = .ok (.new 7, 3) := by decide +kernel
theorem dX5_init_19 : decode cX5_init 19 = .ok (.dup, 1) := by decide +kernel
theorem dX5_init_20 : decode cX5_init 20 = .ok (.invokespecial 9, 3) := by decide +kernel
theorem dX5_init_23 : decode cX5_init 23 = .ok (.putfield 16, 3) := by decide +kernel
theorem dX5_init_26 : decode cX5_init 26 = .ok (.aload_n 0, 1) := by decide +kernel
theorem dX5_init_27 : decode cX5_init 27 = .ok (.new 19, 3) := by decide +kernel
theorem dX5_init_30 : decode cX5_init 30 = .ok (.dup, 1) := by decide +kernel
theorem dX5_init_31 : decode cX5_init 31 = .ok (.invokespecial 21, 3) := by decide +kernel
theorem dX5_init_34 : decode cX5_init 34 = .ok (.putfield 22, 3) := by decide +kernel
theorem dX5_init_37 : decode cX5_init 37 = .ok (.aload_n 0, 1) := by decide +kernel
theorem dX5_init_38 : decode cX5_init 38 = .ok (.new 26, 3) := by decide +kernel
theorem dX5_init_41 : decode cX5_init 41 = .ok (.dup, 1) := by decide +kernel
theorem dX5_init_42 : decode cX5_init 42 = .ok (.invokespecial 28, 3) := by decide +kernel
theorem dX5_init_45 : decode cX5_init 45 = .ok (.putfield 29, 3) := by decide +kernel
theorem dX5_init_48 : decode cX5_init 48 = .ok (.aload_n 0, 1) := by decide +kernel
theorem dX5_init_49 : decode cX5_init 49 = .ok (.new 33, 3) := by decide +kernel
theorem dX5_init_52 : decode cX5_init 52 = .ok (.dup, 1) := by decide +kernel
theorem dX5_init_53 : decode cX5_init 53 = .ok (.invokespecial 35, 3) := by decide +kernel
theorem dX5_init_56 : decode cX5_init 56 = .ok (.putfield 36, 3) := by decide +kernel
theorem dX5_init_59 : decode cX5_init 59 = .ok (.aload_n 0, 1) := by decide +kernel
theorem dX5_init_60 : decode cX5_init 60 = .ok (.iconst 0, 1) := by decide +kernel
theorem dX5_init_61 : decode cX5_init 61 = .ok (.putfield 40, 3) := by decide +kernel
theorem dX5_init_64 : decode cX5_init 64 = .ok (.return_, 1) := by decide +kernel
theorem dX5_gap_0 : decode cX5_gap 0 = .ok (.aload_n 0, 1) := by decide +kernel
theorem dX5_gap_1 : decode cX5_gap 1 = .ok (.iload_n 1, 1) := by decide +kernel
theorem dX5_gap_2 : decode cX5_gap 2 = .ok (.invokevirtual 44, 3) := by decide +kernel
theorem dX5_gap_5 : decode cX5_gap 5 = .ok (.iload_n 2, 1) := by decide +kernel
theorem dX5_gap_6 : decode cX5_gap 6 = .ok (.iconst 2, 1) := by decide +kernel
theorem dX5_gap_7 : decode cX5_gap 7 = .ok (.if_icmp .lt 9, 3) := by decide +kernel
theorem dX5_gap_10 : decode cX5_gap 10 = .ok (.iload_n 2, 1) := by decide +kernel
theorem dX5_gap_11 : decode cX5_gap 11 = .ok (.bipush 20, 2) := by decide +kernel
theorem dX5_gap_13 : decode cX5_gap 13 = .ok (.if_icmp .le 13, 3) := by decide +kernel
theorem dX5_gap_16 : decode cX5_gap 16 = .ok (.new 48, 3) := by decide +kernel
theorem dX5_gap_19 : decode cX5_gap 19 = .ok (.dup, 1) := by decide +kernel
theorem dX5_gap_20 : decode cX5_gap 20 = .ok (.ldc 50, 2) := by decide +kernel
theorem dX5_gap_22 : decode cX5_gap 22 = .ok (.invokespecial 52, 3) := by decide +kernel
theorem dX5_gap_25 : decode cX5_gap 25 = .ok (.athrow, 1) := by decide +kernel
theorem dX5_gap_26 : decode cX5_gap 26 = .ok (.aload_n 0, 1) := by decide +kernel
theorem dX5_gap_27 : decode cX5_gap 27 = .ok (.getfield 10, 3) := by decide +kernel
theorem dX5_gap_30 : decode cX5_gap 30 = .ok (.iload_n 1, 1) := by decide +kernel
theorem dX5_gap_31 : decode cX5_gap 31 = .ok (.invokevirtual 55, 3) := by decide +kernel
theorem dX5_gap_34 : decode cX5_gap 34 = .ok (.ifCond .eq 13, 3) := by decide +kernel
theorem dX5_gap_37 : decode cX5_gap 37 = .ok (.new 59, 3) := by decide +kernel
theorem dX5_gap_40 : decode cX5_gap 40 = .ok (.dup, 1) := by decide +kernel
theorem dX5_gap_41 : decode cX5_gap 41 = .ok (.ldc 61, 2) := by decide +kernel
theorem dX5_gap_43 : decode cX5_gap 43 = .ok (.invokespecial 63, 3) := by decide +kernel
theorem dX5_gap_46 : decode cX5_gap 46 = .ok (.athrow, 1) := by decide +kernel
theorem dX5_gap_47 : decode cX5_gap 47 = .ok (.aload_n 0, 1) := by decide +kernel
theorem dX5_gap_48 : decode cX5_gap 48 = .ok (.getfield 22, 3) := by decide +kernel
theorem dX5_gap_51 : decode cX5_gap 51 = .ok (.aload_n 0, 1) := by decide +kernel
theorem dX5_gap_52 : decode cX5_gap 52 = .ok (.getfield 10, 3) := by decide +kernel
theorem dX5_gap_55 : decode cX5_gap 55 = .ok (.invokevirtual 64, 3) := by decide +kernel
theorem dX5_gap_58 : decode cX5_gap 58 = .ok (.aload_n 0, 1) := by decide +kernel
theorem dX5_gap_59 : decode cX5_gap 59 = .ok (.getfield 10, 3) := by decide +kernel
theorem dX5_gap_62 : decode cX5_gap 62 = .ok (.iload_n 1, 1) := by decide +kernel
theorem dX5_gap_63 : decode cX5_gap 63 = .ok (.invokevirtual 68, 3) := by decide +kernel
theorem dX5_gap_66 : decode cX5_gap 66 = .ok (.istore_n 3, 1) := by decide +kernel
theorem dX5_gap_67 : decode cX5_gap 67 = .ok (.aload_n 0, 1) := by decide +kernel
theorem dX5_gap_68 : decode cX5_gap 68 = .ok (.getfield 10, 3) := by decide +kernel
theorem dX5_gap_71 : decode cX5_gap 71 = .ok (.iload_n 1, 1) := by decide +kernel
theorem dX5_gap_72 : decode cX5_gap 72 = .ok (.iload_n 2, 1) := by decide +kernel
theorem dX5_gap_73 : decode cX5_gap 73 = .ok (.invokevirtual 72, 3) := by decide +kernel
theorem dX5_gap_76 : decode cX5_gap 76 = .ok (.iload_n 3, 1) := by decide +kernel
theorem dX5_gap_77 : decode cX5_gap 77 = .ok (.ireturn, 1) := by decide +kernel
theorem dX5_rope_0 : decode cX5_rope 0 = .ok (.aload_n 0, 1) := by decide +kernel
theorem dX5_rope_1 : decode cX5_rope 1 = .ok (.iload_n 1, 1) := by decide +kernel
theorem dX5_rope_2 : decode cX5_rope 2 = .ok (.invokevirtual 76, 3) := by decide +kernel
theorem dX5_rope_5 : decode cX5_rope 5 = .ok (.aload_n 0, 1) := by decide +kernel
theorem dX5_rope_6 : decode cX5_rope 6 = .ok (.invokevirtual 79, 3) := by decide +kernel
theorem dX5_rope_9 : decode cX5_rope 9 = .ok (.aload_n 0, 1) := by decide +kernel
theorem dX5_rope_10 : decode cX5_rope 10 = .ok (.getfield 22, 3) := by decide +kernel
theorem dX5_rope_13 : decode cX5_rope 13 = .ok (.aload_n 0, 1) := by decide +kernel
theorem dX5_rope_14 : decode cX5_rope 14 = .ok (.getfield 10, 3) := by decide +kernel
theorem dX5_rope_17 : decode cX5_rope 17 = .ok (.invokevirtual 64, 3) := by decide +kernel
theorem dX5_rope_20 : decode cX5_rope 20 = .ok (.aload_n 0, 1) := by decide +kernel
theorem dX5_rope_21 : decode cX5_rope 21 = .ok (.getfield 10, 3) := by decide +kernel
theorem dX5_rope_24 : decode cX5_rope 24 = .ok (.iload_n 1, 1) := by decide +kernel
theorem dX5_rope_25 : decode cX5_rope 25 = .ok (.invokevirtual 82, 3) := by decide +kernel
theorem dX5_rope_28 : decode cX5_rope 28 = .ok (.pop, 1) := by decide +kernel
theorem dX5_rope_29 : decode cX5_rope 29 = .ok (.aload_n 0, 1) := by decide +kernel
theorem dX5_rope_30 : decode cX5_rope 30 = .ok (.getfield 10, 3) := by decide +kernel
theorem dX5_rope_33 : decode cX5_rope 33 = .ok (.invokevirtual 86, 3) := by decide +kernel
theorem dX5_rope_36 : decode cX5_rope 36 = .ok (.iconst 1, 1) := by decide +kernel
theorem dX5_rope_37 : decode cX5_rope 37 = .ok (.isub, 1) := by decide +kernel
theorem dX5_rope_38 : decode cX5_rope 38 = .ok (.ireturn, 1) := by decide +kernel
theorem dX5_drop_0 : decode cX5_drop 0 = .ok (.aload_n 0, 1) := by decide +kernel
theorem dX5_drop_1 : decode cX5_drop 1 = .ok (.iload_n 1, 1) := by decide +kernel
theorem dX5_drop_2 : decode cX5_drop 2 = .ok (.invokevirtual 90, 3) := by decide +kernel
theorem dX5_drop_5 : decode cX5_drop 5 = .ok (.pop, 1) := by decide +kernel
theorem dX5_drop_6 : decode cX5_drop 6 = .ok (.aload_n 0, 1) := by decide +kernel
theorem dX5_drop_7 : decode cX5_drop 7 = .ok (.getfield 22, 3) := by decide +kernel
theorem dX5_drop_10 : decode cX5_drop 10 = .ok (.aload_n 0, 1) := by decide +kernel
theorem dX5_drop_11 : decode cX5_drop 11 = .ok (.getfield 10, 3) := by decide +kernel
theorem dX5_drop_14 : decode cX5_drop 14 = .ok (.invokevirtual 64, 3) := by decide +kernel
theorem dX5_drop_17 : decode cX5_drop 17 = .ok (.aload_n 0, 1) := by decide +kernel
theorem dX5_drop_18 : decode cX5_drop 18 = .ok (.getfield 10, 3) := by decide +kernel
theorem dX5_drop_21 : decode cX5_drop 21 = .ok (.iload_n 1, 1) := by decide +kernel
theorem dX5_drop_22 : decode cX5_drop 22 = .ok (.invokevirtual 93, 3) := by decide +kernel
theorem dX5_drop_25 : decode cX5_drop 25 = .ok (.aload_n 0, 1) := by decide +kernel
theorem dX5_drop_26 : decode cX5_drop 26 = .ok (.getfield 10, 3) := by decide +kernel
theorem dX5_drop_29 : decode cX5_drop 29 = .ok (.invokevirtual 86, 3) := by decide +kernel
theorem dX5_drop_32 : decode cX5_drop 32 = .ok (.ireturn, 1) := by decide +kernel
theorem dX5_lay_0 : decode cX5_lay 0 = .ok (.aload_n 0, 1) := by decide +kernel
theorem dX5_lay_1 : decode cX5_lay 1 = .ok (.iload_n 1, 1) := by decide +kernel
theorem dX5_lay_2 : decode cX5_lay 2 = .ok (.invokevirtual 90, 3) := by decide +kernel
theorem dX5_lay_5 : decode cX5_lay 5 = .ok (.astore 4, 2) := by decide +kernel
theorem dX5_lay_7 : decode cX5_lay 7 = .ok (.aload_n 0, 1) := by decide +kernel
theorem dX5_lay_8 : decode cX5_lay 8 = .ok (.iload_n 2, 1) := by decide +kernel
theorem dX5_lay_9 : decode cX5_lay 9 = .ok (.invokevirtual 44, 3) := by decide +kernel
theorem dX5_lay_12 : decode cX5_lay 12 = .ok (.aload_n 0, 1) := by decide +kernel
theorem dX5_lay_13 : decode cX5_lay 13 = .ok (.iload_n 2, 1) := by decide +kernel
theorem dX5_lay_14 : decode cX5_lay 14 = .ok (.iload_n 3, 1) := by decide +kernel
theorem dX5_lay_15 : decode cX5_lay 15 = .ok (.invokevirtual 96, 3) := by decide +kernel
theorem dX5_lay_18 : decode cX5_lay 18 = .ok (.aload 4, 2) := by decide +kernel
theorem dX5_lay_20 : decode cX5_lay 20 = .ok (.iload_n 2, 1) := by decide +kernel
theorem dX5_lay_21 : decode cX5_lay 21 = .ok (.iload_n 3, 1) := by decide +kernel
theorem dX5_lay_22 : decode cX5_lay 22 = .ok (.aload_n 0, 1) := by decide +kernel
theorem dX5_lay_23 : decode cX5_lay 23 = .ok (.getfield 10, 3) := by decide +kernel
theorem dX5_lay_26 : decode cX5_lay 26 = .ok (.iload_n 2, 1) := by decide +kernel
theorem dX5_lay_27 : decode cX5_lay 27 = .ok (.invokevirtual 68, 3) := by decide +kernel
theorem dX5_lay_30 : decode cX5_lay 30 = .ok (.invokevirtual 99, 3) := by decide +kernel
theorem dX5_lay_33 : decode cX5_lay 33 = .ok (.ifCond .eq 13, 3) := by decide +kernel
theorem dX5_lay_36 : decode cX5_lay 36 = .ok (.new 59, 3) := by decide +kernel
theorem dX5_lay_39 : decode cX5_lay 39 = .ok (.dup, 1) := by decide +kernel
theorem dX5_lay_40 : decode cX5_lay 40 = .ok (.ldc 103, 2) := by decide +kernel
theorem dX5_lay_42 : decode cX5_lay 42 = .ok (.invokespecial 63, 3) := by decide +kernel
theorem dX5_lay_45 : decode cX5_lay 45 = .ok (.athrow, 1) := by decide +kernel
theorem dX5_lay_46 : decode cX5_lay 46 = .ok (.aload_n 0, 1) := by decide +kernel
theorem dX5_lay_47 : decode cX5_lay 47 = .ok (.getfield 22, 3) := by decide +kernel
theorem dX5_lay_50 : decode cX5_lay 50 = .ok (.aload_n 0, 1) := by decide +kernel
theorem dX5_lay_51 : decode cX5_lay 51 = .ok (.getfield 10, 3) := by decide +kernel
theorem dX5_lay_54 : decode cX5_lay 54 = .ok (.invokevirtual 64, 3) := by decide +kernel
theorem dX5_lay_57 : decode cX5_lay 57 = .ok (.aload_n 0, 1) := by decide +kernel
theorem dX5_lay_58 : decode cX5_lay 58 = .ok (.getfield 10, 3) := by decide +kernel
theorem dX5_lay_61 : decode cX5_lay 61 = .ok (.aload 4, 2) := by decide +kernel
theorem dX5_lay_63 : decode cX5_lay 63 = .ok (.iload_n 2, 1) := by decide +kernel
theorem dX5_lay_64 : decode cX5_lay 64 = .ok (.iload_n 3, 1) := by decide +kernel
theorem dX5_lay_65 : decode cX5_lay 65 = .ok (.invokevirtual 105, 3) := by decide +kernel
theorem dX5_lay_68 : decode cX5_lay 68 = .ok (.ireturn, 1) := by decide +kernel
theorem dX5_take_0 : decode cX5_take 0 = .ok (.aload_n 0, 1) := by decide +kernel
theorem dX5_take_1 : decode cX5_take 1 = .ok (.iload_n 1, 1) := by decide +kernel
theorem dX5_take_2 : decode cX5_take 2 = .ok (.invokevirtual 90, 3) := by decide +kernel
theorem dX5_take_5 : decode cX5_take 5 = .ok (.astore_n 3, 1) := by decide +kernel
theorem dX5_take_6 : decode cX5_take 6 = .ok (.aload_n 0, 1) := by decide +kernel
theorem dX5_take_7 : decode cX5_take 7 = .ok (.iload_n 2, 1) := by decide +kernel
theorem dX5_take_8 : decode cX5_take 8 = .ok (.invokevirtual 44, 3) := by decide +kernel
theorem dX5_take_11 : decode cX5_take 11 = .ok (.aload_n 3, 1) := by decide +kernel
theorem dX5_take_12 : decode cX5_take 12 = .ok (.iload_n 2, 1) := by decide +kernel
theorem dX5_take_13 : decode cX5_take 13 = .ok (.invokevirtual 109, 3) := by decide +kernel
theorem dX5_take_16 : decode cX5_take 16 = .ok (.iconst (-1), 1) := by decide +kernel
theorem dX5_take_17 : decode cX5_take 17 = .ok (.if_icmp .ne 13, 3) := by decide +kernel
theorem dX5_take_20 : decode cX5_take 20 = .ok (.new 59, 3) := by decide +kernel
theorem dX5_take_23 : decode cX5_take 23 = .ok (.dup, 1) := by decide +kernel
theorem dX5_take_24 : decode cX5_take 24 = .ok (.ldc 112, 2) := by decide +kernel
theorem dX5_take_26 : decode cX5_take 26 = .ok (.invokespecial 63, 3) := by decide +kernel
theorem dX5_take_29 : decode cX5_take 29 = .ok (.athrow, 1) := by decide +kernel
theorem dX5_take_30 : decode cX5_take 30 = .ok (.aload_n 0, 1) := by decide +kernel
theorem dX5_take_31 : decode cX5_take 31 = .ok (.getfield 22, 3) := by decide +kernel
theorem dX5_take_34 : decode cX5_take 34 = .ok (.aload_n 0, 1) := by decide +kernel
theorem dX5_take_35 : decode cX5_take 35 = .ok (.getfield 10, 3) := by decide +kernel
theorem dX5_take_38 : decode cX5_take 38 = .ok (.invokevirtual 64, 3) := by decide +kernel
theorem dX5_take_41 : decode cX5_take 41 = .ok (.aload_n 3, 1) := by decide +kernel
theorem dX5_take_42 : decode cX5_take 42 = .ok (.iload_n 2, 1) := by decide +kernel
theorem dX5_take_43 : decode cX5_take 43 = .ok (.invokevirtual 114, 3) := by decide +kernel
theorem dX5_take_46 : decode cX5_take 46 = .ok (.ireturn, 1) := by decide +kernel
theorem dX5_stretch_0 : decode cX5_stretch 0 = .ok (.aload_n 0, 1) := by decide +kernel
theorem dX5_stretch_1 : decode cX5_stretch 1 = .ok (.iload_n 1, 1) := by decide +kernel
theorem dX5_stretch_2 : decode cX5_stretch 2 = .ok (.invokevirtual 90, 3) := by decide +kernel
theorem dX5_stretch_5 : decode cX5_stretch 5 = .ok (.astore_n 3, 1) := by decide +kernel
theorem dX5_stretch_6 : decode cX5_stretch 6 = .ok (.aload_n 0, 1) := by decide +kernel
theorem dX5_stretch_7 : decode cX5_stretch 7 = .ok (.iload_n 2, 1) := by decide +kernel
theorem dX5_stretch_8 : decode cX5_stretch 8 = .ok (.invokevirtual 76, 3) := by decide +kernel
theorem dX5_stretch_11 : decode cX5_stretch 11 = .ok (.iload_n 2, 1) := by decide +kernel
theorem dX5_stretch_12 : decode cX5_stretch 12 = .ok (.aload_n 0, 1) := by decide +kernel
theorem dX5_stretch_13 : decode cX5_stretch 13 = .ok (.aload_n 3, 1) := by decide +kernel
theorem dX5_stretch_14 : decode cX5_stretch 14 = .ok (.invokevirtual 117, 3) := by decide +kernel
theorem dX5_stretch_17 : decode cX5_stretch 17 = .ok (.if_icmp .le 13, 3) := by decide +kernel
theorem dX5_stretch_20 : decode cX5_stretch 20 = .ok (.new 59, 3) := by decide +kernel
theorem dX5_stretch_23 : decode cX5_stretch 23 = .ok (.dup, 1) := by decide +kernel
theorem dX5_stretch_24 : decode cX5_stretch 24 = .ok (.ldc 121, 2) := by decide +kernel
theorem dX5_stretch_26 : decode cX5_stretch 26 = .ok (.invokespecial 63, 3) := by decide +kernel
theorem dX5_stretch_29 : decode cX5_stretch 29 = .ok (.athrow, 1) := by decide +kernel
theorem dX5_stretch_30 : decode cX5_stretch 30 = .ok (.aload_n 0, 1) := by decide +kernel
theorem dX5_stretch_31 : decode cX5_stretch 31 = .ok (.getfield 22, 3) := by decide +kernel
theorem dX5_stretch_34 : decode cX5_stretch 34 = .ok (.aload_n 0, 1) := by decide +kernel
theorem dX5_stretch_35 : decode cX5_stretch 35 = .ok (.getfield 10, 3) := by decide +kernel
theorem dX5_stretch_38 : decode cX5_stretch 38 = .ok (.invokevirtual 64, 3) := by decide +kernel
theorem dX5_stretch_41 : decode cX5_stretch 41 = .ok (.aload_n 3, 1) := by decide +kernel
theorem dX5_stretch_42 : decode cX5_stretch 42 = .ok (.invokevirtual 123, 3) := by decide +kernel
theorem dX5_stretch_45 : decode cX5_stretch 45 = .ok (.istore 4, 2) := by decide +kernel
theorem dX5_stretch_47 : decode cX5_stretch 47 = .ok (.aload_n 0, 1) := by decide +kernel
theorem dX5_stretch_48 : decode cX5_stretch 48 = .ok (.aload_n 3, 1) := by decide +kernel
theorem dX5_stretch_49 : decode cX5_stretch 49 = .ok (.iload_n 2, 1) := by decide +kernel
theorem dX5_stretch_50 : decode cX5_stretch 50 = .ok (.invokevirtual 126, 3) := by decide +kernel
theorem dX5_stretch_53 : decode cX5_stretch 53 = .ok (.iload 4, 2) := by decide +kernel
theorem dX5_stretch_55 : decode cX5_stretch 55 = .ok (.aload_n 3, 1) := by decide +kernel
theorem dX5_stretch_56 : decode cX5_stretch 56 = .ok (.invokevirtual 123, 3) := by decide +kernel
theorem dX5_stretch_59 : decode cX5_stretch 59 = .ok (.isub, 1) := by decide +kernel
theorem dX5_stretch_60 : decode cX5_stretch 60 = .ok (.ireturn, 1) := by decide +kernel
theorem dX5_cut_0 : decode cX5_cut 0 = .ok (.aload_n 0, 1) := by decide +kernel
theorem dX5_cut_1 : decode cX5_cut 1 = .ok (.iload_n 1, 1) := by decide +kernel
theorem dX5_cut_2 : decode cX5_cut 2 = .ok (.invokevirtual 90, 3) := by decide +kernel
theorem dX5_cut_5 : decode cX5_cut 5 = .ok (.astore_n 3, 1) := by decide +kernel
theorem dX5_cut_6 : decode cX5_cut 6 = .ok (.iload_n 2, 1) := by decide +kernel
theorem dX5_cut_7 : decode cX5_cut 7 = .ok (.iconst 1, 1) := by decide +kernel
theorem dX5_cut_8 : decode cX5_cut 8 = .ok (.if_icmp .lt 13, 3) := by decide +kernel
theorem dX5_cut_11 : decode cX5_cut 11 = .ok (.iload_n 2, 1) := by decide +kernel
theorem dX5_cut_12 : decode cX5_cut 12 = .ok (.aload_n 3, 1) := by decide +kernel
theorem dX5_cut_13 : decode cX5_cut 13 = .ok (.invokevirtual 130, 3) := by decide +kernel
theorem dX5_cut_16 : decode cX5_cut 16 = .ok (.iconst 1, 1) := by decide +kernel
theorem dX5_cut_17 : decode cX5_cut 17 = .ok (.isub, 1) := by decide +kernel
theorem dX5_cut_18 : decode cX5_cut 18 = .ok (.if_icmp .le 13, 3) := by decide +kernel
theorem dX5_cut_21 : decode cX5_cut 21 = .ok (.new 48, 3) := by decide +kernel
theorem dX5_cut_24 : decode cX5_cut 24 = .ok (.dup, 1) := by decide +kernel
theorem dX5_cut_25 : decode cX5_cut 25 = .ok (.ldc 133, 2) := by decide +kernel
theorem dX5_cut_27 : decode cX5_cut 27 = .ok (.invokespecial 52, 3) := by decide +kernel
theorem dX5_cut_30 : decode cX5_cut 30 = .ok (.athrow, 1) := by decide +kernel
theorem dX5_cut_31 : decode cX5_cut 31 = .ok (.aload_n 0, 1) := by decide +kernel
theorem dX5_cut_32 : decode cX5_cut 32 = .ok (.invokevirtual 79, 3) := by decide +kernel
theorem dX5_cut_35 : decode cX5_cut 35 = .ok (.aload_n 0, 1) := by decide +kernel
theorem dX5_cut_36 : decode cX5_cut 36 = .ok (.getfield 22, 3) := by decide +kernel
theorem dX5_cut_39 : decode cX5_cut 39 = .ok (.aload_n 0, 1) := by decide +kernel
theorem dX5_cut_40 : decode cX5_cut 40 = .ok (.getfield 10, 3) := by decide +kernel
theorem dX5_cut_43 : decode cX5_cut 43 = .ok (.invokevirtual 64, 3) := by decide +kernel
theorem dX5_cut_46 : decode cX5_cut 46 = .ok (.aload_n 0, 1) := by decide +kernel
theorem dX5_cut_47 : decode cX5_cut 47 = .ok (.getfield 10, 3) := by decide +kernel
theorem dX5_cut_50 : decode cX5_cut 50 = .ok (.aload_n 3, 1) := by decide +kernel
theorem dX5_cut_51 : decode cX5_cut 51 = .ok (.invokevirtual 130, 3) := by decide +kernel
theorem dX5_cut_54 : decode cX5_cut 54 = .ok (.iload_n 2, 1) := by decide +kernel
theorem dX5_cut_55 : decode cX5_cut 55 = .ok (.isub, 1) := by decide +kernel
theorem dX5_cut_56 : decode cX5_cut 56 = .ok (.invokevirtual 82, 3) := by decide +kernel
theorem dX5_cut_59 : decode cX5_cut 59 = .ok (.astore 4, 2) := by decide +kernel
theorem dX5_cut_61 : decode cX5_cut 61 = .ok (.aload 4, 2) := by decide +kernel
theorem dX5_cut_63 : decode cX5_cut 63 = .ok (.ifnull 11, 3) := by decide +kernel
theorem dX5_cut_66 : decode cX5_cut 66 = .ok (.aload_n 0, 1) := by decide +kernel
theorem dX5_cut_67 : decode cX5_cut 67 = .ok (.aload_n 3, 1) := by decide +kernel
theorem dX5_cut_68 : decode cX5_cut 68 = .ok (.iload_n 2, 1) := by decide +kernel
theorem dX5_cut_69 : decode cX5_cut 69 = .ok (.aload 4, 2) := by decide +kernel
theorem dX5_cut_71 : decode cX5_cut 71 = .ok (.invokevirtual 135, 3) := by decide +kernel
theorem dX5_cut_74 : decode cX5_cut 74 = .ok (.aload_n 0, 1) := by decide +kernel
theorem dX5_cut_75 : decode cX5_cut 75 = .ok (.aload_n 3, 1) := by decide +kernel
theorem dX5_cut_76 : decode cX5_cut 76 = .ok (.iload_n 2, 1) := by decide +kernel
theorem dX5_cut_77 : decode cX5_cut 77 = .ok (.invokevirtual 126, 3) := by decide +kernel
theorem dX5_cut_80 : decode cX5_cut 80 = .ok (.aload_n 0, 1) := by decide +kernel
theorem dX5_cut_81 : decode cX5_cut 81 = .ok (.getfield 10, 3) := by decide +kernel
theorem dX5_cut_84 : decode cX5_cut 84 = .ok (.invokevirtual 139, 3) := by decide +kernel
theorem dX5_cut_87 : decode cX5_cut 87 = .ok (.aload_n 0, 1) := by decide +kernel
theorem dX5_cut_88 : decode cX5_cut 88 = .ok (.getfield 10, 3) := by decide +kernel
theorem dX5_cut_91 : decode cX5_cut 91 = .ok (.invokevirtual 86, 3) := by decide +kernel
theorem dX5_cut_94 : decode cX5_cut 94 = .ok (.iconst 1, 1) := by decide +kernel
theorem dX5_cut_95 : decode cX5_cut 95 = .ok (.isub, 1) := by decide +kernel
theorem dX5_cut_96 : decode cX5_cut 96 = .ok (.ireturn, 1) := by decide +kernel
theorem dX5_turn_0 : decode cX5_turn 0 = .ok (.aload_n 0, 1) := by decide +kernel
theorem dX5_turn_1 : decode cX5_turn 1 = .ok (.iload_n 1, 1) := by decide +kernel
theorem dX5_turn_2 : decode cX5_turn 2 = .ok (.invokevirtual 90, 3) := by decide +kernel
theorem dX5_turn_5 : decode cX5_turn 5 = .ok (.astore_n 2, 1) := by decide +kernel
theorem dX5_turn_6 : decode cX5_turn 6 = .ok (.aload_n 0, 1) := by decide +kernel
theorem dX5_turn_7 : decode cX5_turn 7 = .ok (.getfield 22, 3) := by decide +kernel
theorem dX5_turn_10 : decode cX5_turn 10 = .ok (.aload_n 0, 1) := by decide +kernel
theorem dX5_turn_11 : decode cX5_turn 11 = .ok (.getfield 10, 3) := by decide +kernel
theorem dX5_turn_14 : decode cX5_turn 14 = .ok (.invokevirtual 64, 3) := by decide +kernel
theorem dX5_turn_17 : decode cX5_turn 17 = .ok (.aload_n 0, 1) := by decide +kernel
theorem dX5_turn_18 : decode cX5_turn 18 = .ok (.aload_n 2, 1) := by decide +kernel
theorem dX5_turn_19 : decode cX5_turn 19 = .ok (.invokevirtual 142, 3) := by decide +kernel
theorem dX5_turn_22 : decode cX5_turn 22 = .ok (.ireturn, 1) := by decide +kernel
theorem dX5_join_0 : decode cX5_join 0 = .ok (.aload_n 0, 1) := by decide +kernel
theorem dX5_join_1 : decode cX5_join 1 = .ok (.iload_n 1, 1) := by decide +kernel
theorem dX5_join_2 : decode cX5_join 2 = .ok (.invokevirtual 90, 3) := by decide +kernel
theorem dX5_join_5 : decode cX5_join 5 = .ok (.astore_n 3, 1) := by decide +kernel
theorem dX5_join_6 : decode cX5_join 6 = .ok (.aload_n 0, 1) := by decide +kernel
theorem dX5_join_7 : decode cX5_join 7 = .ok (.iload_n 2, 1) := by decide +kernel
theorem dX5_join_8 : decode cX5_join 8 = .ok (.invokevirtual 90, 3) := by decide +kernel
theorem dX5_join_11 : decode cX5_join 11 = .ok (.astore 4, 2) := by decide +kernel
theorem dX5_join_13 : decode cX5_join 13 = .ok (.iload_n 1, 1) := by decide +kernel
theorem dX5_join_14 : decode cX5_join 14 = .ok (.iload_n 2, 1) := by decide +kernel
theorem dX5_join_15 : decode cX5_join 15 = .ok (.if_icmp .eq 13, 3) := by decide +kernel
theorem dX5_join_18 : decode cX5_join 18 = .ok (.aload_n 0, 1) := by decide +kernel
theorem dX5_join_19 : decode cX5_join 19 = .ok (.aload_n 3, 1) := by decide +kernel
theorem dX5_join_20 : decode cX5_join 20 = .ok (.aload 4, 2) := by decide +kernel
theorem dX5_join_22 : decode cX5_join 22 = .ok (.invokevirtual 145, 3) := by decide +kernel
theorem dX5_join_25 : decode cX5_join 25 = .ok (.ifCond .eq 13, 3) := by decide +kernel
theorem dX5_join_28 : decode cX5_join 28 = .ok (.new 59, 3) := by decide +kernel
theorem dX5_join_31 : decode cX5_join 31 = .ok (.dup, 1) := by decide +kernel
theorem dX5_join_32 : decode cX5_join 32 = .ok (.ldc 149, 2) := by decide +kernel
theorem dX5_join_34 : decode cX5_join 34 = .ok (.invokespecial 63, 3) := by decide +kernel
theorem dX5_join_37 : decode cX5_join 37 = .ok (.athrow, 1) := by decide +kernel
theorem dX5_join_38 : decode cX5_join 38 = .ok (.aload_n 0, 1) := by decide +kernel
theorem dX5_join_39 : decode cX5_join 39 = .ok (.getfield 22, 3) := by decide +kernel
theorem dX5_join_42 : decode cX5_join 42 = .ok (.aload_n 0, 1) := by decide +kernel
theorem dX5_join_43 : decode cX5_join 43 = .ok (.getfield 10, 3) := by decide +kernel
theorem dX5_join_46 : decode cX5_join 46 = .ok (.invokevirtual 64, 3) := by decide +kernel
theorem dX5_join_49 : decode cX5_join 49 = .ok (.aload_n 0, 1) := by decide +kernel
theorem dX5_join_50 : decode cX5_join 50 = .ok (.aload_n 3, 1) := by decide +kernel
theorem dX5_join_51 : decode cX5_join 51 = .ok (.aload 4, 2) := by decide +kernel
theorem dX5_join_53 : decode cX5_join 53 = .ok (.invokevirtual 151, 3) := by decide +kernel
theorem dX5_join_56 : decode cX5_join 56 = .ok (.pop, 1) := by decide +kernel
theorem dX5_join_57 : decode cX5_join 57 = .ok (.aload_n 3, 1) := by decide +kernel
theorem dX5_join_58 : decode cX5_join 58 = .ok (.aload_n 0, 1) := by decide +kernel
theorem dX5_join_59 : decode cX5_join 59 = .ok (.getfield 36, 3) := by decide +kernel
theorem dX5_join_62 : decode cX5_join 62 = .ok (.invokevirtual 155, 3) := by decide +kernel
theorem dX5_join_65 : decode cX5_join 65 = .ok (.aload_n 0, 1) := by decide +kernel
theorem dX5_join_66 : decode cX5_join 66 = .ok (.getfield 10, 3) := by decide +kernel
theorem dX5_join_69 : decode cX5_join 69 = .ok (.iload_n 2, 1) := by decide +kernel
theorem dX5_join_70 : decode cX5_join 70 = .ok (.invokevirtual 93, 3) := by decide +kernel
theorem dX5_join_73 : decode cX5_join 73 = .ok (.aload_n 0, 1) := by decide +kernel
theorem dX5_join_74 : decode cX5_join 74 = .ok (.getfield 10, 3) := by decide +kernel
theorem dX5_join_77 : decode cX5_join 77 = .ok (.invokevirtual 159, 3) := by decide +kernel
theorem dX5_join_80 : decode cX5_join 80 = .ok (.aload_n 3, 1) := by decide +kernel
theorem dX5_join_81 : decode cX5_join 81 = .ok (.invokevirtual 130, 3) := by decide +kernel
theorem dX5_join_84 : decode cX5_join 84 = .ok (.ireturn, 1) := by decide +kernel
theorem dX5_append_0 : decode cX5_append 0 = .ok (.iload_n 1, 1) := by decide +kernel
theorem dX5_append_1 : decode cX5_append 1 = .ok (.bipush 33, 2) := by decide +kernel
theorem dX5_append_3 : decode cX5_append 3 = .ok (.if_icmp .lt 9, 3) := by decide +kernel
theorem dX5_append_6 : decode cX5_append 6 = .ok (.iload_n 1, 1) := by decide +kernel
theorem dX5_append_7 : decode cX5_append 7 = .ok (.bipush 126, 2) := by decide +kernel
theorem dX5_append_9 : decode cX5_append 9 = .ok (.if_icmp .le 13, 3) := by decide +kernel
theorem dX5_append_12 : decode cX5_append 12 = .ok (.new 48, 3) := by decide +kernel
theorem dX5_append_15 : decode cX5_append 15 = .ok (.dup, 1) := by decide +kernel
theorem dX5_append_16 : decode cX5_append 16 = .ok (.ldc 162, 2) := by decide +kernel
theorem dX5_append_18 : decode cX5_append 18 = .ok (.invokespecial 52, 3) := by decide +kernel
theorem dX5_append_21 : decode cX5_append 21 = .ok (.athrow, 1) := by decide +kernel
theorem dX5_append_22 : decode cX5_append 22 = .ok (.aload_n 0, 1) := by decide +kernel
theorem dX5_append_23 : decode cX5_append 23 = .ok (.getfield 29, 3) := by decide +kernel
theorem dX5_append_26 : decode cX5_append 26 = .ok (.invokevirtual 164, 3) := by decide +kernel
theorem dX5_append_29 : decode cX5_append 29 = .ok (.ifCond .eq 13, 3) := by decide +kernel
theorem dX5_append_32 : decode cX5_append 32 = .ok (.new 59, 3) := by decide +kernel
theorem dX5_append_35 : decode cX5_append 35 = .ok (.dup, 1) := by decide +kernel
theorem dX5_append_36 : decode cX5_append 36 = .ok (.ldc 168, 2) := by decide +kernel
theorem dX5_append_38 : decode cX5_append 38 = .ok (.invokespecial 63, 3) := by decide +kernel
theorem dX5_append_41 : decode cX5_append 41 = .ok (.athrow, 1) := by decide +kernel
theorem dX5_append_42 : decode cX5_append 42 = .ok (.aload_n 0, 1) := by decide +kernel
theorem dX5_append_43 : decode cX5_append 43 = .ok (.getfield 29, 3) := by decide +kernel
theorem dX5_append_46 : decode cX5_append 46 = .ok (.iload_n 1, 1) := by decide +kernel
theorem dX5_append_47 : decode cX5_append 47 = .ok (.invokevirtual 170, 3) := by decide +kernel
theorem dX5_append_50 : decode cX5_append 50 = .ok (.aload_n 0, 1) := by decide +kernel
theorem dX5_append_51 : decode cX5_append 51 = .ok (.getfield 29, 3) := by decide +kernel
theorem dX5_append_54 : decode cX5_append 54 = .ok (.invokevirtual 173, 3) := by decide +kernel
theorem dX5_append_57 : decode cX5_append 57 = .ok (.ireturn, 1) := by decide +kernel
theorem dX5_clearBuffer_0 : decode cX5_clearBuffer 0 = .ok (.aload_n 0, 1) := by decide +kernel
theorem dX5_clearBuffer_1 : decode cX5_clearBuffer 1 = .ok (.getfield 29, 3) := by decide +kernel
theorem dX5_clearBuffer_4 : decode cX5_clearBuffer 4 = .ok (.invokevirtual 173, 3) := by decide +kernel
theorem dX5_clearBuffer_7 : decode cX5_clearBuffer 7 = .ok (.istore_n 1, 1) := by decide +kernel
theorem dX5_clearBuffer_8 : decode cX5_clearBuffer 8 = .ok (.aload_n 0, 1) := by decide +kernel
theorem dX5_clearBuffer_9 : decode cX5_clearBuffer 9 = .ok (.getfield 29, 3) := by decide +kernel
theorem dX5_clearBuffer_12 : decode cX5_clearBuffer 12 = .ok (.invokevirtual 174, 3) := by decide +kernel
theorem dX5_clearBuffer_15 : decode cX5_clearBuffer 15 = .ok (.iload_n 1, 1) := by decide +kernel
theorem dX5_clearBuffer_16 : decode cX5_clearBuffer 16 = .ok (.ireturn, 1) := by decide +kernel
theorem dX5_firstError_0 : decode cX5_firstError 0 = .ok (.aload_n 0, 1) := by decide +kernel
theorem dX5_firstError_1 : decode cX5_firstError 1 = .ok (.getfield 29, 3) := by decide +kernel
theorem dX5_firstError_4 : decode cX5_firstError 4 = .ok (.invokevirtual 177, 3) := by decide +kernel
theorem dX5_firstError_7 : decode cX5_firstError 7 = .ok (.ireturn, 1) := by decide +kernel
theorem dX5_play_0 : decode cX5_play 0 = .ok (.aload_n 0, 1) := by decide +kernel
theorem dX5_play_1 : decode cX5_play 1 = .ok (.getfield 29, 3) := by decide +kernel
theorem dX5_play_4 : decode cX5_play 4 = .ok (.invokevirtual 180, 3) := by decide +kernel
theorem dX5_play_7 : decode cX5_play 7 = .ok (.ifCond .ne 13, 3) := by decide +kernel
theorem dX5_play_10 : decode cX5_play 10 = .ok (.new 48, 3) := by decide +kernel
theorem dX5_play_13 : decode cX5_play 13 = .ok (.dup, 1) := by decide +kernel
theorem dX5_play_14 : decode cX5_play 14 = .ok (.ldc 183, 2) := by decide +kernel
theorem dX5_play_16 : decode cX5_play 16 = .ok (.invokespecial 52, 3) := by decide +kernel
theorem dX5_play_19 : decode cX5_play 19 = .ok (.athrow, 1) := by decide +kernel
theorem dX5_play_20 : decode cX5_play 20 = .ok (.aload_n 0, 1) := by decide +kernel
theorem dX5_play_21 : decode cX5_play 21 = .ok (.getfield 22, 3) := by decide +kernel
theorem dX5_play_24 : decode cX5_play 24 = .ok (.aload_n 0, 1) := by decide +kernel
theorem dX5_play_25 : decode cX5_play 25 = .ok (.getfield 10, 3) := by decide +kernel
theorem dX5_play_28 : decode cX5_play 28 = .ok (.invokevirtual 64, 3) := by decide +kernel
theorem dX5_play_31 : decode cX5_play 31 = .ok (.iconst 0, 1) := by decide +kernel
theorem dX5_play_32 : decode cX5_play 32 = .ok (.istore_n 1, 1) := by decide +kernel
theorem dX5_play_33 : decode cX5_play 33 = .ok (.iconst 0, 1) := by decide +kernel
theorem dX5_play_34 : decode cX5_play 34 = .ok (.istore_n 2, 1) := by decide +kernel
theorem dX5_play_35 : decode cX5_play 35 = .ok (.iconst 0, 1) := by decide +kernel
theorem dX5_play_36 : decode cX5_play 36 = .ok (.istore_n 3, 1) := by decide +kernel
theorem dX5_play_37 : decode cX5_play 37 = .ok (.iload_n 3, 1) := by decide +kernel
theorem dX5_play_38 : decode cX5_play 38 = .ok (.bipush 60, 2) := by decide +kernel
theorem dX5_play_40 : decode cX5_play 40 = .ok (.if_icmp .ge 51, 3) := by decide +kernel
theorem dX5_play_43 : decode cX5_play 43 = .ok (.iload_n 2, 1) := by decide +kernel
theorem dX5_play_44 : decode cX5_play 44 = .ok (.aload_n 0, 1) := by decide +kernel
theorem dX5_play_45 : decode cX5_play 45 = .ok (.getfield 29, 3) := by decide +kernel
theorem dX5_play_48 : decode cX5_play 48 = .ok (.invokevirtual 173, 3) := by decide +kernel
theorem dX5_play_51 : decode cX5_play 51 = .ok (.if_icmp .ge 40, 3) := by decide +kernel
theorem dX5_play_54 : decode cX5_play 54 = .ok (.aload_n 0, 1) := by decide +kernel
theorem dX5_play_55 : decode cX5_play 55 = .ok (.getfield 29, 3) := by decide +kernel
theorem dX5_play_58 : decode cX5_play 58 = .ok (.iload_n 2, 1) := by decide +kernel
theorem dX5_play_59 : decode cX5_play 59 = .ok (.invokevirtual 185, 3) := by decide +kernel
theorem dX5_play_62 : decode cX5_play 62 = .ok (.istore 4, 2) := by decide +kernel
theorem dX5_play_64 : decode cX5_play 64 = .ok (.aload_n 0, 1) := by decide +kernel
theorem dX5_play_65 : decode cX5_play 65 = .ok (.iload_n 2, 1) := by decide +kernel
theorem dX5_play_66 : decode cX5_play 66 = .ok (.iload 4, 2) := by decide +kernel
theorem dX5_play_68 : decode cX5_play 68 = .ok (.invokevirtual 188, 3) := by decide +kernel
theorem dX5_play_71 : decode cX5_play 71 = .ok (.ifCond .ne 6, 3) := by decide +kernel
theorem dX5_play_74 : decode cX5_play 74 = .ok (.goto 17, 3) := by decide +kernel
theorem dX5_play_77 : decode cX5_play 77 = .ok (.iinc 1 1, 3) := by decide +kernel
theorem dX5_play_80 : decode cX5_play 80 = .ok (.iload 4, 2) := by decide +kernel
theorem dX5_play_82 : decode cX5_play 82 = .ok (.iconst 1, 1) := by decide +kernel
theorem dX5_play_83 : decode cX5_play 83 = .ok (.iadd, 1) := by decide +kernel
theorem dX5_play_84 : decode cX5_play 84 = .ok (.istore_n 2, 1) := by decide +kernel
theorem dX5_play_85 : decode cX5_play 85 = .ok (.iinc 3 1, 3) := by decide +kernel
theorem dX5_play_88 : decode cX5_play 88 = .ok (.goto (-51), 3) := by decide +kernel
theorem dX5_play_91 : decode cX5_play 91 = .ok (.aload_n 0, 1) := by decide +kernel
theorem dX5_play_92 : decode cX5_play 92 = .ok (.getfield 29, 3) := by decide +kernel
theorem dX5_play_95 : decode cX5_play 95 = .ok (.invokevirtual 174, 3) := by decide +kernel
theorem dX5_play_98 : decode cX5_play 98 = .ok (.iload_n 1, 1) := by decide +kernel
theorem dX5_play_99 : decode cX5_play 99 = .ok (.ireturn, 1) := by decide +kernel
theorem dX5_undo_0 : decode cX5_undo 0 = .ok (.aload_n 0, 1) := by decide +kernel
theorem dX5_undo_1 : decode cX5_undo 1 = .ok (.getfield 22, 3) := by decide +kernel
theorem dX5_undo_4 : decode cX5_undo 4 = .ok (.invokevirtual 192, 3) := by decide +kernel
theorem dX5_undo_7 : decode cX5_undo 7 = .ok (.ifCond .ne 13, 3) := by decide +kernel
theorem dX5_undo_10 : decode cX5_undo 10 = .ok (.new 59, 3) := by decide +kernel
theorem dX5_undo_13 : decode cX5_undo 13 = .ok (.dup, 1) := by decide +kernel
theorem dX5_undo_14 : decode cX5_undo 14 = .ok (.ldc 195, 2) := by decide +kernel
theorem dX5_undo_16 : decode cX5_undo 16 = .ok (.invokespecial 63, 3) := by decide +kernel
theorem dX5_undo_19 : decode cX5_undo 19 = .ok (.athrow, 1) := by decide +kernel
theorem dX5_undo_20 : decode cX5_undo 20 = .ok (.aload_n 0, 1) := by decide +kernel
theorem dX5_undo_21 : decode cX5_undo 21 = .ok (.getfield 22, 3) := by decide +kernel
theorem dX5_undo_24 : decode cX5_undo 24 = .ok (.aload_n 0, 1) := by decide +kernel
theorem dX5_undo_25 : decode cX5_undo 25 = .ok (.getfield 10, 3) := by decide +kernel
theorem dX5_undo_28 : decode cX5_undo 28 = .ok (.invokevirtual 197, 3) := by decide +kernel
theorem dX5_undo_31 : decode cX5_undo 31 = .ok (.aload_n 0, 1) := by decide +kernel
theorem dX5_undo_32 : decode cX5_undo 32 = .ok (.getfield 22, 3) := by decide +kernel
theorem dX5_undo_35 : decode cX5_undo 35 = .ok (.invokevirtual 192, 3) := by decide +kernel
theorem dX5_undo_38 : decode cX5_undo 38 = .ok (.ireturn, 1) := by decide +kernel
theorem dX5_keep_0 : decode cX5_keep 0 = .ok (.aload_n 0, 1) := by decide +kernel
theorem dX5_keep_1 : decode cX5_keep 1 = .ok (.getfield 16, 3) := by decide +kernel
theorem dX5_keep_4 : decode cX5_keep 4 = .ok (.aload_n 0, 1) := by decide +kernel
theorem dX5_keep_5 : decode cX5_keep 5 = .ok (.getfield 10, 3) := by decide +kernel
theorem dX5_keep_8 : decode cX5_keep 8 = .ok (.invokevirtual 200, 3) := by decide +kernel
theorem dX5_keep_11 : decode cX5_keep 11 = .ok (.aload_n 0, 1) := by decide +kernel
theorem dX5_keep_12 : decode cX5_keep 12 = .ok (.iconst 1, 1) := by decide +kernel
theorem dX5_keep_13 : decode cX5_keep 13 = .ok (.putfield 40, 3) := by decide +kernel
theorem dX5_keep_16 : decode cX5_keep 16 = .ok (.aload_n 0, 1) := by decide +kernel
theorem dX5_keep_17 : decode cX5_keep 17 = .ok (.getfield 10, 3) := by decide +kernel
theorem dX5_keep_20 : decode cX5_keep 20 = .ok (.invokevirtual 86, 3) := by decide +kernel
theorem dX5_keep_23 : decode cX5_keep 23 = .ok (.ireturn, 1) := by decide +kernel
theorem dX5_restore_0 : decode cX5_restore 0 = .ok (.aload_n 0, 1) := by decide +kernel
theorem dX5_restore_1 : decode cX5_restore 1 = .ok (.getfield 40, 3) := by decide +kernel
theorem dX5_restore_4 : decode cX5_restore 4 = .ok (.ifCond .ne 13, 3) := by decide +kernel
theorem dX5_restore_7 : decode cX5_restore 7 = .ok (.new 59, 3) := by decide +kernel
theorem dX5_restore_10 : decode cX5_restore 10 = .ok (.dup, 1) := by decide +kernel
theorem dX5_restore_11 : decode cX5_restore 11 = .ok (.ldc 202, 2) := by decide +kernel
theorem dX5_restore_13 : decode cX5_restore 13 = .ok (.invokespecial 63, 3) := by decide +kernel
theorem dX5_restore_16 : decode cX5_restore 16 = .ok (.athrow, 1) := by decide +kernel
theorem dX5_restore_17 : decode cX5_restore 17 = .ok (.aload_n 0, 1) := by decide +kernel
theorem dX5_restore_18 : decode cX5_restore 18 = .ok (.getfield 22, 3) := by decide +kernel
theorem dX5_restore_21 : decode cX5_restore 21 = .ok (.aload_n 0, 1) := by decide +kernel
theorem dX5_restore_22 : decode cX5_restore 22 = .ok (.getfield 10, 3) := by decide +kernel
theorem dX5_restore_25 : decode cX5_restore 25 = .ok (.invokevirtual 64, 3) := by decide +kernel
theorem dX5_restore_28 : decode cX5_restore 28 = .ok (.aload_n 0, 1) := by decide +kernel
theorem dX5_restore_29 : decode cX5_restore 29 = .ok (.getfield 10, 3) := by decide +kernel
theorem dX5_restore_32 : decode cX5_restore 32 = .ok (.aload_n 0, 1) := by decide +kernel
theorem dX5_restore_33 : decode cX5_restore 33 = .ok (.getfield 16, 3) := by decide +kernel
theorem dX5_restore_36 : decode cX5_restore 36 = .ok (.invokevirtual 200, 3) := by decide +kernel
theorem dX5_restore_39 : decode cX5_restore 39 = .ok (.aload_n 0, 1) := by decide +kernel
theorem dX5_restore_40 : decode cX5_restore 40 = .ok (.getfield 10, 3) := by decide +kernel
theorem dX5_restore_43 : decode cX5_restore 43 = .ok (.invokevirtual 86, 3) := by decide +kernel
theorem dX5_restore_46 : decode cX5_restore 46 = .ok (.ireturn, 1) := by decide +kernel
theorem dX5_place_0 : decode cX5_place 0 = .ok (.aload_n 0, 1) := by decide +kernel
theorem dX5_place_1 : decode cX5_place 1 = .ok (.iload_n 1, 1) := by decide +kernel
theorem dX5_place_2 : decode cX5_place 2 = .ok (.invokevirtual 90, 3) := by decide +kernel
theorem dX5_place_5 : decode cX5_place 5 = .ok (.astore_n 3, 1) := by decide +kernel
theorem dX5_place_6 : decode cX5_place 6 = .ok (.iload_n 2, 1) := by decide +kernel
theorem dX5_place_7 : decode cX5_place 7 = .ok (.ifCond .lt 11, 3) := by decide +kernel
theorem dX5_place_10 : decode cX5_place 10 = .ok (.iload_n 2, 1) := by decide +kernel
theorem dX5_place_11 : decode cX5_place 11 = .ok (.aload_n 3, 1) := by decide +kernel
theorem dX5_place_12 : decode cX5_place 12 = .ok (.invokevirtual 130, 3) := by decide +kernel
theorem dX5_place_15 : decode cX5_place 15 = .ok (.if_icmp .lt 13, 3) := by decide +kernel
theorem dX5_place_18 : decode cX5_place 18 = .ok (.new 204, 3) := by decide +kernel
theorem dX5_place_21 : decode cX5_place 21 = .ok (.dup, 1) := by decide +kernel
theorem dX5_place_22 : decode cX5_place 22 = .ok (.ldc 206, 2) := by decide +kernel
theorem dX5_place_24 : decode cX5_place 24 = .ok (.invokespecial 208, 3) := by decide +kernel
theorem dX5_place_27 : decode cX5_place 27 = .ok (.athrow, 1) := by decide +kernel
theorem dX5_place_28 : decode cX5_place 28 = .ok (.aload_n 3, 1) := by decide +kernel
theorem dX5_place_29 : decode cX5_place 29 = .ok (.iload_n 2, 1) := by decide +kernel
theorem dX5_place_30 : decode cX5_place 30 = .ok (.invokevirtual 209, 3) := by decide +kernel
theorem dX5_place_33 : decode cX5_place 33 = .ok (.ireturn, 1) := by decide +kernel
theorem dX5_ropeOf_0 : decode cX5_ropeOf 0 = .ok (.aload_n 0, 1) := by decide +kernel
theorem dX5_ropeOf_1 : decode cX5_ropeOf 1 = .ok (.iload_n 1, 1) := by decide +kernel
theorem dX5_ropeOf_2 : decode cX5_ropeOf 2 = .ok (.invokevirtual 90, 3) := by decide +kernel
theorem dX5_ropeOf_5 : decode cX5_ropeOf 5 = .ok (.astore_n 3, 1) := by decide +kernel
theorem dX5_ropeOf_6 : decode cX5_ropeOf 6 = .ok (.aload_n 0, 1) := by decide +kernel
theorem dX5_ropeOf_7 : decode cX5_ropeOf 7 = .ok (.iload_n 2, 1) := by decide +kernel
theorem dX5_ropeOf_8 : decode cX5_ropeOf 8 = .ok (.bipush 6, 2) := by decide +kernel
theorem dX5_ropeOf_10 : decode cX5_ropeOf 10 = .ok (.invokevirtual 212, 3) := by decide +kernel
theorem dX5_ropeOf_13 : decode cX5_ropeOf 13 = .ok (.aload_n 0, 1) := by decide +kernel
theorem dX5_ropeOf_14 : decode cX5_ropeOf 14 = .ok (.aload_n 3, 1) := by decide +kernel
theorem dX5_ropeOf_15 : decode cX5_ropeOf 15 = .ok (.iload_n 2, 1) := by decide +kernel
theorem dX5_ropeOf_16 : decode cX5_ropeOf 16 = .ok (.invokevirtual 215, 3) := by decide +kernel
theorem dX5_ropeOf_19 : decode cX5_ropeOf 19 = .ok (.ireturn, 1) := by decide +kernel
theorem dX5_hueOf_0 : decode cX5_hueOf 0 = .ok (.aload_n 0, 1) := by decide +kernel
theorem dX5_hueOf_1 : decode cX5_hueOf 1 = .ok (.iload_n 1, 1) := by decide +kernel
theorem dX5_hueOf_2 : decode cX5_hueOf 2 = .ok (.invokevirtual 90, 3) := by decide +kernel
theorem dX5_hueOf_5 : decode cX5_hueOf 5 = .ok (.astore 4, 2) := by decide +kernel
theorem dX5_hueOf_7 : decode cX5_hueOf 7 = .ok (.aload_n 0, 1) := by decide +kernel
theorem dX5_hueOf_8 : decode cX5_hueOf 8 = .ok (.iload_n 2, 1) := by decide +kernel
theorem dX5_hueOf_9 : decode cX5_hueOf 9 = .ok (.invokevirtual 44, 3) := by decide +kernel
theorem dX5_hueOf_12 : decode cX5_hueOf 12 = .ok (.aload_n 0, 1) := by decide +kernel
theorem dX5_hueOf_13 : decode cX5_hueOf 13 = .ok (.iload_n 3, 1) := by decide +kernel
theorem dX5_hueOf_14 : decode cX5_hueOf 14 = .ok (.iconst 4, 1) := by decide +kernel
theorem dX5_hueOf_15 : decode cX5_hueOf 15 = .ok (.invokevirtual 212, 3) := by decide +kernel
theorem dX5_hueOf_18 : decode cX5_hueOf 18 = .ok (.aload 4, 2) := by decide +kernel
theorem dX5_hueOf_20 : decode cX5_hueOf 20 = .ok (.iload_n 2, 1) := by decide +kernel
theorem dX5_hueOf_21 : decode cX5_hueOf 21 = .ok (.iload_n 3, 1) := by decide +kernel
theorem dX5_hueOf_22 : decode cX5_hueOf 22 = .ok (.invokevirtual 219, 3) := by decide +kernel
theorem dX5_hueOf_25 : decode cX5_hueOf 25 = .ok (.ireturn, 1) := by decide +kernel
theorem dX5_gapOf_0 : decode cX5_gapOf 0 = .ok (.aload_n 0, 1) := by decide +kernel
theorem dX5_gapOf_1 : decode cX5_gapOf 1 = .ok (.iload_n 1, 1) := by decide +kernel
theorem dX5_gapOf_2 : decode cX5_gapOf 2 = .ok (.invokevirtual 44, 3) := by decide +kernel
theorem dX5_gapOf_5 : decode cX5_gapOf 5 = .ok (.aload_n 0, 1) := by decide +kernel
theorem dX5_gapOf_6 : decode cX5_gapOf 6 = .ok (.getfield 10, 3) := by decide +kernel
theorem dX5_gapOf_9 : decode cX5_gapOf 9 = .ok (.iload_n 1, 1) := by decide +kernel
theorem dX5_gapOf_10 : decode cX5_gapOf 10 = .ok (.invokevirtual 68, 3) := by decide +kernel
theorem dX5_gapOf_13 : decode cX5_gapOf 13 = .ok (.ireturn, 1) := by decide +kernel
theorem dX5_count_0 : decode cX5_count 0 = .ok (.aload_n 0, 1) := by decide +kernel
theorem dX5_count_1 : decode cX5_count 1 = .ok (.iload_n 1, 1) := by decide +kernel
theorem dX5_count_2 : decode cX5_count 2 = .ok (.bipush 8, 2) := by decide +kernel
theorem dX5_count_4 : decode cX5_count 4 = .ok (.invokevirtual 212, 3) := by decide +kernel
theorem dX5_count_7 : decode cX5_count 7 = .ok (.aload_n 0, 1) := by decide +kernel
theorem dX5_count_8 : decode cX5_count 8 = .ok (.iload_n 1, 1) := by decide +kernel
theorem dX5_count_9 : decode cX5_count 9 = .ok (.invokevirtual 223, 3) := by decide +kernel
theorem dX5_count_12 : decode cX5_count 12 = .ok (.ireturn, 1) := by decide +kernel
theorem dX5_refusal_0 : decode cX5_refusal 0 = .ok (.aload_n 0, 1) := by decide +kernel
theorem dX5_refusal_1 : decode cX5_refusal 1 = .ok (.iload_n 1, 1) := by decide +kernel
theorem dX5_refusal_2 : decode cX5_refusal 2 = .ok (.invokevirtual 90, 3) := by decide +kernel
theorem dX5_refusal_5 : decode cX5_refusal 5 = .ok (.astore 4, 2) := by decide +kernel
theorem dX5_refusal_7 : decode cX5_refusal 7 = .ok (.aload_n 0, 1) := by decide +kernel
theorem dX5_refusal_8 : decode cX5_refusal 8 = .ok (.iload_n 2, 1) := by decide +kernel
theorem dX5_refusal_9 : decode cX5_refusal 9 = .ok (.invokevirtual 44, 3) := by decide +kernel
theorem dX5_refusal_12 : decode cX5_refusal 12 = .ok (.aload_n 0, 1) := by decide +kernel
theorem dX5_refusal_13 : decode cX5_refusal 13 = .ok (.iload_n 2, 1) := by decide +kernel
theorem dX5_refusal_14 : decode cX5_refusal 14 = .ok (.iload_n 3, 1) := by decide +kernel
theorem dX5_refusal_15 : decode cX5_refusal 15 = .ok (.invokevirtual 96, 3) := by decide +kernel
theorem dX5_refusal_18 : decode cX5_refusal 18 = .ok (.aload 4, 2) := by decide +kernel
theorem dX5_refusal_20 : decode cX5_refusal 20 = .ok (.iload_n 2, 1) := by decide +kernel
theorem dX5_refusal_21 : decode cX5_refusal 21 = .ok (.iload_n 3, 1) := by decide +kernel
theorem dX5_refusal_22 : decode cX5_refusal 22 = .ok (.aload_n 0, 1) := by decide +kernel
theorem dX5_refusal_23 : decode cX5_refusal 23 = .ok (.getfield 10, 3) := by decide +kernel
theorem dX5_refusal_26 : decode cX5_refusal 26 = .ok (.iload_n 2, 1) := by decide +kernel
theorem dX5_refusal_27 : decode cX5_refusal 27 = .ok (.invokevirtual 68, 3) := by decide +kernel
theorem dX5_refusal_30 : decode cX5_refusal 30 = .ok (.invokevirtual 99, 3) := by decide +kernel
theorem dX5_refusal_33 : decode cX5_refusal 33 = .ok (.ireturn, 1) := by decide +kernel
theorem dX5_meeting_0 : decode cX5_meeting 0 = .ok (.aload_n 0, 1) := by decide +kernel
theorem dX5_meeting_1 : decode cX5_meeting 1 = .ok (.iload_n 1, 1) := by decide +kernel
theorem dX5_meeting_2 : decode cX5_meeting 2 = .ok (.invokevirtual 44, 3) := by decide +kernel
theorem dX5_meeting_5 : decode cX5_meeting 5 = .ok (.aload_n 0, 1) := by decide +kernel
theorem dX5_meeting_6 : decode cX5_meeting 6 = .ok (.iload_n 3, 1) := by decide +kernel
theorem dX5_meeting_7 : decode cX5_meeting 7 = .ok (.invokevirtual 44, 3) := by decide +kernel
theorem dX5_meeting_10 : decode cX5_meeting 10 = .ok (.aload_n 0, 1) := by decide +kernel
theorem dX5_meeting_11 : decode cX5_meeting 11 = .ok (.iload_n 1, 1) := by decide +kernel
theorem dX5_meeting_12 : decode cX5_meeting 12 = .ok (.iload_n 2, 1) := by decide +kernel
theorem dX5_meeting_13 : decode cX5_meeting 13 = .ok (.invokevirtual 96, 3) := by decide +kernel
theorem dX5_meeting_16 : decode cX5_meeting 16 = .ok (.aload_n 0, 1) := by decide +kernel
theorem dX5_meeting_17 : decode cX5_meeting 17 = .ok (.iload_n 3, 1) := by decide +kernel
theorem dX5_meeting_18 : decode cX5_meeting 18 = .ok (.iload 4, 2) := by decide +kernel
theorem dX5_meeting_20 : decode cX5_meeting 20 = .ok (.invokevirtual 96, 3) := by decide +kernel
theorem dX5_meeting_23 : decode cX5_meeting 23 = .ok (.aload_n 0, 1) := by decide +kernel
theorem dX5_meeting_24 : decode cX5_meeting 24 = .ok (.getfield 10, 3) := by decide +kernel
theorem dX5_meeting_27 : decode cX5_meeting 27 = .ok (.iload_n 1, 1) := by decide +kernel
theorem dX5_meeting_28 : decode cX5_meeting 28 = .ok (.invokevirtual 68, 3) := by decide +kernel
theorem dX5_meeting_31 : decode cX5_meeting 31 = .ok (.iload_n 2, 1) := by decide +kernel
theorem dX5_meeting_32 : decode cX5_meeting 32 = .ok (.aload_n 0, 1) := by decide +kernel
theorem dX5_meeting_33 : decode cX5_meeting 33 = .ok (.getfield 10, 3) := by decide +kernel
theorem dX5_meeting_36 : decode cX5_meeting 36 = .ok (.iload_n 3, 1) := by decide +kernel
theorem dX5_meeting_37 : decode cX5_meeting 37 = .ok (.invokevirtual 68, 3) := by decide +kernel
theorem dX5_meeting_40 : decode cX5_meeting 40 = .ok (.iload 4, 2) := by decide +kernel
theorem dX5_meeting_42 : decode cX5_meeting 42 = .ok (.invokestatic 226, 3) := by decide +kernel
theorem dX5_meeting_45 : decode cX5_meeting 45 = .ok (.ireturn, 1) := by decide +kernel
theorem dX5_walked_0 : decode cX5_walked 0 = .ok (.aload_n 0, 1) := by decide +kernel
theorem dX5_walked_1 : decode cX5_walked 1 = .ok (.iload_n 1, 1) := by decide +kernel
theorem dX5_walked_2 : decode cX5_walked 2 = .ok (.invokevirtual 44, 3) := by decide +kernel
theorem dX5_walked_5 : decode cX5_walked 5 = .ok (.aload_n 0, 1) := by decide +kernel
theorem dX5_walked_6 : decode cX5_walked 6 = .ok (.iload_n 3, 1) := by decide +kernel
theorem dX5_walked_7 : decode cX5_walked 7 = .ok (.invokevirtual 44, 3) := by decide +kernel
theorem dX5_walked_10 : decode cX5_walked 10 = .ok (.aload_n 0, 1) := by decide +kernel
theorem dX5_walked_11 : decode cX5_walked 11 = .ok (.iload_n 1, 1) := by decide +kernel
theorem dX5_walked_12 : decode cX5_walked 12 = .ok (.iload_n 2, 1) := by decide +kernel
theorem dX5_walked_13 : decode cX5_walked 13 = .ok (.invokevirtual 96, 3) := by decide +kernel
theorem dX5_walked_16 : decode cX5_walked 16 = .ok (.aload_n 0, 1) := by decide +kernel
theorem dX5_walked_17 : decode cX5_walked 17 = .ok (.iload_n 3, 1) := by decide +kernel
theorem dX5_walked_18 : decode cX5_walked 18 = .ok (.iload 4, 2) := by decide +kernel
theorem dX5_walked_20 : decode cX5_walked 20 = .ok (.invokevirtual 96, 3) := by decide +kernel
theorem dX5_walked_23 : decode cX5_walked 23 = .ok (.aload_n 0, 1) := by decide +kernel
theorem dX5_walked_24 : decode cX5_walked 24 = .ok (.getfield 10, 3) := by decide +kernel
theorem dX5_walked_27 : decode cX5_walked 27 = .ok (.iload_n 1, 1) := by decide +kernel
theorem dX5_walked_28 : decode cX5_walked 28 = .ok (.invokevirtual 68, 3) := by decide +kernel
theorem dX5_walked_31 : decode cX5_walked 31 = .ok (.iload_n 2, 1) := by decide +kernel
theorem dX5_walked_32 : decode cX5_walked 32 = .ok (.aload_n 0, 1) := by decide +kernel
theorem dX5_walked_33 : decode cX5_walked 33 = .ok (.getfield 10, 3) := by decide +kernel
theorem dX5_walked_36 : decode cX5_walked 36 = .ok (.iload_n 3, 1) := by decide +kernel
theorem dX5_walked_37 : decode cX5_walked 37 = .ok (.invokevirtual 68, 3) := by decide +kernel
theorem dX5_walked_40 : decode cX5_walked 40 = .ok (.iload 4, 2) := by decide +kernel
theorem dX5_walked_42 : decode cX5_walked 42 = .ok (.invokestatic 232, 3) := by decide +kernel
theorem dX5_walked_45 : decode cX5_walked 45 = .ok (.ireturn, 1) := by decide +kernel
theorem dX5_phases_0 : decode cX5_phases 0 = .ok (.aload_n 0, 1) := by decide +kernel
theorem dX5_phases_1 : decode cX5_phases 1 = .ok (.iload_n 1, 1) := by decide +kernel
theorem dX5_phases_2 : decode cX5_phases 2 = .ok (.invokevirtual 90, 3) := by decide +kernel
theorem dX5_phases_5 : decode cX5_phases 5 = .ok (.astore 4, 2) := by decide +kernel
theorem dX5_phases_7 : decode cX5_phases 7 = .ok (.aload_n 0, 1) := by decide +kernel
theorem dX5_phases_8 : decode cX5_phases 8 = .ok (.iload_n 2, 1) := by decide +kernel
theorem dX5_phases_9 : decode cX5_phases 9 = .ok (.invokevirtual 44, 3) := by decide +kernel
theorem dX5_phases_12 : decode cX5_phases 12 = .ok (.aload_n 0, 1) := by decide +kernel
theorem dX5_phases_13 : decode cX5_phases 13 = .ok (.iload_n 3, 1) := by decide +kernel
theorem dX5_phases_14 : decode cX5_phases 14 = .ok (.iconst 3, 1) := by decide +kernel
theorem dX5_phases_15 : decode cX5_phases 15 = .ok (.invokevirtual 212, 3) := by decide +kernel
theorem dX5_phases_18 : decode cX5_phases 18 = .ok (.aload 4, 2) := by decide +kernel
theorem dX5_phases_20 : decode cX5_phases 20 = .ok (.iload_n 2, 1) := by decide +kernel
theorem dX5_phases_21 : decode cX5_phases 21 = .ok (.aload_n 0, 1) := by decide +kernel
theorem dX5_phases_22 : decode cX5_phases 22 = .ok (.getfield 10, 3) := by decide +kernel
theorem dX5_phases_25 : decode cX5_phases 25 = .ok (.iload_n 2, 1) := by decide +kernel
theorem dX5_phases_26 : decode cX5_phases 26 = .ok (.invokevirtual 68, 3) := by decide +kernel
theorem dX5_phases_29 : decode cX5_phases 29 = .ok (.iload_n 3, 1) := by decide +kernel
theorem dX5_phases_30 : decode cX5_phases 30 = .ok (.invokevirtual 235, 3) := by decide +kernel
theorem dX5_phases_33 : decode cX5_phases 33 = .ok (.ireturn, 1) := by decide +kernel
theorem dX5_bestHue_0 : decode cX5_bestHue 0 = .ok (.aload_n 0, 1) := by decide +kernel
theorem dX5_bestHue_1 : decode cX5_bestHue 1 = .ok (.aload_n 0, 1) := by decide +kernel
theorem dX5_bestHue_2 : decode cX5_bestHue 2 = .ok (.iload_n 1, 1) := by decide +kernel
theorem dX5_bestHue_3 : decode cX5_bestHue 3 = .ok (.invokevirtual 90, 3) := by decide +kernel
theorem dX5_bestHue_6 : decode cX5_bestHue 6 = .ok (.invokevirtual 238, 3) := by decide +kernel
theorem dX5_bestHue_9 : decode cX5_bestHue 9 = .ok (.ireturn, 1) := by decide +kernel
theorem dX5_joining_0 : decode cX5_joining 0 = .ok (.aload_n 0, 1) := by decide +kernel
theorem dX5_joining_1 : decode cX5_joining 1 = .ok (.iload_n 1, 1) := by decide +kernel
theorem dX5_joining_2 : decode cX5_joining 2 = .ok (.invokevirtual 90, 3) := by decide +kernel
theorem dX5_joining_5 : decode cX5_joining 5 = .ok (.astore_n 3, 1) := by decide +kernel
theorem dX5_joining_6 : decode cX5_joining 6 = .ok (.aload_n 0, 1) := by decide +kernel
theorem dX5_joining_7 : decode cX5_joining 7 = .ok (.iload_n 2, 1) := by decide +kernel
theorem dX5_joining_8 : decode cX5_joining 8 = .ok (.invokevirtual 90, 3) := by decide +kernel
theorem dX5_joining_11 : decode cX5_joining 11 = .ok (.astore 4, 2) := by decide +kernel
theorem dX5_joining_13 : decode cX5_joining 13 = .ok (.iload_n 1, 1) := by decide +kernel
theorem dX5_joining_14 : decode cX5_joining 14 = .ok (.iload_n 2, 1) := by decide +kernel
theorem dX5_joining_15 : decode cX5_joining 15 = .ok (.if_icmp .ne 7, 3) := by decide +kernel
theorem dX5_joining_18 : decode cX5_joining 18 = .ok (.iconst 1, 1) := by decide +kernel
theorem dX5_joining_19 : decode cX5_joining 19 = .ok (.goto 10, 3) := by decide +kernel
theorem dX5_joining_22 : decode cX5_joining 22 = .ok (.aload_n 0, 1) := by decide +kernel
theorem dX5_joining_23 : decode cX5_joining 23 = .ok (.aload_n 3, 1) := by decide +kernel
theorem dX5_joining_24 : decode cX5_joining 24 = .ok (.aload 4, 2) := by decide +kernel
theorem dX5_joining_26 : decode cX5_joining 26 = .ok (.invokevirtual 145, 3) := by decide +kernel
theorem dX5_joining_29 : decode cX5_joining 29 = .ok (.ireturn, 1) := by decide +kernel
theorem dX5_greatest_0 : decode cX5_greatest 0 = .ok (.aload_n 0, 1) := by decide +kernel
theorem dX5_greatest_1 : decode cX5_greatest 1 = .ok (.aload_n 0, 1) := by decide +kernel
theorem dX5_greatest_2 : decode cX5_greatest 2 = .ok (.iload_n 1, 1) := by decide +kernel
theorem dX5_greatest_3 : decode cX5_greatest 3 = .ok (.invokevirtual 90, 3) := by decide +kernel
theorem dX5_greatest_6 : decode cX5_greatest 6 = .ok (.invokevirtual 117, 3) := by decide +kernel
theorem dX5_greatest_9 : decode cX5_greatest 9 = .ok (.ireturn, 1) := by decide +kernel
theorem dX5_fullness_0 : decode cX5_fullness 0 = .ok (.aload_n 0, 1) := by decide +kernel
theorem dX5_fullness_1 : decode cX5_fullness 1 = .ok (.getfield 10, 3) := by decide +kernel
theorem dX5_fullness_4 : decode cX5_fullness 4 = .ok (.invokevirtual 241, 3) := by decide +kernel
theorem dX5_fullness_7 : decode cX5_fullness 7 = .ok (.istore_n 1, 1) := by decide +kernel
theorem dX5_fullness_8 : decode cX5_fullness 8 = .ok (.iload_n 1, 1) := by decide +kernel
theorem dX5_fullness_9 : decode cX5_fullness 9 = .ok (.aload_n 0, 1) := by decide +kernel
theorem dX5_fullness_10 : decode cX5_fullness 10 = .ok (.getfield 10, 3) := by decide +kernel
theorem dX5_fullness_13 : decode cX5_fullness 13 = .ok (.invokevirtual 244, 3) := by decide +kernel
theorem dX5_fullness_16 : decode cX5_fullness 16 = .ok (.isub, 1) := by decide +kernel
theorem dX5_fullness_17 : decode cX5_fullness 17 = .ok (.istore_n 2, 1) := by decide +kernel
theorem dX5_fullness_18 : decode cX5_fullness 18 = .ok (.iload_n 1, 1) := by decide +kernel
theorem dX5_fullness_19 : decode cX5_fullness 19 = .ok (.ifCond .le 11, 3) := by decide +kernel
theorem dX5_fullness_22 : decode cX5_fullness 22 = .ok (.iload_n 2, 1) := by decide +kernel
theorem dX5_fullness_23 : decode cX5_fullness 23 = .ok (.i2d, 1) := by decide +kernel
theorem dX5_fullness_24 : decode cX5_fullness 24 = .ok (.iload_n 1, 1) := by decide +kernel
theorem dX5_fullness_25 : decode cX5_fullness 25 = .ok (.i2d, 1) := by decide +kernel
theorem dX5_fullness_26 : decode cX5_fullness 26 = .ok (.ddiv, 1) := by decide +kernel
theorem dX5_fullness_27 : decode cX5_fullness 27 = .ok (.goto 4, 3) := by decide +kernel
theorem dX5_fullness_30 : decode cX5_fullness 30 = .ok (.dconst 1, 1) := by decide +kernel
theorem dX5_fullness_31 : decode cX5_fullness 31 = .ok (.dreturn, 1) := by decide +kernel
theorem dX5_digest_0 : decode cX5_digest 0 = .ok (.ldc2_w 247, 3) := by decide +kernel
theorem dX5_digest_3 : decode cX5_digest 3 = .ok (.lstore_n 1, 1) := by decide +kernel
theorem dX5_digest_4 : decode cX5_digest 4 = .ok (.iconst 0, 1) := by decide +kernel
theorem dX5_digest_5 : decode cX5_digest 5 = .ok (.istore_n 3, 1) := by decide +kernel
theorem dX5_digest_6 : decode cX5_digest 6 = .ok (.iload_n 3, 1) := by decide +kernel
theorem dX5_digest_7 : decode cX5_digest 7 = .ok (.bipush 8, 2) := by decide +kernel
theorem dX5_digest_9 : decode cX5_digest 9 = .ok (.if_icmp .ge 20, 3) := by decide +kernel
theorem dX5_digest_12 : decode cX5_digest 12 = .ok (.lload_n 1, 1) := by decide +kernel
theorem dX5_digest_13 : decode cX5_digest 13 = .ok (.aload_n 0, 1) := by decide +kernel
theorem dX5_digest_14 : decode cX5_digest 14 = .ok (.iload_n 3, 1) := by decide +kernel
theorem dX5_digest_15 : decode cX5_digest 15 = .ok (.invokevirtual 223, 3) := by decide +kernel
theorem dX5_digest_18 : decode cX5_digest 18 = .ok (.i2l, 1) := by decide +kernel
theorem dX5_digest_19 : decode cX5_digest 19 = .ok (.invokestatic 249, 3) := by decide +kernel
theorem dX5_digest_22 : decode cX5_digest 22 = .ok (.lstore_n 1, 1) := by decide +kernel
theorem dX5_digest_23 : decode cX5_digest 23 = .ok (.iinc 3 1, 3) := by decide +kernel
theorem dX5_digest_26 : decode cX5_digest 26 = .ok (.goto (-20), 3) := by decide +kernel
theorem dX5_digest_29 : decode cX5_digest 29 = .ok (.iconst 0, 1) := by decide +kernel
theorem dX5_digest_30 : decode cX5_digest 30 = .ok (.istore_n 3, 1) := by decide +kernel
theorem dX5_digest_31 : decode cX5_digest 31 = .ok (.iload_n 3, 1) := by decide +kernel
theorem dX5_digest_32 : decode cX5_digest 32 = .ok (.bipush 8, 2) := by decide +kernel
theorem dX5_digest_34 : decode cX5_digest 34 = .ok (.if_icmp .ge 23, 3) := by decide +kernel
theorem dX5_digest_37 : decode cX5_digest 37 = .ok (.lload_n 1, 1) := by decide +kernel
theorem dX5_digest_38 : decode cX5_digest 38 = .ok (.aload_n 0, 1) := by decide +kernel
theorem dX5_digest_39 : decode cX5_digest 39 = .ok (.getfield 10, 3) := by decide +kernel
theorem dX5_digest_42 : decode cX5_digest 42 = .ok (.iload_n 3, 1) := by decide +kernel
theorem dX5_digest_43 : decode cX5_digest 43 = .ok (.invokevirtual 68, 3) := by decide +kernel
theorem dX5_digest_46 : decode cX5_digest 46 = .ok (.i2l, 1) := by decide +kernel
theorem dX5_digest_47 : decode cX5_digest 47 = .ok (.invokestatic 249, 3) := by decide +kernel
theorem dX5_digest_50 : decode cX5_digest 50 = .ok (.lstore_n 1, 1) := by decide +kernel
theorem dX5_digest_51 : decode cX5_digest 51 = .ok (.iinc 3 1, 3) := by decide +kernel
theorem dX5_digest_54 : decode cX5_digest 54 = .ok (.goto (-23), 3) := by decide +kernel
theorem dX5_digest_57 : decode cX5_digest 57 = .ok (.iconst 0, 1) := by decide +kernel
theorem dX5_digest_58 : decode cX5_digest 58 = .ok (.istore_n 3, 1) := by decide +kernel
theorem dX5_digest_59 : decode cX5_digest 59 = .ok (.iload_n 3, 1) := by decide +kernel
theorem dX5_digest_60 : decode cX5_digest 60 = .ok (.aload_n 0, 1) := by decide +kernel
theorem dX5_digest_61 : decode cX5_digest 61 = .ok (.getfield 10, 3) := by decide +kernel
theorem dX5_digest_64 : decode cX5_digest 64 = .ok (.invokevirtual 86, 3) := by decide +kernel
theorem dX5_digest_67 : decode cX5_digest 67 = .ok (.if_icmp .ge 16, 3) := by decide +kernel
theorem dX5_digest_70 : decode cX5_digest 70 = .ok (.aload_n 0, 1) := by decide +kernel
theorem dX5_digest_71 : decode cX5_digest 71 = .ok (.lload_n 1, 1) := by decide +kernel
theorem dX5_digest_72 : decode cX5_digest 72 = .ok (.iload_n 3, 1) := by decide +kernel
theorem dX5_digest_73 : decode cX5_digest 73 = .ok (.invokevirtual 253, 3) := by decide +kernel
theorem dX5_digest_76 : decode cX5_digest 76 = .ok (.lstore_n 1, 1) := by decide +kernel
theorem dX5_digest_77 : decode cX5_digest 77 = .ok (.iinc 3 1, 3) := by decide +kernel
theorem dX5_digest_80 : decode cX5_digest 80 = .ok (.goto (-21), 3) := by decide +kernel
theorem dX5_digest_83 : decode cX5_digest 83 = .ok (.iconst 0, 1) := by decide +kernel
theorem dX5_digest_84 : decode cX5_digest 84 = .ok (.istore_n 3, 1) := by decide +kernel
theorem dX5_digest_85 : decode cX5_digest 85 = .ok (.iload_n 3, 1) := by decide +kernel
theorem dX5_digest_86 : decode cX5_digest 86 = .ok (.bipush 8, 2) := by decide +kernel
theorem dX5_digest_88 : decode cX5_digest 88 = .ok (.if_icmp .ge 36, 3) := by decide +kernel
theorem dX5_digest_91 : decode cX5_digest 91 = .ok (.lload_n 1, 1) := by decide +kernel
theorem dX5_digest_92 : decode cX5_digest 92 = .ok (.aload_n 0, 1) := by decide +kernel
theorem dX5_digest_93 : decode cX5_digest 93 = .ok (.getfield 10, 3) := by decide +kernel
theorem dX5_digest_96 : decode cX5_digest 96 = .ok (.iconst 0, 1) := by decide +kernel
theorem dX5_digest_97 : decode cX5_digest 97 = .ok (.invokevirtual 68, 3) := by decide +kernel
theorem dX5_digest_100 : decode cX5_digest 100 = .ok (.iconst 1, 1) := by decide +kernel
theorem dX5_digest_101 : decode cX5_digest 101 = .ok (.aload_n 0, 1) := by decide +kernel
theorem dX5_digest_102 : decode cX5_digest 102 = .ok (.getfield 10, 3) := by decide +kernel
theorem dX5_digest_105 : decode cX5_digest 105 = .ok (.iload_n 3, 1) := by decide +kernel
theorem dX5_digest_106 : decode cX5_digest 106 = .ok (.invokevirtual 68, 3) := by decide +kernel
theorem dX5_digest_109 : decode cX5_digest 109 = .ok (.iconst 0, 1) := by decide +kernel
theorem dX5_digest_110 : decode cX5_digest 110 = .ok (.invokestatic 226, 3) := by decide +kernel
theorem dX5_digest_113 : decode cX5_digest 113 = .ok (.i2l, 1) := by decide +kernel
theorem dX5_digest_114 : decode cX5_digest 114 = .ok (.invokestatic 249, 3) := by decide +kernel
theorem dX5_digest_117 : decode cX5_digest 117 = .ok (.lstore_n 1, 1) := by decide +kernel
theorem dX5_digest_118 : decode cX5_digest 118 = .ok (.iinc 3 1, 3) := by decide +kernel
theorem dX5_digest_121 : decode cX5_digest 121 = .ok (.goto (-36), 3) := by decide +kernel
theorem dX5_digest_124 : decode cX5_digest 124 = .ok (.lload_n 1, 1) := by decide +kernel
theorem dX5_digest_125 : decode cX5_digest 125 = .ok (.aload_n 0, 1) := by decide +kernel
theorem dX5_digest_126 : decode cX5_digest 126 = .ok (.invokevirtual 257, 3) := by decide +kernel
theorem dX5_digest_129 : decode cX5_digest 129 = .ok (.invokestatic 261, 3) := by decide +kernel
theorem dX5_digest_132 : decode cX5_digest 132 = .ok (.invokestatic 249, 3) := by decide +kernel
theorem dX5_digest_135 : decode cX5_digest 135 = .ok (.lstore_n 1, 1) := by decide +kernel
theorem dX5_digest_136 : decode cX5_digest 136 = .ok (.lload_n 1, 1) := by decide +kernel
theorem dX5_digest_137 : decode cX5_digest 137 = .ok (.aload_n 0, 1) := by decide +kernel
theorem dX5_digest_138 : decode cX5_digest 138 = .ok (.getfield 29, 3) := by decide +kernel
theorem dX5_digest_141 : decode cX5_digest 141 = .ok (.invokevirtual 173, 3) := by decide +kernel
theorem dX5_digest_144 : decode cX5_digest 144 = .ok (.i2l, 1) := by decide +kernel
theorem dX5_digest_145 : decode cX5_digest 145 = .ok (.invokestatic 249, 3) := by decide +kernel
theorem dX5_digest_148 : decode cX5_digest 148 = .ok (.lstore_n 1, 1) := by decide +kernel
theorem dX5_digest_149 : decode cX5_digest 149 = .ok (.iconst 0, 1) := by decide +kernel
theorem dX5_digest_150 : decode cX5_digest 150 = .ok (.istore_n 3, 1) := by decide +kernel
theorem dX5_digest_151 : decode cX5_digest 151 = .ok (.iload_n 3, 1) := by decide +kernel
theorem dX5_digest_152 : decode cX5_digest 152 = .ok (.aload_n 0, 1) := by decide +kernel
theorem dX5_digest_153 : decode cX5_digest 153 = .ok (.getfield 29, 3) := by decide +kernel
theorem dX5_digest_156 : decode cX5_digest 156 = .ok (.invokevirtual 173, 3) := by decide +kernel
theorem dX5_digest_159 : decode cX5_digest 159 = .ok (.if_icmp .ge 23, 3) := by decide +kernel
theorem dX5_digest_162 : decode cX5_digest 162 = .ok (.lload_n 1, 1) := by decide +kernel
theorem dX5_digest_163 : decode cX5_digest 163 = .ok (.aload_n 0, 1) := by decide +kernel
theorem dX5_digest_164 : decode cX5_digest 164 = .ok (.getfield 29, 3) := by decide +kernel
theorem dX5_digest_167 : decode cX5_digest 167 = .ok (.iload_n 3, 1) := by decide +kernel
theorem dX5_digest_168 : decode cX5_digest 168 = .ok (.invokevirtual 265, 3) := by decide +kernel
theorem dX5_digest_171 : decode cX5_digest 171 = .ok (.i2l, 1) := by decide +kernel
theorem dX5_digest_172 : decode cX5_digest 172 = .ok (.invokestatic 249, 3) := by decide +kernel
theorem dX5_digest_175 : decode cX5_digest 175 = .ok (.lstore_n 1, 1) := by decide +kernel
theorem dX5_digest_176 : decode cX5_digest 176 = .ok (.iinc 3 1, 3) := by decide +kernel
theorem dX5_digest_179 : decode cX5_digest 179 = .ok (.goto (-28), 3) := by decide +kernel
theorem dX5_digest_182 : decode cX5_digest 182 = .ok (.lload_n 1, 1) := by decide +kernel
theorem dX5_digest_183 : decode cX5_digest 183 = .ok (.lreturn, 1) := by decide +kernel
theorem dX5_existing_0 : decode cX5_existing 0 = .ok (.aload_n 0, 1) := by decide +kernel
theorem dX5_existing_1 : decode cX5_existing 1 = .ok (.getfield 10, 3) := by decide +kernel
theorem dX5_existing_4 : decode cX5_existing 4 = .ok (.iload_n 1, 1) := by decide +kernel
theorem dX5_existing_5 : decode cX5_existing 5 = .ok (.invokevirtual 268, 3) := by decide +kernel
theorem dX5_existing_8 : decode cX5_existing 8 = .ok (.astore_n 2, 1) := by decide +kernel
theorem dX5_existing_9 : decode cX5_existing 9 = .ok (.aload_n 2, 1) := by decide +kernel
theorem dX5_existing_10 : decode cX5_existing 10 = .ok (.ifnonnull 14, 3) := by decide +kernel
theorem dX5_existing_13 : decode cX5_existing 13 = .ok (.new 204, 3) := by decide +kernel
theorem dX5_existing_16 : decode cX5_existing 16 = .ok (.dup, 1) := by decide +kernel
theorem dX5_existing_17 : decode cX5_existing 17 = .ok (.ldc_w 271, 3) := by decide +kernel
theorem dX5_existing_20 : decode cX5_existing 20 = .ok (.invokespecial 208, 3) := by decide +kernel
theorem dX5_existing_23 : decode cX5_existing 23 = .ok (.athrow, 1) := by decide +kernel
theorem dX5_existing_24 : decode cX5_existing 24 = .ok (.aload_n 2, 1) := by decide +kernel
theorem dX5_existing_25 : decode cX5_existing 25 = .ok (.areturn, 1) := by decide +kernel
theorem dX5_requireHue_0 : decode cX5_requireHue 0 = .ok (.iload_n 1, 1) := by decide +kernel
theorem dX5_requireHue_1 : decode cX5_requireHue 1 = .ok (.ifCond .lt 9, 3) := by decide +kernel
theorem dX5_requireHue_4 : decode cX5_requireHue 4 = .ok (.iload_n 1, 1) := by decide +kernel
theorem dX5_requireHue_5 : decode cX5_requireHue 5 = .ok (.bipush 8, 2) := by decide +kernel
theorem dX5_requireHue_7 : decode cX5_requireHue 7 = .ok (.if_icmp .lt 14, 3) := by decide +kernel
theorem dX5_requireHue_10 : decode cX5_requireHue 10 = .ok (.new 204, 3) := by decide +kernel
theorem dX5_requireHue_13 : decode cX5_requireHue 13 = .ok (.dup, 1) := by decide +kernel
theorem dX5_requireHue_14 : decode cX5_requireHue 14 = .ok (.ldc_w 273, 3) := by decide +kernel
theorem dX5_requireHue_17 : decode cX5_requireHue 17 = .ok (.invokespecial 208, 3) := by decide +kernel
theorem dX5_requireHue_20 : decode cX5_requireHue 20 = .ok (.athrow, 1) := by decide +kernel
theorem dX5_requireHue_21 : decode cX5_requireHue 21 = .ok (.return_, 1) := by decide +kernel
theorem dX5_requirePhase_0 : decode cX5_requirePhase 0 = .ok (.iload_n 2, 1) := by decide +kernel
theorem dX5_requirePhase_1 : decode cX5_requirePhase 1 = .ok (.ifCond .lt 15, 3) := by decide +kernel
theorem dX5_requirePhase_4 : decode cX5_requirePhase 4 = .ok (.iload_n 2, 1) := by decide +kernel
theorem dX5_requirePhase_5 : decode cX5_requirePhase 5 = .ok (.aload_n 0, 1) := by decide +kernel
theorem dX5_requirePhase_6 : decode cX5_requirePhase 6 = .ok (.getfield 10, 3) := by decide +kernel
theorem dX5_requirePhase_9 : decode cX5_requirePhase 9 = .ok (.iload_n 1, 1) := by decide +kernel
theorem dX5_requirePhase_10 : decode cX5_requirePhase 10 = .ok (.invokevirtual 68, 3) := by decide +kernel
theorem dX5_requirePhase_13 : decode cX5_requirePhase 13 = .ok (.if_icmp .lt 14, 3) := by decide +kernel
theorem dX5_requirePhase_16 : decode cX5_requirePhase 16 = .ok (.new 48, 3) := by decide +kernel
theorem dX5_requirePhase_19 : decode cX5_requirePhase 19 = .ok (.dup, 1) := by decide +kernel
theorem dX5_requirePhase_20 : decode cX5_requirePhase 20 = .ok (.ldc_w 275, 3) := by decide +kernel
theorem dX5_requirePhase_23 : decode cX5_requirePhase 23 = .ok (.invokespecial 52, 3) := by decide +kernel
theorem dX5_requirePhase_26 : decode cX5_requirePhase 26 = .ok (.athrow, 1) := by decide +kernel
theorem dX5_requirePhase_27 : decode cX5_requirePhase 27 = .ok (.return_, 1) := by decide +kernel
theorem dX5_requireLength_0 : decode cX5_requireLength 0 = .ok (.iload_n 1, 1) := by decide +kernel
theorem dX5_requireLength_1 : decode cX5_requireLength 1 = .ok (.iconst 1, 1) := by decide +kernel
theorem dX5_requireLength_2 : decode cX5_requireLength 2 = .ok (.if_icmp .lt 9, 3) := by decide +kernel
theorem dX5_requireLength_5 : decode cX5_requireLength 5 = .ok (.iload_n 1, 1) := by decide +kernel
theorem dX5_requireLength_6 : decode cX5_requireLength 6 = .ok (.bipush 60, 2) := by decide +kernel
theorem dX5_requireLength_8 : decode cX5_requireLength 8 = .ok (.if_icmp .le 14, 3) := by decide +kernel
theorem dX5_requireLength_11 : decode cX5_requireLength 11 = .ok (.new 48, 3) := by decide +kernel
theorem dX5_requireLength_14 : decode cX5_requireLength 14 = .ok (.dup, 1) := by decide +kernel
theorem dX5_requireLength_15 : decode cX5_requireLength 15 = .ok (.ldc_w 277, 3) := by decide +kernel
theorem dX5_requireLength_18 : decode cX5_requireLength 18 = .ok (.invokespecial 52, 3) := by decide +kernel
theorem dX5_requireLength_21 : decode cX5_requireLength 21 = .ok (.athrow, 1) := by decide +kernel
theorem dX5_requireLength_22 : decode cX5_requireLength 22 = .ok (.return_, 1) := by decide +kernel
theorem dX5_requireWhat_0 : decode cX5_requireWhat 0 = .ok (.iload_n 1, 1) := by decide +kernel
theorem dX5_requireWhat_1 : decode cX5_requireWhat 1 = .ok (.ifCond .lt 8, 3) := by decide +kernel
theorem dX5_requireWhat_4 : decode cX5_requireWhat 4 = .ok (.iload_n 1, 1) := by decide +kernel
theorem dX5_requireWhat_5 : decode cX5_requireWhat 5 = .ok (.iload_n 2, 1) := by decide +kernel
theorem dX5_requireWhat_6 : decode cX5_requireWhat 6 = .ok (.if_icmp .lt 14, 3) := by decide +kernel
theorem dX5_requireWhat_9 : decode cX5_requireWhat 9 = .ok (.new 48, 3) := by decide +kernel
theorem dX5_requireWhat_12 : decode cX5_requireWhat 12 = .ok (.dup, 1) := by decide +kernel
theorem dX5_requireWhat_13 : decode cX5_requireWhat 13 = .ok (.ldc_w 279, 3) := by decide +kernel
theorem dX5_requireWhat_16 : decode cX5_requireWhat 16 = .ok (.invokespecial 52, 3) := by decide +kernel
theorem dX5_requireWhat_19 : decode cX5_requireWhat 19 = .ok (.athrow, 1) := by decide +kernel
theorem dX5_requireWhat_20 : decode cX5_requireWhat 20 = .ok (.return_, 1) := by decide +kernel
theorem dX5_requireRoomForRope_0 : decode cX5_requireRoomForRope 0 = .ok (.aload_n 0, 1) := by decide +kernel
theorem dX5_requireRoomForRope_1 : decode cX5_requireRoomForRope 1 = .ok (.getfield 10, 3) := by decide +kernel
theorem dX5_requireRoomForRope_4 : decode cX5_requireRoomForRope 4 = .ok (.invokevirtual 86, 3) := by decide +kernel
theorem dX5_requireRoomForRope_7 : decode cX5_requireRoomForRope 7 = .ok (.iconst 4, 1) := by decide +kernel
theorem dX5_requireRoomForRope_8 : decode cX5_requireRoomForRope 8 = .ok (.if_icmp .lt 14, 3) := by decide +kernel
theorem dX5_requireRoomForRope_11 : decode cX5_requireRoomForRope 11 = .ok (.new 59, 3) := by decide +kernel
theorem dX5_requireRoomForRope_14 : decode cX5_requireRoomForRope 14 = .ok (.dup, 1) := by decide +kernel
theorem dX5_requireRoomForRope_15 : decode cX5_requireRoomForRope 15 = .ok (.ldc_w 281, 3) := by decide +kernel
theorem dX5_requireRoomForRope_18 : decode cX5_requireRoomForRope 18 = .ok (.invokespecial 63, 3) := by decide +kernel
theorem dX5_requireRoomForRope_21 : decode cX5_requireRoomForRope 21 = .ok (.athrow, 1) := by decide +kernel
theorem dX5_requireRoomForRope_22 : decode cX5_requireRoomForRope 22 = .ok (.return_, 1) := by decide +kernel
theorem dX5_changeLength_0 : decode cX5_changeLength 0 = .ok (.aload_n 0, 1) := by decide +kernel
theorem dX5_changeLength_1 : decode cX5_changeLength 1 = .ok (.getfield 36, 3) := by decide +kernel
theorem dX5_changeLength_4 : decode cX5_changeLength 4 = .ok (.iload_n 2, 1) := by decide +kernel
theorem dX5_changeLength_5 : decode cX5_changeLength 5 = .ok (.invokevirtual 283, 3) := by decide +kernel
theorem dX5_changeLength_8 : decode cX5_changeLength 8 = .ok (.iconst 0, 1) := by decide +kernel
theorem dX5_changeLength_9 : decode cX5_changeLength 9 = .ok (.istore_n 3, 1) := by decide +kernel
theorem dX5_changeLength_10 : decode cX5_changeLength 10 = .ok (.iload_n 3, 1) := by decide +kernel
theorem dX5_changeLength_11 : decode cX5_changeLength 11 = .ok (.aload_n 1, 1) := by decide +kernel
theorem dX5_changeLength_12 : decode cX5_changeLength 12 = .ok (.invokevirtual 123, 3) := by decide +kernel
theorem dX5_changeLength_15 : decode cX5_changeLength 15 = .ok (.if_icmp .ge 42, 3) := by decide +kernel
theorem dX5_changeLength_18 : decode cX5_changeLength 18 = .ok (.aload_n 1, 1) := by decide +kernel
theorem dX5_changeLength_19 : decode cX5_changeLength 19 = .ok (.iload_n 3, 1) := by decide +kernel
theorem dX5_changeLength_20 : decode cX5_changeLength 20 = .ok (.invokevirtual 286, 3) := by decide +kernel
theorem dX5_changeLength_23 : decode cX5_changeLength 23 = .ok (.istore 4, 2) := by decide +kernel
theorem dX5_changeLength_25 : decode cX5_changeLength 25 = .ok (.aload_n 0, 1) := by decide +kernel
theorem dX5_changeLength_26 : decode cX5_changeLength 26 = .ok (.getfield 36, 3) := by decide +kernel
theorem dX5_changeLength_29 : decode cX5_changeLength 29 = .ok (.iload 4, 2) := by decide +kernel
theorem dX5_changeLength_31 : decode cX5_changeLength 31 = .ok (.aload_n 1, 1) := by decide +kernel
theorem dX5_changeLength_32 : decode cX5_changeLength 32 = .ok (.iload 4, 2) := by decide +kernel
theorem dX5_changeLength_34 : decode cX5_changeLength 34 = .ok (.iconst 0, 1) := by decide +kernel
theorem dX5_changeLength_35 : decode cX5_changeLength 35 = .ok (.invokevirtual 289, 3) := by decide +kernel
theorem dX5_changeLength_38 : decode cX5_changeLength 38 = .ok (.aload_n 0, 1) := by decide +kernel
theorem dX5_changeLength_39 : decode cX5_changeLength 39 = .ok (.getfield 10, 3) := by decide +kernel
theorem dX5_changeLength_42 : decode cX5_changeLength 42 = .ok (.iload 4, 2) := by decide +kernel
theorem dX5_changeLength_44 : decode cX5_changeLength 44 = .ok (.invokevirtual 68, 3) := by decide +kernel
theorem dX5_changeLength_47 : decode cX5_changeLength 47 = .ok (.invokevirtual 292, 3) := by decide +kernel
theorem dX5_changeLength_50 : decode cX5_changeLength 50 = .ok (.pop, 1) := by decide +kernel
theorem dX5_changeLength_51 : decode cX5_changeLength 51 = .ok (.iinc 3 1, 3) := by decide +kernel
theorem dX5_changeLength_54 : decode cX5_changeLength 54 = .ok (.goto (-44), 3) := by decide +kernel
theorem dX5_changeLength_57 : decode cX5_changeLength 57 = .ok (.aload_n 1, 1) := by decide +kernel
theorem dX5_changeLength_58 : decode cX5_changeLength 58 = .ok (.aload_n 0, 1) := by decide +kernel
theorem dX5_changeLength_59 : decode cX5_changeLength 59 = .ok (.getfield 36, 3) := by decide +kernel
theorem dX5_changeLength_62 : decode cX5_changeLength 62 = .ok (.invokevirtual 155, 3) := by decide +kernel
theorem dX5_changeLength_65 : decode cX5_changeLength 65 = .ok (.return_, 1) := by decide +kernel
theorem dX5_layBack_0 : decode cX5_layBack 0 = .ok (.iconst 0, 1) := by decide +kernel
theorem dX5_layBack_1 : decode cX5_layBack 1 = .ok (.istore 4, 2) := by decide +kernel
theorem dX5_layBack_3 : decode cX5_layBack 3 = .ok (.iload 4, 2) := by decide +kernel
theorem dX5_layBack_5 : decode cX5_layBack 5 = .ok (.aload_n 1, 1) := by decide +kernel
theorem dX5_layBack_6 : decode cX5_layBack 6 = .ok (.invokevirtual 123, 3) := by decide +kernel
theorem dX5_layBack_9 : decode cX5_layBack 9 = .ok (.if_icmp .ge 52, 3) := by decide +kernel
theorem dX5_layBack_12 : decode cX5_layBack 12 = .ok (.aload_n 1, 1) := by decide +kernel
theorem dX5_layBack_13 : decode cX5_layBack 13 = .ok (.iload 4, 2) := by decide +kernel
theorem dX5_layBack_15 : decode cX5_layBack 15 = .ok (.invokevirtual 286, 3) := by decide +kernel
theorem dX5_layBack_18 : decode cX5_layBack 18 = .ok (.istore 5, 2) := by decide +kernel
theorem dX5_layBack_20 : decode cX5_layBack 20 = .ok (.aload_n 1, 1) := by decide +kernel
theorem dX5_layBack_21 : decode cX5_layBack 21 = .ok (.iload 5, 2) := by decide +kernel
theorem dX5_layBack_23 : decode cX5_layBack 23 = .ok (.iload_n 2, 1) := by decide +kernel
theorem dX5_layBack_24 : decode cX5_layBack 24 = .ok (.invokevirtual 289, 3) := by decide +kernel
theorem dX5_layBack_27 : decode cX5_layBack 27 = .ok (.istore 6, 2) := by decide +kernel
theorem dX5_layBack_29 : decode cX5_layBack 29 = .ok (.iload 6, 2) := by decide +kernel
theorem dX5_layBack_31 : decode cX5_layBack 31 = .ok (.iconst (-1), 1) := by decide +kernel
theorem dX5_layBack_32 : decode cX5_layBack 32 = .ok (.if_icmp .eq 23, 3) := by decide +kernel
theorem dX5_layBack_35 : decode cX5_layBack 35 = .ok (.aload_n 3, 1) := by decide +kernel
theorem dX5_layBack_36 : decode cX5_layBack 36 = .ok (.iload 5, 2) := by decide +kernel
theorem dX5_layBack_38 : decode cX5_layBack 38 = .ok (.iload 6, 2) := by decide +kernel
theorem dX5_layBack_40 : decode cX5_layBack 40 = .ok (.iload_n 2, 1) := by decide +kernel
theorem dX5_layBack_41 : decode cX5_layBack 41 = .ok (.isub, 1) := by decide +kernel
theorem dX5_layBack_42 : decode cX5_layBack 42 = .ok (.aload_n 0, 1) := by decide +kernel
theorem dX5_layBack_43 : decode cX5_layBack 43 = .ok (.getfield 10, 3) := by decide +kernel
theorem dX5_layBack_46 : decode cX5_layBack 46 = .ok (.iload 5, 2) := by decide +kernel
theorem dX5_layBack_48 : decode cX5_layBack 48 = .ok (.invokevirtual 68, 3) := by decide +kernel
theorem dX5_layBack_51 : decode cX5_layBack 51 = .ok (.invokevirtual 292, 3) := by decide +kernel
theorem dX5_layBack_54 : decode cX5_layBack 54 = .ok (.pop, 1) := by decide +kernel
theorem dX5_layBack_55 : decode cX5_layBack 55 = .ok (.iinc 4 1, 3) := by decide +kernel
theorem dX5_layBack_58 : decode cX5_layBack 58 = .ok (.goto (-55), 3) := by decide +kernel
theorem dX5_layBack_61 : decode cX5_layBack 61 = .ok (.return_, 1) := by decide +kernel
theorem dX5_turnRound_0 : decode cX5_turnRound 0 = .ok (.aload_n 0, 1) := by decide +kernel
theorem dX5_turnRound_1 : decode cX5_turnRound 1 = .ok (.getfield 36, 3) := by decide +kernel
theorem dX5_turnRound_4 : decode cX5_turnRound 4 = .ok (.aload_n 1, 1) := by decide +kernel
theorem dX5_turnRound_5 : decode cX5_turnRound 5 = .ok (.invokevirtual 130, 3) := by decide +kernel
theorem dX5_turnRound_8 : decode cX5_turnRound 8 = .ok (.invokevirtual 283, 3) := by decide +kernel
theorem dX5_turnRound_11 : decode cX5_turnRound 11 = .ok (.iconst 0, 1) := by decide +kernel
theorem dX5_turnRound_12 : decode cX5_turnRound 12 = .ok (.istore_n 2, 1) := by decide +kernel
theorem dX5_turnRound_13 : decode cX5_turnRound 13 = .ok (.iload_n 2, 1) := by decide +kernel
theorem dX5_turnRound_14 : decode cX5_turnRound 14 = .ok (.aload_n 1, 1) := by decide +kernel
theorem dX5_turnRound_15 : decode cX5_turnRound 15 = .ok (.invokevirtual 123, 3) := by decide +kernel
theorem dX5_turnRound_18 : decode cX5_turnRound 18 = .ok (.if_icmp .ge 44, 3) := by decide +kernel
theorem dX5_turnRound_21 : decode cX5_turnRound 21 = .ok (.aload_n 1, 1) := by decide +kernel
theorem dX5_turnRound_22 : decode cX5_turnRound 22 = .ok (.iload_n 2, 1) := by decide +kernel
theorem dX5_turnRound_23 : decode cX5_turnRound 23 = .ok (.invokevirtual 286, 3) := by decide +kernel
theorem dX5_turnRound_26 : decode cX5_turnRound 26 = .ok (.istore_n 3, 1) := by decide +kernel
theorem dX5_turnRound_27 : decode cX5_turnRound 27 = .ok (.aload_n 0, 1) := by decide +kernel
theorem dX5_turnRound_28 : decode cX5_turnRound 28 = .ok (.getfield 36, 3) := by decide +kernel
theorem dX5_turnRound_31 : decode cX5_turnRound 31 = .ok (.iload_n 3, 1) := by decide +kernel
theorem dX5_turnRound_32 : decode cX5_turnRound 32 = .ok (.aload_n 1, 1) := by decide +kernel
theorem dX5_turnRound_33 : decode cX5_turnRound 33 = .ok (.invokevirtual 130, 3) := by decide +kernel
theorem dX5_turnRound_36 : decode cX5_turnRound 36 = .ok (.iconst 1, 1) := by decide +kernel
theorem dX5_turnRound_37 : decode cX5_turnRound 37 = .ok (.isub, 1) := by decide +kernel
theorem dX5_turnRound_38 : decode cX5_turnRound 38 = .ok (.aload_n 1, 1) := by decide +kernel
theorem dX5_turnRound_39 : decode cX5_turnRound 39 = .ok (.iload_n 3, 1) := by decide +kernel
theorem dX5_turnRound_40 : decode cX5_turnRound 40 = .ok (.invokevirtual 295, 3) := by decide +kernel
theorem dX5_turnRound_43 : decode cX5_turnRound 43 = .ok (.isub, 1) := by decide +kernel
theorem dX5_turnRound_44 : decode cX5_turnRound 44 = .ok (.aload_n 0, 1) := by decide +kernel
theorem dX5_turnRound_45 : decode cX5_turnRound 45 = .ok (.getfield 10, 3) := by decide +kernel
theorem dX5_turnRound_48 : decode cX5_turnRound 48 = .ok (.iload_n 3, 1) := by decide +kernel
theorem dX5_turnRound_49 : decode cX5_turnRound 49 = .ok (.invokevirtual 68, 3) := by decide +kernel
theorem dX5_turnRound_52 : decode cX5_turnRound 52 = .ok (.invokevirtual 292, 3) := by decide +kernel
theorem dX5_turnRound_55 : decode cX5_turnRound 55 = .ok (.pop, 1) := by decide +kernel
theorem dX5_turnRound_56 : decode cX5_turnRound 56 = .ok (.iinc 2 1, 3) := by decide +kernel
theorem dX5_turnRound_59 : decode cX5_turnRound 59 = .ok (.goto (-46), 3) := by decide +kernel
theorem dX5_turnRound_62 : decode cX5_turnRound 62 = .ok (.aload_n 1, 1) := by decide +kernel
theorem dX5_turnRound_63 : decode cX5_turnRound 63 = .ok (.aload_n 0, 1) := by decide +kernel
theorem dX5_turnRound_64 : decode cX5_turnRound 64 = .ok (.getfield 36, 3) := by decide +kernel
theorem dX5_turnRound_67 : decode cX5_turnRound 67 = .ok (.invokevirtual 298, 3) := by decide +kernel
theorem dX5_turnRound_70 : decode cX5_turnRound 70 = .ok (.istore_n 2, 1) := by decide +kernel
theorem dX5_turnRound_71 : decode cX5_turnRound 71 = .ok (.aload_n 1, 1) := by decide +kernel
theorem dX5_turnRound_72 : decode cX5_turnRound 72 = .ok (.aload_n 0, 1) := by decide +kernel
theorem dX5_turnRound_73 : decode cX5_turnRound 73 = .ok (.getfield 36, 3) := by decide +kernel
theorem dX5_turnRound_76 : decode cX5_turnRound 76 = .ok (.invokevirtual 155, 3) := by decide +kernel
theorem dX5_turnRound_79 : decode cX5_turnRound 79 = .ok (.iload_n 2, 1) := by decide +kernel
theorem dX5_turnRound_80 : decode cX5_turnRound 80 = .ok (.ireturn, 1) := by decide +kernel
theorem dX5_draftJoined_0 : decode cX5_draftJoined 0 = .ok (.aload_n 0, 1) := by decide +kernel
theorem dX5_draftJoined_1 : decode cX5_draftJoined 1 = .ok (.getfield 36, 3) := by decide +kernel
theorem dX5_draftJoined_4 : decode cX5_draftJoined 4 = .ok (.aload_n 1, 1) := by decide +kernel
theorem dX5_draftJoined_5 : decode cX5_draftJoined 5 = .ok (.invokevirtual 130, 3) := by decide +kernel
theorem dX5_draftJoined_8 : decode cX5_draftJoined 8 = .ok (.aload_n 2, 1) := by decide +kernel
theorem dX5_draftJoined_9 : decode cX5_draftJoined 9 = .ok (.invokevirtual 130, 3) := by decide +kernel
theorem dX5_draftJoined_12 : decode cX5_draftJoined 12 = .ok (.iadd, 1) := by decide +kernel
theorem dX5_draftJoined_13 : decode cX5_draftJoined 13 = .ok (.invokevirtual 283, 3) := by decide +kernel
theorem dX5_draftJoined_16 : decode cX5_draftJoined 16 = .ok (.iconst 1, 1) := by decide +kernel
theorem dX5_draftJoined_17 : decode cX5_draftJoined 17 = .ok (.istore_n 3, 1) := by decide +kernel
theorem dX5_draftJoined_18 : decode cX5_draftJoined 18 = .ok (.iconst 0, 1) := by decide +kernel
theorem dX5_draftJoined_19 : decode cX5_draftJoined 19 = .ok (.istore 4, 2) := by decide +kernel
theorem dX5_draftJoined_21 : decode cX5_draftJoined 21 = .ok (.iload 4, 2) := by decide +kernel
theorem dX5_draftJoined_23 : decode cX5_draftJoined 23 = .ok (.aload_n 1, 1) := by decide +kernel
theorem dX5_draftJoined_24 : decode cX5_draftJoined 24 = .ok (.invokevirtual 123, 3) := by decide +kernel
theorem dX5_draftJoined_27 : decode cX5_draftJoined 27 = .ok (.if_icmp .ge 43, 3) := by decide +kernel
theorem dX5_draftJoined_30 : decode cX5_draftJoined 30 = .ok (.aload_n 1, 1) := by decide +kernel
theorem dX5_draftJoined_31 : decode cX5_draftJoined 31 = .ok (.iload 4, 2) := by decide +kernel
theorem dX5_draftJoined_33 : decode cX5_draftJoined 33 = .ok (.invokevirtual 286, 3) := by decide +kernel
theorem dX5_draftJoined_36 : decode cX5_draftJoined 36 = .ok (.istore 5, 2) := by decide +kernel
theorem dX5_draftJoined_38 : decode cX5_draftJoined 38 = .ok (.aload_n 0, 1) := by decide +kernel
theorem dX5_draftJoined_39 : decode cX5_draftJoined 39 = .ok (.iload 5, 2) := by decide +kernel
theorem dX5_draftJoined_41 : decode cX5_draftJoined 41 = .ok (.aload_n 1, 1) := by decide +kernel
theorem dX5_draftJoined_42 : decode cX5_draftJoined 42 = .ok (.iload 5, 2) := by decide +kernel
theorem dX5_draftJoined_44 : decode cX5_draftJoined 44 = .ok (.iconst 0, 1) := by decide +kernel
theorem dX5_draftJoined_45 : decode cX5_draftJoined 45 = .ok (.invokevirtual 289, 3) := by decide +kernel
theorem dX5_draftJoined_48 : decode cX5_draftJoined 48 = .ok (.invokevirtual 301, 3) := by decide +kernel
theorem dX5_draftJoined_51 : decode cX5_draftJoined 51 = .ok (.ifCond .eq 11, 3) := by decide +kernel
theorem dX5_draftJoined_54 : decode cX5_draftJoined 54 = .ok (.iload_n 3, 1) := by decide +kernel
theorem dX5_draftJoined_55 : decode cX5_draftJoined 55 = .ok (.ifCond .eq 7, 3) := by decide +kernel
theorem dX5_draftJoined_58 : decode cX5_draftJoined 58 = .ok (.iconst 1, 1) := by decide +kernel
theorem dX5_draftJoined_59 : decode cX5_draftJoined 59 = .ok (.goto 4, 3) := by decide +kernel
theorem dX5_draftJoined_62 : decode cX5_draftJoined 62 = .ok (.iconst 0, 1) := by decide +kernel
theorem dX5_draftJoined_63 : decode cX5_draftJoined 63 = .ok (.istore_n 3, 1) := by decide +kernel
theorem dX5_draftJoined_64 : decode cX5_draftJoined 64 = .ok (.iinc 4 1, 3) := by decide +kernel
theorem dX5_draftJoined_67 : decode cX5_draftJoined 67 = .ok (.goto (-46), 3) := by decide +kernel
theorem dX5_draftJoined_70 : decode cX5_draftJoined 70 = .ok (.iconst 0, 1) := by decide +kernel
theorem dX5_draftJoined_71 : decode cX5_draftJoined 71 = .ok (.istore 4, 2) := by decide +kernel
theorem dX5_draftJoined_73 : decode cX5_draftJoined 73 = .ok (.iload 4, 2) := by decide +kernel
theorem dX5_draftJoined_75 : decode cX5_draftJoined 75 = .ok (.aload_n 2, 1) := by decide +kernel
theorem dX5_draftJoined_76 : decode cX5_draftJoined 76 = .ok (.invokevirtual 123, 3) := by decide +kernel
theorem dX5_draftJoined_79 : decode cX5_draftJoined 79 = .ok (.if_icmp .ge 74, 3) := by decide +kernel
theorem dX5_draftJoined_82 : decode cX5_draftJoined 82 = .ok (.aload_n 2, 1) := by decide +kernel
theorem dX5_draftJoined_83 : decode cX5_draftJoined 83 = .ok (.iload 4, 2) := by decide +kernel
theorem dX5_draftJoined_85 : decode cX5_draftJoined 85 = .ok (.invokevirtual 286, 3) := by decide +kernel
theorem dX5_draftJoined_88 : decode cX5_draftJoined 88 = .ok (.istore 5, 2) := by decide +kernel
theorem dX5_draftJoined_90 : decode cX5_draftJoined 90 = .ok (.aload_n 1, 1) := by decide +kernel
theorem dX5_draftJoined_91 : decode cX5_draftJoined 91 = .ok (.iload 5, 2) := by decide +kernel
theorem dX5_draftJoined_93 : decode cX5_draftJoined 93 = .ok (.invokevirtual 109, 3) := by decide +kernel
theorem dX5_draftJoined_96 : decode cX5_draftJoined 96 = .ok (.iconst (-1), 1) := by decide +kernel
theorem dX5_draftJoined_97 : decode cX5_draftJoined 97 = .ok (.if_icmp .ne 50, 3) := by decide +kernel
theorem dX5_draftJoined_100 : decode cX5_draftJoined 100 = .ok (.aload_n 1, 1) := by decide +kernel
theorem dX5_draftJoined_101 : decode cX5_draftJoined 101 = .ok (.invokevirtual 130, 3) := by decide +kernel
theorem dX5_draftJoined_104 : decode cX5_draftJoined 104 = .ok (.aload_n 2, 1) := by decide +kernel
theorem dX5_draftJoined_105 : decode cX5_draftJoined 105 = .ok (.iload 5, 2) := by decide +kernel
theorem dX5_draftJoined_107 : decode cX5_draftJoined 107 = .ok (.iconst 0, 1) := by decide +kernel
theorem dX5_draftJoined_108 : decode cX5_draftJoined 108 = .ok (.invokevirtual 289, 3) := by decide +kernel
theorem dX5_draftJoined_111 : decode cX5_draftJoined 111 = .ok (.iadd, 1) := by decide +kernel
theorem dX5_draftJoined_112 : decode cX5_draftJoined 112 = .ok (.istore 6, 2) := by decide +kernel
theorem dX5_draftJoined_114 : decode cX5_draftJoined 114 = .ok (.aload_n 0, 1) := by decide +kernel
theorem dX5_draftJoined_115 : decode cX5_draftJoined 115 = .ok (.iload 5, 2) := by decide +kernel
theorem dX5_draftJoined_117 : decode cX5_draftJoined 117 = .ok (.iload 6, 2) := by decide +kernel
theorem dX5_draftJoined_119 : decode cX5_draftJoined 119 = .ok (.aload_n 0, 1) := by decide +kernel
theorem dX5_draftJoined_120 : decode cX5_draftJoined 120 = .ok (.getfield 10, 3) := by decide +kernel
theorem dX5_draftJoined_123 : decode cX5_draftJoined 123 = .ok (.iload 5, 2) := by decide +kernel
theorem dX5_draftJoined_125 : decode cX5_draftJoined 125 = .ok (.invokevirtual 68, 3) := by decide +kernel
theorem dX5_draftJoined_128 : decode cX5_draftJoined 128 = .ok (.invokestatic 304, 3) := by decide +kernel
theorem dX5_draftJoined_131 : decode cX5_draftJoined 131 = .ok (.invokevirtual 301, 3) := by decide +kernel
theorem dX5_draftJoined_134 : decode cX5_draftJoined 134 = .ok (.ifCond .eq 11, 3) := by decide +kernel
theorem dX5_draftJoined_137 : decode cX5_draftJoined 137 = .ok (.iload_n 3, 1) := by decide +kernel
theorem dX5_draftJoined_138 : decode cX5_draftJoined 138 = .ok (.ifCond .eq 7, 3) := by decide +kernel
theorem dX5_draftJoined_141 : decode cX5_draftJoined 141 = .ok (.iconst 1, 1) := by decide +kernel
theorem dX5_draftJoined_142 : decode cX5_draftJoined 142 = .ok (.goto 4, 3) := by decide +kernel
theorem dX5_draftJoined_145 : decode cX5_draftJoined 145 = .ok (.iconst 0, 1) := by decide +kernel
theorem dX5_draftJoined_146 : decode cX5_draftJoined 146 = .ok (.istore_n 3, 1) := by decide +kernel
theorem dX5_draftJoined_147 : decode cX5_draftJoined 147 = .ok (.iinc 4 1, 3) := by decide +kernel
theorem dX5_draftJoined_150 : decode cX5_draftJoined 150 = .ok (.goto (-77), 3) := by decide +kernel
theorem dX5_draftJoined_153 : decode cX5_draftJoined 153 = .ok (.iload_n 3, 1) := by decide +kernel
theorem dX5_draftJoined_154 : decode cX5_draftJoined 154 = .ok (.ireturn, 1) := by decide +kernel
theorem dX5_draftLaid_0 : decode cX5_draftLaid 0 = .ok (.aload_n 0, 1) := by decide +kernel
theorem dX5_draftLaid_1 : decode cX5_draftLaid 1 = .ok (.getfield 10, 3) := by decide +kernel
theorem dX5_draftLaid_4 : decode cX5_draftLaid 4 = .ok (.iload_n 1, 1) := by decide +kernel
theorem dX5_draftLaid_5 : decode cX5_draftLaid 5 = .ok (.invokevirtual 68, 3) := by decide +kernel
theorem dX5_draftLaid_8 : decode cX5_draftLaid 8 = .ok (.istore_n 3, 1) := by decide +kernel
theorem dX5_draftLaid_9 : decode cX5_draftLaid 9 = .ok (.aload_n 0, 1) := by decide +kernel
theorem dX5_draftLaid_10 : decode cX5_draftLaid 10 = .ok (.getfield 36, 3) := by decide +kernel
theorem dX5_draftLaid_13 : decode cX5_draftLaid 13 = .ok (.iload_n 1, 1) := by decide +kernel
theorem dX5_draftLaid_14 : decode cX5_draftLaid 14 = .ok (.iload_n 2, 1) := by decide +kernel
theorem dX5_draftLaid_15 : decode cX5_draftLaid 15 = .ok (.iload_n 3, 1) := by decide +kernel
theorem dX5_draftLaid_16 : decode cX5_draftLaid 16 = .ok (.invokevirtual 99, 3) := by decide +kernel
theorem dX5_draftLaid_19 : decode cX5_draftLaid 19 = .ok (.ifCond .eq 5, 3) := by decide +kernel
theorem dX5_draftLaid_22 : decode cX5_draftLaid 22 = .ok (.iconst 0, 1) := by decide +kernel
theorem dX5_draftLaid_23 : decode cX5_draftLaid 23 = .ok (.ireturn, 1) := by decide +kernel
theorem dX5_draftLaid_24 : decode cX5_draftLaid 24 = .ok (.aload_n 0, 1) := by decide +kernel
theorem dX5_draftLaid_25 : decode cX5_draftLaid 25 = .ok (.getfield 36, 3) := by decide +kernel
theorem dX5_draftLaid_28 : decode cX5_draftLaid 28 = .ok (.iload_n 1, 1) := by decide +kernel
theorem dX5_draftLaid_29 : decode cX5_draftLaid 29 = .ok (.iload_n 2, 1) := by decide +kernel
theorem dX5_draftLaid_30 : decode cX5_draftLaid 30 = .ok (.iload_n 3, 1) := by decide +kernel
theorem dX5_draftLaid_31 : decode cX5_draftLaid 31 = .ok (.invokevirtual 292, 3) := by decide +kernel
theorem dX5_draftLaid_34 : decode cX5_draftLaid 34 = .ok (.pop, 1) := by decide +kernel
theorem dX5_draftLaid_35 : decode cX5_draftLaid 35 = .ok (.iconst 1, 1) := by decide +kernel
theorem dX5_draftLaid_36 : decode cX5_draftLaid 36 = .ok (.ireturn, 1) := by decide +kernel
theorem dX5_playPart_0 : decode cX5_playPart 0 = .ok (.aload_n 0, 1) := by decide +kernel
theorem dX5_playPart_1 : decode cX5_playPart 1 = .ok (.getfield 29, 3) := by decide +kernel
theorem dX5_playPart_4 : decode cX5_playPart 4 = .ok (.iload_n 1, 1) := by decide +kernel
theorem dX5_playPart_5 : decode cX5_playPart 5 = .ok (.invokevirtual 265, 3) := by decide +kernel
theorem dX5_playPart_8 : decode cX5_playPart 8 = .ok (.istore_n 3, 1) := by decide +kernel
theorem dX5_playPart_9 : decode cX5_playPart 9 = .ok (.iload_n 3, 1) := by decide +kernel
theorem dX5_playPart_10 : decode cX5_playPart 10 = .ok (.bipush 114, 2) := by decide +kernel
theorem dX5_playPart_12 : decode cX5_playPart 12 = .ok (.if_icmp .ne 30, 3) := by decide +kernel
theorem dX5_playPart_15 : decode cX5_playPart 15 = .ok (.aload_n 0, 1) := by decide +kernel
theorem dX5_playPart_16 : decode cX5_playPart 16 = .ok (.getfield 10, 3) := by decide +kernel
theorem dX5_playPart_19 : decode cX5_playPart 19 = .ok (.aload_n 0, 1) := by decide +kernel
theorem dX5_playPart_20 : decode cX5_playPart 20 = .ok (.getfield 29, 3) := by decide +kernel
theorem dX5_playPart_23 : decode cX5_playPart 23 = .ok (.iload_n 1, 1) := by decide +kernel
theorem dX5_playPart_24 : decode cX5_playPart 24 = .ok (.iconst 1, 1) := by decide +kernel
theorem dX5_playPart_25 : decode cX5_playPart 25 = .ok (.iadd, 1) := by decide +kernel
theorem dX5_playPart_26 : decode cX5_playPart 26 = .ok (.iload_n 2, 1) := by decide +kernel
theorem dX5_playPart_27 : decode cX5_playPart 27 = .ok (.invokevirtual 307, 3) := by decide +kernel
theorem dX5_playPart_30 : decode cX5_playPart 30 = .ok (.invokevirtual 82, 3) := by decide +kernel
theorem dX5_playPart_33 : decode cX5_playPart 33 = .ok (.ifnull 7, 3) := by decide +kernel
theorem dX5_playPart_36 : decode cX5_playPart 36 = .ok (.iconst 1, 1) := by decide +kernel
theorem dX5_playPart_37 : decode cX5_playPart 37 = .ok (.goto 4, 3) := by decide +kernel
theorem dX5_playPart_40 : decode cX5_playPart 40 = .ok (.iconst 0, 1) := by decide +kernel
theorem dX5_playPart_41 : decode cX5_playPart 41 = .ok (.ireturn, 1) := by decide +kernel
theorem dX5_playPart_42 : decode cX5_playPart 42 = .ok (.aload_n 0, 1) := by decide +kernel
theorem dX5_playPart_43 : decode cX5_playPart 43 = .ok (.getfield 10, 3) := by decide +kernel
theorem dX5_playPart_46 : decode cX5_playPart 46 = .ok (.aload_n 0, 1) := by decide +kernel
theorem dX5_playPart_47 : decode cX5_playPart 47 = .ok (.getfield 10, 3) := by decide +kernel
theorem dX5_playPart_50 : decode cX5_playPart 50 = .ok (.invokevirtual 86, 3) := by decide +kernel
theorem dX5_playPart_53 : decode cX5_playPart 53 = .ok (.iconst 1, 1) := by decide +kernel
theorem dX5_playPart_54 : decode cX5_playPart 54 = .ok (.isub, 1) := by decide +kernel
theorem dX5_playPart_55 : decode cX5_playPart 55 = .ok (.invokevirtual 268, 3) := by decide +kernel
theorem dX5_playPart_58 : decode cX5_playPart 58 = .ok (.astore 4, 2) := by decide +kernel
theorem dX5_playPart_60 : decode cX5_playPart 60 = .ok (.aload 4, 2) := by decide +kernel
theorem dX5_playPart_62 : decode cX5_playPart 62 = .ok (.ifnonnull 5, 3) := by decide +kernel
theorem dX5_playPart_65 : decode cX5_playPart 65 = .ok (.iconst 0, 1) := by decide +kernel
theorem dX5_playPart_66 : decode cX5_playPart 66 = .ok (.ireturn, 1) := by decide +kernel
theorem dX5_playPart_67 : decode cX5_playPart 67 = .ok (.iload_n 3, 1) := by decide +kernel
theorem dX5_playPart_68 : decode cX5_playPart 68 = .ok (.bipush 60, 2) := by decide +kernel
theorem dX5_playPart_70 : decode cX5_playPart 70 = .ok (.if_icmp .ne 12, 3) := by decide +kernel
theorem dX5_playPart_73 : decode cX5_playPart 73 = .ok (.aload_n 0, 1) := by decide +kernel
theorem dX5_playPart_74 : decode cX5_playPart 74 = .ok (.aload 4, 2) := by decide +kernel
theorem dX5_playPart_76 : decode cX5_playPart 76 = .ok (.invokevirtual 142, 3) := by decide +kernel
theorem dX5_playPart_79 : decode cX5_playPart 79 = .ok (.pop, 1) := by decide +kernel
theorem dX5_playPart_80 : decode cX5_playPart 80 = .ok (.iconst 1, 1) := by decide +kernel
theorem dX5_playPart_81 : decode cX5_playPart 81 = .ok (.ireturn, 1) := by decide +kernel
theorem dX5_playPart_82 : decode cX5_playPart 82 = .ok (.iload_n 3, 1) := by decide +kernel
theorem dX5_playPart_83 : decode cX5_playPart 83 = .ok (.bipush 45, 2) := by decide +kernel
theorem dX5_playPart_85 : decode cX5_playPart 85 = .ok (.if_icmp .ne 30, 3) := by decide +kernel
theorem dX5_playPart_88 : decode cX5_playPart 88 = .ok (.aload 4, 2) := by decide +kernel
theorem dX5_playPart_90 : decode cX5_playPart 90 = .ok (.aload_n 0, 1) := by decide +kernel
theorem dX5_playPart_91 : decode cX5_playPart 91 = .ok (.getfield 29, 3) := by decide +kernel
theorem dX5_playPart_94 : decode cX5_playPart 94 = .ok (.iload_n 1, 1) := by decide +kernel
theorem dX5_playPart_95 : decode cX5_playPart 95 = .ok (.iconst 1, 1) := by decide +kernel
theorem dX5_playPart_96 : decode cX5_playPart 96 = .ok (.iadd, 1) := by decide +kernel
theorem dX5_playPart_97 : decode cX5_playPart 97 = .ok (.invokevirtual 265, 3) := by decide +kernel
theorem dX5_playPart_100 : decode cX5_playPart 100 = .ok (.bipush 97, 2) := by decide +kernel
theorem dX5_playPart_102 : decode cX5_playPart 102 = .ok (.isub, 1) := by decide +kernel
theorem dX5_playPart_103 : decode cX5_playPart 103 = .ok (.invokevirtual 114, 3) := by decide +kernel
theorem dX5_playPart_106 : decode cX5_playPart 106 = .ok (.ifCond .le 7, 3) := by decide +kernel
theorem dX5_playPart_109 : decode cX5_playPart 109 = .ok (.iconst 1, 1) := by decide +kernel
theorem dX5_playPart_110 : decode cX5_playPart 110 = .ok (.goto 4, 3) := by decide +kernel
theorem dX5_playPart_113 : decode cX5_playPart 113 = .ok (.iconst 0, 1) := by decide +kernel
theorem dX5_playPart_114 : decode cX5_playPart 114 = .ok (.ireturn, 1) := by decide +kernel
theorem dX5_playPart_115 : decode cX5_playPart 115 = .ok (.aload_n 0, 1) := by decide +kernel
theorem dX5_playPart_116 : decode cX5_playPart 116 = .ok (.aload 4, 2) := by decide +kernel
theorem dX5_playPart_118 : decode cX5_playPart 118 = .ok (.iload_n 3, 1) := by decide +kernel
theorem dX5_playPart_119 : decode cX5_playPart 119 = .ok (.bipush 97, 2) := by decide +kernel
theorem dX5_playPart_121 : decode cX5_playPart 121 = .ok (.isub, 1) := by decide +kernel
theorem dX5_playPart_122 : decode cX5_playPart 122 = .ok (.aload_n 0, 1) := by decide +kernel
theorem dX5_playPart_123 : decode cX5_playPart 123 = .ok (.getfield 29, 3) := by decide +kernel
theorem dX5_playPart_126 : decode cX5_playPart 126 = .ok (.iload_n 1, 1) := by decide +kernel
theorem dX5_playPart_127 : decode cX5_playPart 127 = .ok (.iconst 1, 1) := by decide +kernel
theorem dX5_playPart_128 : decode cX5_playPart 128 = .ok (.iadd, 1) := by decide +kernel
theorem dX5_playPart_129 : decode cX5_playPart 129 = .ok (.iload_n 2, 1) := by decide +kernel
theorem dX5_playPart_130 : decode cX5_playPart 130 = .ok (.invokevirtual 307, 3) := by decide +kernel
theorem dX5_playPart_133 : decode cX5_playPart 133 = .ok (.invokevirtual 310, 3) := by decide +kernel
theorem dX5_playPart_136 : decode cX5_playPart 136 = .ok (.ireturn, 1) := by decide +kernel
theorem dX5_playLaying_0 : decode cX5_playLaying 0 = .ok (.aload_n 0, 1) := by decide +kernel
theorem dX5_playLaying_1 : decode cX5_playLaying 1 = .ok (.getfield 10, 3) := by decide +kernel
theorem dX5_playLaying_4 : decode cX5_playLaying 4 = .ok (.iload_n 2, 1) := by decide +kernel
theorem dX5_playLaying_5 : decode cX5_playLaying 5 = .ok (.invokevirtual 68, 3) := by decide +kernel
theorem dX5_playLaying_8 : decode cX5_playLaying 8 = .ok (.istore 4, 2) := by decide +kernel
theorem dX5_playLaying_10 : decode cX5_playLaying 10 = .ok (.iload 4, 2) := by decide +kernel
theorem dX5_playLaying_12 : decode cX5_playLaying 12 = .ok (.iload_n 3, 1) := by decide +kernel
theorem dX5_playLaying_13 : decode cX5_playLaying 13 = .ok (.if_icmp .le 14, 3) := by decide +kernel
theorem dX5_playLaying_16 : decode cX5_playLaying 16 = .ok (.aload_n 1, 1) := by decide +kernel
theorem dX5_playLaying_17 : decode cX5_playLaying 17 = .ok (.iload_n 2, 1) := by decide +kernel
theorem dX5_playLaying_18 : decode cX5_playLaying 18 = .ok (.iload_n 3, 1) := by decide +kernel
theorem dX5_playLaying_19 : decode cX5_playLaying 19 = .ok (.iload 4, 2) := by decide +kernel
theorem dX5_playLaying_21 : decode cX5_playLaying 21 = .ok (.invokevirtual 99, 3) := by decide +kernel
theorem dX5_playLaying_24 : decode cX5_playLaying 24 = .ok (.ifCond .eq 5, 3) := by decide +kernel
theorem dX5_playLaying_27 : decode cX5_playLaying 27 = .ok (.iconst 0, 1) := by decide +kernel
theorem dX5_playLaying_28 : decode cX5_playLaying 28 = .ok (.ireturn, 1) := by decide +kernel
theorem dX5_playLaying_29 : decode cX5_playLaying 29 = .ok (.aload_n 0, 1) := by decide +kernel
theorem dX5_playLaying_30 : decode cX5_playLaying 30 = .ok (.getfield 10, 3) := by decide +kernel
theorem dX5_playLaying_33 : decode cX5_playLaying 33 = .ok (.aload_n 1, 1) := by decide +kernel
theorem dX5_playLaying_34 : decode cX5_playLaying 34 = .ok (.iload_n 2, 1) := by decide +kernel
theorem dX5_playLaying_35 : decode cX5_playLaying 35 = .ok (.iload_n 3, 1) := by decide +kernel
theorem dX5_playLaying_36 : decode cX5_playLaying 36 = .ok (.invokevirtual 105, 3) := by decide +kernel
theorem dX5_playLaying_39 : decode cX5_playLaying 39 = .ok (.pop, 1) := by decide +kernel
theorem dX5_playLaying_40 : decode cX5_playLaying 40 = .ok (.iconst 1, 1) := by decide +kernel
theorem dX5_playLaying_41 : decode cX5_playLaying 41 = .ok (.ireturn, 1) := by decide +kernel
theorem dX5_reasonAgainstJoining_0 : decode cX5_reasonAgainstJoining 0 = .ok (.aload_n 1, 1) := by decide +kernel
theorem dX5_reasonAgainstJoining_1 : decode cX5_reasonAgainstJoining 1 = .ok (.invokevirtual 130, 3) := by decide +kernel
theorem dX5_reasonAgainstJoining_4 : decode cX5_reasonAgainstJoining 4 = .ok (.aload_n 2, 1) := by decide +kernel
theorem dX5_reasonAgainstJoining_5 : decode cX5_reasonAgainstJoining 5 = .ok (.invokevirtual 130, 3) := by decide +kernel
theorem dX5_reasonAgainstJoining_8 : decode cX5_reasonAgainstJoining 8 = .ok (.iadd, 1) := by decide +kernel
theorem dX5_reasonAgainstJoining_9 : decode cX5_reasonAgainstJoining 9 = .ok (.bipush 60, 2) := by decide +kernel
theorem dX5_reasonAgainstJoining_11 : decode cX5_reasonAgainstJoining 11 = .ok (.if_icmp .le 5, 3) := by decide +kernel
theorem dX5_reasonAgainstJoining_14 : decode cX5_reasonAgainstJoining 14 = .ok (.iconst 2, 1) := by decide +kernel
theorem dX5_reasonAgainstJoining_15 : decode cX5_reasonAgainstJoining 15 = .ok (.ireturn, 1) := by decide +kernel
theorem dX5_reasonAgainstJoining_16 : decode cX5_reasonAgainstJoining 16 = .ok (.iconst 0, 1) := by decide +kernel
theorem dX5_reasonAgainstJoining_17 : decode cX5_reasonAgainstJoining 17 = .ok (.istore_n 3, 1) := by decide +kernel
theorem dX5_reasonAgainstJoining_18 : decode cX5_reasonAgainstJoining 18 = .ok (.iload_n 3, 1) := by decide +kernel
theorem dX5_reasonAgainstJoining_19 : decode cX5_reasonAgainstJoining 19 = .ok (.aload_n 1, 1) := by decide +kernel
theorem dX5_reasonAgainstJoining_20 : decode cX5_reasonAgainstJoining 20 = .ok (.invokevirtual 123, 3) := by decide +kernel
theorem dX5_reasonAgainstJoining_23 : decode cX5_reasonAgainstJoining 23 = .ok (.if_icmp .ge 63, 3) := by decide +kernel
theorem dX5_reasonAgainstJoining_26 : decode cX5_reasonAgainstJoining 26 = .ok (.aload_n 1, 1) := by decide +kernel
theorem dX5_reasonAgainstJoining_27 : decode cX5_reasonAgainstJoining 27 = .ok (.iload_n 3, 1) := by decide +kernel
theorem dX5_reasonAgainstJoining_28 : decode cX5_reasonAgainstJoining 28 = .ok (.invokevirtual 286, 3) := by decide +kernel
theorem dX5_reasonAgainstJoining_31 : decode cX5_reasonAgainstJoining 31 = .ok (.istore 4, 2) := by decide +kernel
theorem dX5_reasonAgainstJoining_33 : decode cX5_reasonAgainstJoining 33 = .ok (.aload_n 1, 1) := by decide +kernel
theorem dX5_reasonAgainstJoining_34 : decode cX5_reasonAgainstJoining 34 = .ok (.iload 4, 2) := by decide +kernel
theorem dX5_reasonAgainstJoining_36 : decode cX5_reasonAgainstJoining 36 = .ok (.invokevirtual 295, 3) := by decide +kernel
theorem dX5_reasonAgainstJoining_39 : decode cX5_reasonAgainstJoining 39 = .ok (.aload_n 0, 1) := by decide +kernel
theorem dX5_reasonAgainstJoining_40 : decode cX5_reasonAgainstJoining 40 = .ok (.getfield 10, 3) := by decide +kernel
theorem dX5_reasonAgainstJoining_43 : decode cX5_reasonAgainstJoining 43 = .ok (.iload 4, 2) := by decide +kernel
theorem dX5_reasonAgainstJoining_45 : decode cX5_reasonAgainstJoining 45 = .ok (.invokevirtual 68, 3) := by decide +kernel
theorem dX5_reasonAgainstJoining_48 : decode cX5_reasonAgainstJoining 48 = .ok (.iadd, 1) := by decide +kernel
theorem dX5_reasonAgainstJoining_49 : decode cX5_reasonAgainstJoining 49 = .ok (.istore 5, 2) := by decide +kernel
theorem dX5_reasonAgainstJoining_51 : decode cX5_reasonAgainstJoining 51 = .ok (.aload_n 2, 1) := by decide +kernel
theorem dX5_reasonAgainstJoining_52 : decode cX5_reasonAgainstJoining 52 = .ok (.iload 4, 2) := by decide +kernel
theorem dX5_reasonAgainstJoining_54 : decode cX5_reasonAgainstJoining 54 = .ok (.invokevirtual 109, 3) := by decide +kernel
theorem dX5_reasonAgainstJoining_57 : decode cX5_reasonAgainstJoining 57 = .ok (.iconst (-1), 1) := by decide +kernel
theorem dX5_reasonAgainstJoining_58 : decode cX5_reasonAgainstJoining 58 = .ok (.if_icmp .eq 22, 3) := by decide +kernel
theorem dX5_reasonAgainstJoining_61 : decode cX5_reasonAgainstJoining 61 = .ok (.iload 5, 2) := by decide +kernel
theorem dX5_reasonAgainstJoining_63 : decode cX5_reasonAgainstJoining 63 = .ok (.aload_n 1, 1) := by decide +kernel
theorem dX5_reasonAgainstJoining_64 : decode cX5_reasonAgainstJoining 64 = .ok (.invokevirtual 130, 3) := by decide +kernel
theorem dX5_reasonAgainstJoining_67 : decode cX5_reasonAgainstJoining 67 = .ok (.aload_n 2, 1) := by decide +kernel
theorem dX5_reasonAgainstJoining_68 : decode cX5_reasonAgainstJoining 68 = .ok (.iload 4, 2) := by decide +kernel
theorem dX5_reasonAgainstJoining_70 : decode cX5_reasonAgainstJoining 70 = .ok (.iconst 0, 1) := by decide +kernel
theorem dX5_reasonAgainstJoining_71 : decode cX5_reasonAgainstJoining 71 = .ok (.invokevirtual 289, 3) := by decide +kernel
theorem dX5_reasonAgainstJoining_74 : decode cX5_reasonAgainstJoining 74 = .ok (.iadd, 1) := by decide +kernel
theorem dX5_reasonAgainstJoining_75 : decode cX5_reasonAgainstJoining 75 = .ok (.if_icmp .eq 5, 3) := by decide +kernel
theorem dX5_reasonAgainstJoining_78 : decode cX5_reasonAgainstJoining 78 = .ok (.iconst 3, 1) := by decide +kernel
theorem dX5_reasonAgainstJoining_79 : decode cX5_reasonAgainstJoining 79 = .ok (.ireturn, 1) := by decide +kernel
theorem dX5_reasonAgainstJoining_80 : decode cX5_reasonAgainstJoining 80 = .ok (.iinc 3 1, 3) := by decide +kernel
theorem dX5_reasonAgainstJoining_83 : decode cX5_reasonAgainstJoining 83 = .ok (.goto (-65), 3) := by decide +kernel
theorem dX5_reasonAgainstJoining_86 : decode cX5_reasonAgainstJoining 86 = .ok (.aload_n 0, 1) := by decide +kernel
theorem dX5_reasonAgainstJoining_87 : decode cX5_reasonAgainstJoining 87 = .ok (.aload_n 1, 1) := by decide +kernel
theorem dX5_reasonAgainstJoining_88 : decode cX5_reasonAgainstJoining 88 = .ok (.aload_n 2, 1) := by decide +kernel
theorem dX5_reasonAgainstJoining_89 : decode cX5_reasonAgainstJoining 89 = .ok (.invokevirtual 151, 3) := by decide +kernel
theorem dX5_reasonAgainstJoining_92 : decode cX5_reasonAgainstJoining 92 = .ok (.ifCond .eq 7, 3) := by decide +kernel
theorem dX5_reasonAgainstJoining_95 : decode cX5_reasonAgainstJoining 95 = .ok (.iconst 0, 1) := by decide +kernel
theorem dX5_reasonAgainstJoining_96 : decode cX5_reasonAgainstJoining 96 = .ok (.goto 4, 3) := by decide +kernel
theorem dX5_reasonAgainstJoining_99 : decode cX5_reasonAgainstJoining 99 = .ok (.iconst 4, 1) := by decide +kernel
theorem dX5_reasonAgainstJoining_100 : decode cX5_reasonAgainstJoining 100 = .ok (.ireturn, 1) := by decide +kernel
theorem dX5_greatestLength_0 : decode cX5_greatestLength 0 = .ok (.aload_n 1, 1) := by decide +kernel
theorem dX5_greatestLength_1 : decode cX5_greatestLength 1 = .ok (.invokevirtual 130, 3) := by decide +kernel
theorem dX5_greatestLength_4 : decode cX5_greatestLength 4 = .ok (.istore_n 2, 1) := by decide +kernel
theorem dX5_greatestLength_5 : decode cX5_greatestLength 5 = .ok (.iload_n 2, 1) := by decide +kernel
theorem dX5_greatestLength_6 : decode cX5_greatestLength 6 = .ok (.bipush 60, 2) := by decide +kernel
theorem dX5_greatestLength_8 : decode cX5_greatestLength 8 = .ok (.if_icmp .ge 21, 3) := by decide +kernel
theorem dX5_greatestLength_11 : decode cX5_greatestLength 11 = .ok (.aload_n 0, 1) := by decide +kernel
theorem dX5_greatestLength_12 : decode cX5_greatestLength 12 = .ok (.aload_n 1, 1) := by decide +kernel
theorem dX5_greatestLength_13 : decode cX5_greatestLength 13 = .ok (.iload_n 2, 1) := by decide +kernel
theorem dX5_greatestLength_14 : decode cX5_greatestLength 14 = .ok (.invokevirtual 314, 3) := by decide +kernel
theorem dX5_greatestLength_17 : decode cX5_greatestLength 17 = .ok (.iconst 1, 1) := by decide +kernel
theorem dX5_greatestLength_18 : decode cX5_greatestLength 18 = .ok (.if_icmp .le 5, 3) := by decide +kernel
theorem dX5_greatestLength_21 : decode cX5_greatestLength 21 = .ok (.iload_n 2, 1) := by decide +kernel
theorem dX5_greatestLength_22 : decode cX5_greatestLength 22 = .ok (.ireturn, 1) := by decide +kernel
theorem dX5_greatestLength_23 : decode cX5_greatestLength 23 = .ok (.iinc 2 1, 3) := by decide +kernel
theorem dX5_greatestLength_26 : decode cX5_greatestLength 26 = .ok (.goto (-21), 3) := by decide +kernel
theorem dX5_greatestLength_29 : decode cX5_greatestLength 29 = .ok (.bipush 60, 2) := by decide +kernel
theorem dX5_greatestLength_31 : decode cX5_greatestLength 31 = .ok (.ireturn, 1) := by decide +kernel
theorem dX5_huesDueAt_0 : decode cX5_huesDueAt 0 = .ok (.iconst 0, 1) := by decide +kernel
theorem dX5_huesDueAt_1 : decode cX5_huesDueAt 1 = .ok (.istore_n 3, 1) := by decide +kernel
theorem dX5_huesDueAt_2 : decode cX5_huesDueAt 2 = .ok (.iconst 0, 1) := by decide +kernel
theorem dX5_huesDueAt_3 : decode cX5_huesDueAt 3 = .ok (.istore 4, 2) := by decide +kernel
theorem dX5_huesDueAt_5 : decode cX5_huesDueAt 5 = .ok (.iload 4, 2) := by decide +kernel
theorem dX5_huesDueAt_7 : decode cX5_huesDueAt 7 = .ok (.aload_n 1, 1) := by decide +kernel
theorem dX5_huesDueAt_8 : decode cX5_huesDueAt 8 = .ok (.invokevirtual 123, 3) := by decide +kernel
theorem dX5_huesDueAt_11 : decode cX5_huesDueAt 11 = .ok (.if_icmp .ge 44, 3) := by decide +kernel
theorem dX5_huesDueAt_14 : decode cX5_huesDueAt 14 = .ok (.aload_n 1, 1) := by decide +kernel
theorem dX5_huesDueAt_15 : decode cX5_huesDueAt 15 = .ok (.iload 4, 2) := by decide +kernel
theorem dX5_huesDueAt_17 : decode cX5_huesDueAt 17 = .ok (.invokevirtual 286, 3) := by decide +kernel
theorem dX5_huesDueAt_20 : decode cX5_huesDueAt 20 = .ok (.istore 5, 2) := by decide +kernel
theorem dX5_huesDueAt_22 : decode cX5_huesDueAt 22 = .ok (.iload_n 2, 1) := by decide +kernel
theorem dX5_huesDueAt_23 : decode cX5_huesDueAt 23 = .ok (.aload_n 1, 1) := by decide +kernel
theorem dX5_huesDueAt_24 : decode cX5_huesDueAt 24 = .ok (.iload 5, 2) := by decide +kernel
theorem dX5_huesDueAt_26 : decode cX5_huesDueAt 26 = .ok (.iconst 0, 1) := by decide +kernel
theorem dX5_huesDueAt_27 : decode cX5_huesDueAt 27 = .ok (.invokevirtual 289, 3) := by decide +kernel
theorem dX5_huesDueAt_30 : decode cX5_huesDueAt 30 = .ok (.isub, 1) := by decide +kernel
theorem dX5_huesDueAt_31 : decode cX5_huesDueAt 31 = .ok (.aload_n 0, 1) := by decide +kernel
theorem dX5_huesDueAt_32 : decode cX5_huesDueAt 32 = .ok (.getfield 10, 3) := by decide +kernel
theorem dX5_huesDueAt_35 : decode cX5_huesDueAt 35 = .ok (.iload 5, 2) := by decide +kernel
theorem dX5_huesDueAt_37 : decode cX5_huesDueAt 37 = .ok (.invokevirtual 68, 3) := by decide +kernel
theorem dX5_huesDueAt_40 : decode cX5_huesDueAt 40 = .ok (.invokestatic 304, 3) := by decide +kernel
theorem dX5_huesDueAt_43 : decode cX5_huesDueAt 43 = .ok (.ifCond .ne 6, 3) := by decide +kernel
theorem dX5_huesDueAt_46 : decode cX5_huesDueAt 46 = .ok (.iinc 3 1, 3) := by decide +kernel
theorem dX5_huesDueAt_49 : decode cX5_huesDueAt 49 = .ok (.iinc 4 1, 3) := by decide +kernel
theorem dX5_huesDueAt_52 : decode cX5_huesDueAt 52 = .ok (.goto (-47), 3) := by decide +kernel
theorem dX5_huesDueAt_55 : decode cX5_huesDueAt 55 = .ok (.iload_n 3, 1) := by decide +kernel
theorem dX5_huesDueAt_56 : decode cX5_huesDueAt 56 = .ok (.ireturn, 1) := by decide +kernel
theorem dX5_fillingHue_0 : decode cX5_fillingHue 0 = .ok (.iconst (-1), 1) := by decide +kernel
theorem dX5_fillingHue_1 : decode cX5_fillingHue 1 = .ok (.istore_n 2, 1) := by decide +kernel
theorem dX5_fillingHue_2 : decode cX5_fillingHue 2 = .ok (.iconst 0, 1) := by decide +kernel
theorem dX5_fillingHue_3 : decode cX5_fillingHue 3 = .ok (.istore_n 3, 1) := by decide +kernel
theorem dX5_fillingHue_4 : decode cX5_fillingHue 4 = .ok (.iconst 0, 1) := by decide +kernel
theorem dX5_fillingHue_5 : decode cX5_fillingHue 5 = .ok (.istore 4, 2) := by decide +kernel
theorem dX5_fillingHue_7 : decode cX5_fillingHue 7 = .ok (.iload 4, 2) := by decide +kernel
theorem dX5_fillingHue_9 : decode cX5_fillingHue 9 = .ok (.bipush 8, 2) := by decide +kernel
theorem dX5_fillingHue_11 : decode cX5_fillingHue 11 = .ok (.if_icmp .ge 62, 3) := by decide +kernel
theorem dX5_fillingHue_14 : decode cX5_fillingHue 14 = .ok (.aload_n 0, 1) := by decide +kernel
theorem dX5_fillingHue_15 : decode cX5_fillingHue 15 = .ok (.getfield 10, 3) := by decide +kernel
theorem dX5_fillingHue_18 : decode cX5_fillingHue 18 = .ok (.iload 4, 2) := by decide +kernel
theorem dX5_fillingHue_20 : decode cX5_fillingHue 20 = .ok (.invokevirtual 68, 3) := by decide +kernel
theorem dX5_fillingHue_23 : decode cX5_fillingHue 23 = .ok (.istore 5, 2) := by decide +kernel
theorem dX5_fillingHue_25 : decode cX5_fillingHue 25 = .ok (.aload_n 1, 1) := by decide +kernel
theorem dX5_fillingHue_26 : decode cX5_fillingHue 26 = .ok (.iload 4, 2) := by decide +kernel
theorem dX5_fillingHue_28 : decode cX5_fillingHue 28 = .ok (.iload 5, 2) := by decide +kernel
theorem dX5_fillingHue_30 : decode cX5_fillingHue 30 = .ok (.invokevirtual 317, 3) := by decide +kernel
theorem dX5_fillingHue_33 : decode cX5_fillingHue 33 = .ok (.istore 6, 2) := by decide +kernel
theorem dX5_fillingHue_35 : decode cX5_fillingHue 35 = .ok (.iload 6, 2) := by decide +kernel
theorem dX5_fillingHue_37 : decode cX5_fillingHue 37 = .ok (.iconst (-1), 1) := by decide +kernel
theorem dX5_fillingHue_38 : decode cX5_fillingHue 38 = .ok (.if_icmp .ne 7, 3) := by decide +kernel
theorem dX5_fillingHue_41 : decode cX5_fillingHue 41 = .ok (.iconst 0, 1) := by decide +kernel
theorem dX5_fillingHue_42 : decode cX5_fillingHue 42 = .ok (.goto 11, 3) := by decide +kernel
theorem dX5_fillingHue_45 : decode cX5_fillingHue 45 = .ok (.aload_n 1, 1) := by decide +kernel
theorem dX5_fillingHue_46 : decode cX5_fillingHue 46 = .ok (.iload 6, 2) := by decide +kernel
theorem dX5_fillingHue_48 : decode cX5_fillingHue 48 = .ok (.iload 5, 2) := by decide +kernel
theorem dX5_fillingHue_50 : decode cX5_fillingHue 50 = .ok (.invokevirtual 320, 3) := by decide +kernel
theorem dX5_fillingHue_53 : decode cX5_fillingHue 53 = .ok (.istore 7, 2) := by decide +kernel
theorem dX5_fillingHue_55 : decode cX5_fillingHue 55 = .ok (.iload 7, 2) := by decide +kernel
theorem dX5_fillingHue_57 : decode cX5_fillingHue 57 = .ok (.iload_n 3, 1) := by decide +kernel
theorem dX5_fillingHue_58 : decode cX5_fillingHue 58 = .ok (.if_icmp .le 9, 3) := by decide +kernel
theorem dX5_fillingHue_61 : decode cX5_fillingHue 61 = .ok (.iload 7, 2) := by decide +kernel
theorem dX5_fillingHue_63 : decode cX5_fillingHue 63 = .ok (.istore_n 3, 1) := by decide +kernel
theorem dX5_fillingHue_64 : decode cX5_fillingHue 64 = .ok (.iload 4, 2) := by decide +kernel
theorem dX5_fillingHue_66 : decode cX5_fillingHue 66 = .ok (.istore_n 2, 1) := by decide +kernel
theorem dX5_fillingHue_67 : decode cX5_fillingHue 67 = .ok (.iinc 4 1, 3) := by decide +kernel
theorem dX5_fillingHue_70 : decode cX5_fillingHue 70 = .ok (.goto (-63), 3) := by decide +kernel
theorem dX5_fillingHue_73 : decode cX5_fillingHue 73 = .ok (.iload_n 2, 1) := by decide +kernel
theorem dX5_fillingHue_74 : decode cX5_fillingHue 74 = .ok (.ireturn, 1) := by decide +kernel
theorem dX5_period_0 : decode cX5_period 0 = .ok (.iconst 1, 1) := by decide +kernel
theorem dX5_period_1 : decode cX5_period 1 = .ok (.istore_n 2, 1) := by decide +kernel
theorem dX5_period_2 : decode cX5_period 2 = .ok (.iconst 0, 1) := by decide +kernel
theorem dX5_period_3 : decode cX5_period 3 = .ok (.istore_n 3, 1) := by decide +kernel
theorem dX5_period_4 : decode cX5_period 4 = .ok (.iload_n 3, 1) := by decide +kernel
theorem dX5_period_5 : decode cX5_period 5 = .ok (.aload_n 1, 1) := by decide +kernel
theorem dX5_period_6 : decode cX5_period 6 = .ok (.invokevirtual 123, 3) := by decide +kernel
theorem dX5_period_9 : decode cX5_period 9 = .ok (.if_icmp .ge 26, 3) := by decide +kernel
theorem dX5_period_12 : decode cX5_period 12 = .ok (.iload_n 2, 1) := by decide +kernel
theorem dX5_period_13 : decode cX5_period 13 = .ok (.aload_n 0, 1) := by decide +kernel
theorem dX5_period_14 : decode cX5_period 14 = .ok (.getfield 10, 3) := by decide +kernel
theorem dX5_period_17 : decode cX5_period 17 = .ok (.aload_n 1, 1) := by decide +kernel
theorem dX5_period_18 : decode cX5_period 18 = .ok (.iload_n 3, 1) := by decide +kernel
theorem dX5_period_19 : decode cX5_period 19 = .ok (.invokevirtual 286, 3) := by decide +kernel
theorem dX5_period_22 : decode cX5_period 22 = .ok (.invokevirtual 68, 3) := by decide +kernel
theorem dX5_period_25 : decode cX5_period 25 = .ok (.invokestatic 323, 3) := by decide +kernel
theorem dX5_period_28 : decode cX5_period 28 = .ok (.istore_n 2, 1) := by decide +kernel
theorem dX5_period_29 : decode cX5_period 29 = .ok (.iinc 3 1, 3) := by decide +kernel
theorem dX5_period_32 : decode cX5_period 32 = .ok (.goto (-28), 3) := by decide +kernel
theorem dX5_period_35 : decode cX5_period 35 = .ok (.iload_n 2, 1) := by decide +kernel
theorem dX5_period_36 : decode cX5_period 36 = .ok (.ireturn, 1) := by decide +kernel
theorem dX5_ropeNumber_0 : decode cX5_ropeNumber 0 = .ok (.iload_n 2, 1) := by decide +kernel
theorem dX5_ropeNumber_1 : decode cX5_ropeNumber 1 = .ok (.tableswitch 63 0 4 #[35, 40, 45, 51, 58], 35) := by decide +kernel
theorem dX5_ropeNumber_36 : decode cX5_ropeNumber 36 = .ok (.aload_n 1, 1) := by decide +kernel
theorem dX5_ropeNumber_37 : decode cX5_ropeNumber 37 = .ok (.invokevirtual 130, 3) := by decide +kernel
theorem dX5_ropeNumber_40 : decode cX5_ropeNumber 40 = .ok (.ireturn, 1) := by decide +kernel
theorem dX5_ropeNumber_41 : decode cX5_ropeNumber 41 = .ok (.aload_n 1, 1) := by decide +kernel
theorem dX5_ropeNumber_42 : decode cX5_ropeNumber 42 = .ok (.invokevirtual 123, 3) := by decide +kernel
theorem dX5_ropeNumber_45 : decode cX5_ropeNumber 45 = .ok (.ireturn, 1) := by decide +kernel
theorem dX5_ropeNumber_46 : decode cX5_ropeNumber 46 = .ok (.aload_n 1, 1) := by decide +kernel
theorem dX5_ropeNumber_47 : decode cX5_ropeNumber 47 = .ok (.iconst (-1), 1) := by decide +kernel
theorem dX5_ropeNumber_48 : decode cX5_ropeNumber 48 = .ok (.invokevirtual 326, 3) := by decide +kernel
theorem dX5_ropeNumber_51 : decode cX5_ropeNumber 51 = .ok (.ireturn, 1) := by decide +kernel
theorem dX5_ropeNumber_52 : decode cX5_ropeNumber 52 = .ok (.aload_n 1, 1) := by decide +kernel
theorem dX5_ropeNumber_53 : decode cX5_ropeNumber 53 = .ok (.iconst (-1), 1) := by decide +kernel
theorem dX5_ropeNumber_54 : decode cX5_ropeNumber 54 = .ok (.iconst 0, 1) := by decide +kernel
theorem dX5_ropeNumber_55 : decode cX5_ropeNumber 55 = .ok (.invokevirtual 289, 3) := by decide +kernel
theorem dX5_ropeNumber_58 : decode cX5_ropeNumber 58 = .ok (.ireturn, 1) := by decide +kernel
theorem dX5_ropeNumber_59 : decode cX5_ropeNumber 59 = .ok (.aload_n 1, 1) := by decide +kernel
theorem dX5_ropeNumber_60 : decode cX5_ropeNumber 60 = .ok (.invokevirtual 329, 3) := by decide +kernel
theorem dX5_ropeNumber_63 : decode cX5_ropeNumber 63 = .ok (.ireturn, 1) := by decide +kernel
theorem dX5_ropeNumber_64 : decode cX5_ropeNumber 64 = .ok (.aload_n 0, 1) := by decide +kernel
theorem dX5_ropeNumber_65 : decode cX5_ropeNumber 65 = .ok (.aload_n 1, 1) := by decide +kernel
theorem dX5_ropeNumber_66 : decode cX5_ropeNumber 66 = .ok (.invokevirtual 332, 3) := by decide +kernel
theorem dX5_ropeNumber_69 : decode cX5_ropeNumber 69 = .ok (.ireturn, 1) := by decide +kernel
theorem dX5_counted_0 : decode cX5_counted 0 = .ok (.iload_n 1, 1) := by decide +kernel
theorem dX5_counted_1 : decode cX5_counted 1 = .ok (.tableswitch 99 0 6 #[43, 51, 59, 67, 75, 83, 91], 43) := by decide +kernel
theorem dX5_counted_44 : decode cX5_counted 44 = .ok (.aload_n 0, 1) := by decide +kernel
theorem dX5_counted_45 : decode cX5_counted 45 = .ok (.getfield 10, 3) := by decide +kernel
theorem dX5_counted_48 : decode cX5_counted 48 = .ok (.invokevirtual 86, 3) := by decide +kernel
theorem dX5_counted_51 : decode cX5_counted 51 = .ok (.ireturn, 1) := by decide +kernel
theorem dX5_counted_52 : decode cX5_counted 52 = .ok (.aload_n 0, 1) := by decide +kernel
theorem dX5_counted_53 : decode cX5_counted 53 = .ok (.getfield 10, 3) := by decide +kernel
theorem dX5_counted_56 : decode cX5_counted 56 = .ok (.invokevirtual 241, 3) := by decide +kernel
theorem dX5_counted_59 : decode cX5_counted 59 = .ok (.ireturn, 1) := by decide +kernel
theorem dX5_counted_60 : decode cX5_counted 60 = .ok (.aload_n 0, 1) := by decide +kernel
theorem dX5_counted_61 : decode cX5_counted 61 = .ok (.getfield 10, 3) := by decide +kernel
theorem dX5_counted_64 : decode cX5_counted 64 = .ok (.invokevirtual 244, 3) := by decide +kernel
theorem dX5_counted_67 : decode cX5_counted 67 = .ok (.ireturn, 1) := by decide +kernel
theorem dX5_counted_68 : decode cX5_counted 68 = .ok (.aload_n 0, 1) := by decide +kernel
theorem dX5_counted_69 : decode cX5_counted 69 = .ok (.getfield 10, 3) := by decide +kernel
theorem dX5_counted_72 : decode cX5_counted 72 = .ok (.invokevirtual 335, 3) := by decide +kernel
theorem dX5_counted_75 : decode cX5_counted 75 = .ok (.ireturn, 1) := by decide +kernel
theorem dX5_counted_76 : decode cX5_counted 76 = .ok (.aload_n 0, 1) := by decide +kernel
theorem dX5_counted_77 : decode cX5_counted 77 = .ok (.getfield 10, 3) := by decide +kernel
theorem dX5_counted_80 : decode cX5_counted 80 = .ok (.invokevirtual 338, 3) := by decide +kernel
theorem dX5_counted_83 : decode cX5_counted 83 = .ok (.ireturn, 1) := by decide +kernel
theorem dX5_counted_84 : decode cX5_counted 84 = .ok (.aload_n 0, 1) := by decide +kernel
theorem dX5_counted_85 : decode cX5_counted 85 = .ok (.getfield 10, 3) := by decide +kernel
theorem dX5_counted_88 : decode cX5_counted 88 = .ok (.invokevirtual 341, 3) := by decide +kernel
theorem dX5_counted_91 : decode cX5_counted 91 = .ok (.ireturn, 1) := by decide +kernel
theorem dX5_counted_92 : decode cX5_counted 92 = .ok (.aload_n 0, 1) := by decide +kernel
theorem dX5_counted_93 : decode cX5_counted 93 = .ok (.getfield 10, 3) := by decide +kernel
theorem dX5_counted_96 : decode cX5_counted 96 = .ok (.invokevirtual 344, 3) := by decide +kernel
theorem dX5_counted_99 : decode cX5_counted 99 = .ok (.ireturn, 1) := by decide +kernel
theorem dX5_counted_100 : decode cX5_counted 100 = .ok (.aload_n 0, 1) := by decide +kernel
theorem dX5_counted_101 : decode cX5_counted 101 = .ok (.getfield 22, 3) := by decide +kernel
theorem dX5_counted_104 : decode cX5_counted 104 = .ok (.invokevirtual 192, 3) := by decide +kernel
theorem dX5_counted_107 : decode cX5_counted 107 = .ok (.ireturn, 1) := by decide +kernel
theorem dX5_mixed_0 : decode cX5_mixed 0 = .ok (.ldc2_w 347, 3) := by decide +kernel
theorem dX5_mixed_3 : decode cX5_mixed 3 = .ok (.lload_n 0, 1) := by decide +kernel
theorem dX5_mixed_4 : decode cX5_mixed 4 = .ok (.lmul, 1) := by decide +kernel
theorem dX5_mixed_5 : decode cX5_mixed 5 = .ok (.lload_n 2, 1) := by decide +kernel
theorem dX5_mixed_6 : decode cX5_mixed 6 = .ok (.ladd, 1) := by decide +kernel
theorem dX5_mixed_7 : decode cX5_mixed 7 = .ok (.lreturn, 1) := by decide +kernel
theorem dX5_ropeMixed_0 : decode cX5_ropeMixed 0 = .ok (.aload_n 0, 1) := by decide +kernel
theorem dX5_ropeMixed_1 : decode cX5_ropeMixed 1 = .ok (.getfield 10, 3) := by decide +kernel
theorem dX5_ropeMixed_4 : decode cX5_ropeMixed 4 = .ok (.iload_n 3, 1) := by decide +kernel
theorem dX5_ropeMixed_5 : decode cX5_ropeMixed 5 = .ok (.invokevirtual 268, 3) := by decide +kernel
theorem dX5_ropeMixed_8 : decode cX5_ropeMixed 8 = .ok (.astore 4, 2) := by decide +kernel
theorem dX5_ropeMixed_10 : decode cX5_ropeMixed 10 = .ok (.aload_n 0, 1) := by decide +kernel
theorem dX5_ropeMixed_11 : decode cX5_ropeMixed 11 = .ok (.getfield 10, 3) := by decide +kernel
theorem dX5_ropeMixed_14 : decode cX5_ropeMixed 14 = .ok (.iconst 0, 1) := by decide +kernel
theorem dX5_ropeMixed_15 : decode cX5_ropeMixed 15 = .ok (.invokevirtual 268, 3) := by decide +kernel
theorem dX5_ropeMixed_18 : decode cX5_ropeMixed 18 = .ok (.astore 5, 2) := by decide +kernel
theorem dX5_ropeMixed_20 : decode cX5_ropeMixed 20 = .ok (.aload 4, 2) := by decide +kernel
theorem dX5_ropeMixed_22 : decode cX5_ropeMixed 22 = .ok (.ifnull 8, 3) := by decide +kernel
theorem dX5_ropeMixed_25 : decode cX5_ropeMixed 25 = .ok (.aload 5, 2) := by decide +kernel
theorem dX5_ropeMixed_27 : decode cX5_ropeMixed 27 = .ok (.ifnonnull 5, 3) := by decide +kernel
theorem dX5_ropeMixed_30 : decode cX5_ropeMixed 30 = .ok (.lload_n 1, 1) := by decide +kernel
theorem dX5_ropeMixed_31 : decode cX5_ropeMixed 31 = .ok (.lreturn, 1) := by decide +kernel
theorem dX5_ropeMixed_32 : decode cX5_ropeMixed 32 = .ok (.lload_n 1, 1) := by decide +kernel
theorem dX5_ropeMixed_33 : decode cX5_ropeMixed 33 = .ok (.lstore 6, 2) := by decide +kernel
theorem dX5_ropeMixed_35 : decode cX5_ropeMixed 35 = .ok (.iconst 0, 1) := by decide +kernel
theorem dX5_ropeMixed_36 : decode cX5_ropeMixed 36 = .ok (.istore 8, 2) := by decide +kernel
theorem dX5_ropeMixed_38 : decode cX5_ropeMixed 38 = .ok (.iload 8, 2) := by decide +kernel
theorem dX5_ropeMixed_40 : decode cX5_ropeMixed 40 = .ok (.bipush 6, 2) := by decide +kernel
theorem dX5_ropeMixed_42 : decode cX5_ropeMixed 42 = .ok (.if_icmp .ge 25, 3) := by decide +kernel
theorem dX5_ropeMixed_45 : decode cX5_ropeMixed 45 = .ok (.lload 6, 2) := by decide +kernel
theorem dX5_ropeMixed_47 : decode cX5_ropeMixed 47 = .ok (.aload_n 0, 1) := by decide +kernel
theorem dX5_ropeMixed_48 : decode cX5_ropeMixed 48 = .ok (.aload 4, 2) := by decide +kernel
theorem dX5_ropeMixed_50 : decode cX5_ropeMixed 50 = .ok (.iload 8, 2) := by decide +kernel
theorem dX5_ropeMixed_52 : decode cX5_ropeMixed 52 = .ok (.invokevirtual 215, 3) := by decide +kernel
theorem dX5_ropeMixed_55 : decode cX5_ropeMixed 55 = .ok (.i2l, 1) := by decide +kernel
theorem dX5_ropeMixed_56 : decode cX5_ropeMixed 56 = .ok (.invokestatic 249, 3) := by decide +kernel
theorem dX5_ropeMixed_59 : decode cX5_ropeMixed 59 = .ok (.lstore 6, 2) := by decide +kernel
theorem dX5_ropeMixed_61 : decode cX5_ropeMixed 61 = .ok (.iinc 8 1, 3) := by decide +kernel
theorem dX5_ropeMixed_64 : decode cX5_ropeMixed 64 = .ok (.goto (-26), 3) := by decide +kernel
theorem dX5_ropeMixed_67 : decode cX5_ropeMixed 67 = .ok (.iconst 0, 1) := by decide +kernel
theorem dX5_ropeMixed_68 : decode cX5_ropeMixed 68 = .ok (.istore 8, 2) := by decide +kernel
theorem dX5_ropeMixed_70 : decode cX5_ropeMixed 70 = .ok (.iload 8, 2) := by decide +kernel
theorem dX5_ropeMixed_72 : decode cX5_ropeMixed 72 = .ok (.aload 4, 2) := by decide +kernel
theorem dX5_ropeMixed_74 : decode cX5_ropeMixed 74 = .ok (.invokevirtual 130, 3) := by decide +kernel
theorem dX5_ropeMixed_77 : decode cX5_ropeMixed 77 = .ok (.if_icmp .ge 24, 3) := by decide +kernel
theorem dX5_ropeMixed_80 : decode cX5_ropeMixed 80 = .ok (.lload 6, 2) := by decide +kernel
theorem dX5_ropeMixed_82 : decode cX5_ropeMixed 82 = .ok (.aload 4, 2) := by decide +kernel
theorem dX5_ropeMixed_84 : decode cX5_ropeMixed 84 = .ok (.iload 8, 2) := by decide +kernel
theorem dX5_ropeMixed_86 : decode cX5_ropeMixed 86 = .ok (.invokevirtual 209, 3) := by decide +kernel
theorem dX5_ropeMixed_89 : decode cX5_ropeMixed 89 = .ok (.i2l, 1) := by decide +kernel
theorem dX5_ropeMixed_90 : decode cX5_ropeMixed 90 = .ok (.invokestatic 249, 3) := by decide +kernel
theorem dX5_ropeMixed_93 : decode cX5_ropeMixed 93 = .ok (.lstore 6, 2) := by decide +kernel
theorem dX5_ropeMixed_95 : decode cX5_ropeMixed 95 = .ok (.iinc 8 1, 3) := by decide +kernel
theorem dX5_ropeMixed_98 : decode cX5_ropeMixed 98 = .ok (.goto (-28), 3) := by decide +kernel
theorem dX5_ropeMixed_101 : decode cX5_ropeMixed 101 = .ok (.iconst 0, 1) := by decide +kernel
theorem dX5_ropeMixed_102 : decode cX5_ropeMixed 102 = .ok (.istore 8, 2) := by decide +kernel
theorem dX5_ropeMixed_104 : decode cX5_ropeMixed 104 = .ok (.iload 8, 2) := by decide +kernel
theorem dX5_ropeMixed_106 : decode cX5_ropeMixed 106 = .ok (.bipush 8, 2) := by decide +kernel
theorem dX5_ropeMixed_108 : decode cX5_ropeMixed 108 = .ok (.if_icmp .ge 21, 3) := by decide +kernel
theorem dX5_ropeMixed_111 : decode cX5_ropeMixed 111 = .ok (.aload_n 0, 1) := by decide +kernel
theorem dX5_ropeMixed_112 : decode cX5_ropeMixed 112 = .ok (.lload 6, 2) := by decide +kernel
theorem dX5_ropeMixed_114 : decode cX5_ropeMixed 114 = .ok (.aload 4, 2) := by decide +kernel
theorem dX5_ropeMixed_116 : decode cX5_ropeMixed 116 = .ok (.iload 8, 2) := by decide +kernel
theorem dX5_ropeMixed_118 : decode cX5_ropeMixed 118 = .ok (.invokevirtual 349, 3) := by decide +kernel
theorem dX5_ropeMixed_121 : decode cX5_ropeMixed 121 = .ok (.lstore 6, 2) := by decide +kernel
theorem dX5_ropeMixed_123 : decode cX5_ropeMixed 123 = .ok (.iinc 8 1, 3) := by decide +kernel
theorem dX5_ropeMixed_126 : decode cX5_ropeMixed 126 = .ok (.goto (-22), 3) := by decide +kernel
theorem dX5_ropeMixed_129 : decode cX5_ropeMixed 129 = .ok (.lload 6, 2) := by decide +kernel
theorem dX5_ropeMixed_131 : decode cX5_ropeMixed 131 = .ok (.aload_n 0, 1) := by decide +kernel
theorem dX5_ropeMixed_132 : decode cX5_ropeMixed 132 = .ok (.aload 4, 2) := by decide +kernel
theorem dX5_ropeMixed_134 : decode cX5_ropeMixed 134 = .ok (.invokevirtual 238, 3) := by decide +kernel
theorem dX5_ropeMixed_137 : decode cX5_ropeMixed 137 = .ok (.i2l, 1) := by decide +kernel
theorem dX5_ropeMixed_138 : decode cX5_ropeMixed 138 = .ok (.invokestatic 249, 3) := by decide +kernel
theorem dX5_ropeMixed_141 : decode cX5_ropeMixed 141 = .ok (.lstore 6, 2) := by decide +kernel
theorem dX5_ropeMixed_143 : decode cX5_ropeMixed 143 = .ok (.lload 6, 2) := by decide +kernel
theorem dX5_ropeMixed_145 : decode cX5_ropeMixed 145 = .ok (.aload_n 0, 1) := by decide +kernel
theorem dX5_ropeMixed_146 : decode cX5_ropeMixed 146 = .ok (.aload 4, 2) := by decide +kernel
theorem dX5_ropeMixed_148 : decode cX5_ropeMixed 148 = .ok (.invokevirtual 117, 3) := by decide +kernel
theorem dX5_ropeMixed_151 : decode cX5_ropeMixed 151 = .ok (.i2l, 1) := by decide +kernel
theorem dX5_ropeMixed_152 : decode cX5_ropeMixed 152 = .ok (.invokestatic 249, 3) := by decide +kernel
theorem dX5_ropeMixed_155 : decode cX5_ropeMixed 155 = .ok (.lstore 6, 2) := by decide +kernel
theorem dX5_ropeMixed_157 : decode cX5_ropeMixed 157 = .ok (.lload 6, 2) := by decide +kernel
theorem dX5_ropeMixed_159 : decode cX5_ropeMixed 159 = .ok (.iload_n 3, 1) := by decide +kernel
theorem dX5_ropeMixed_160 : decode cX5_ropeMixed 160 = .ok (.ifCond .ne 7, 3) := by decide +kernel
theorem dX5_ropeMixed_163 : decode cX5_ropeMixed 163 = .ok (.lconst 1, 1) := by decide +kernel
theorem dX5_ropeMixed_164 : decode cX5_ropeMixed 164 = .ok (.goto 12, 3) := by decide +kernel
theorem dX5_ropeMixed_167 : decode cX5_ropeMixed 167 = .ok (.aload_n 0, 1) := by decide +kernel
theorem dX5_ropeMixed_168 : decode cX5_ropeMixed 168 = .ok (.aload 4, 2) := by decide +kernel
theorem dX5_ropeMixed_170 : decode cX5_ropeMixed 170 = .ok (.aload 5, 2) := by decide +kernel
theorem dX5_ropeMixed_172 : decode cX5_ropeMixed 172 = .ok (.invokevirtual 145, 3) := by decide +kernel
theorem dX5_ropeMixed_175 : decode cX5_ropeMixed 175 = .ok (.i2l, 1) := by decide +kernel
theorem dX5_ropeMixed_176 : decode cX5_ropeMixed 176 = .ok (.invokestatic 249, 3) := by decide +kernel
theorem dX5_ropeMixed_179 : decode cX5_ropeMixed 179 = .ok (.lreturn, 1) := by decide +kernel
theorem dX5_hueMixed_0 : decode cX5_hueMixed 0 = .ok (.lload_n 1, 1) := by decide +kernel
theorem dX5_hueMixed_1 : decode cX5_hueMixed 1 = .ok (.lstore 5, 2) := by decide +kernel
theorem dX5_hueMixed_3 : decode cX5_hueMixed 3 = .ok (.iconst 0, 1) := by decide +kernel
theorem dX5_hueMixed_4 : decode cX5_hueMixed 4 = .ok (.istore 7, 2) := by decide +kernel
theorem dX5_hueMixed_6 : decode cX5_hueMixed 6 = .ok (.iload 7, 2) := by decide +kernel
theorem dX5_hueMixed_8 : decode cX5_hueMixed 8 = .ok (.iconst 4, 1) := by decide +kernel
theorem dX5_hueMixed_9 : decode cX5_hueMixed 9 = .ok (.if_icmp .ge 25, 3) := by decide +kernel
theorem dX5_hueMixed_12 : decode cX5_hueMixed 12 = .ok (.lload 5, 2) := by decide +kernel
theorem dX5_hueMixed_14 : decode cX5_hueMixed 14 = .ok (.aload_n 3, 1) := by decide +kernel
theorem dX5_hueMixed_15 : decode cX5_hueMixed 15 = .ok (.iload 4, 2) := by decide +kernel
theorem dX5_hueMixed_17 : decode cX5_hueMixed 17 = .ok (.iload 7, 2) := by decide +kernel
theorem dX5_hueMixed_19 : decode cX5_hueMixed 19 = .ok (.invokevirtual 219, 3) := by decide +kernel
theorem dX5_hueMixed_22 : decode cX5_hueMixed 22 = .ok (.i2l, 1) := by decide +kernel
theorem dX5_hueMixed_23 : decode cX5_hueMixed 23 = .ok (.invokestatic 249, 3) := by decide +kernel
theorem dX5_hueMixed_26 : decode cX5_hueMixed 26 = .ok (.lstore 5, 2) := by decide +kernel
theorem dX5_hueMixed_28 : decode cX5_hueMixed 28 = .ok (.iinc 7 1, 3) := by decide +kernel
theorem dX5_hueMixed_31 : decode cX5_hueMixed 31 = .ok (.goto (-25), 3) := by decide +kernel
theorem dX5_hueMixed_34 : decode cX5_hueMixed 34 = .ok (.iconst 0, 1) := by decide +kernel
theorem dX5_hueMixed_35 : decode cX5_hueMixed 35 = .ok (.istore 7, 2) := by decide +kernel
theorem dX5_hueMixed_37 : decode cX5_hueMixed 37 = .ok (.iload 7, 2) := by decide +kernel
theorem dX5_hueMixed_39 : decode cX5_hueMixed 39 = .ok (.iconst 3, 1) := by decide +kernel
theorem dX5_hueMixed_40 : decode cX5_hueMixed 40 = .ok (.if_icmp .ge 34, 3) := by decide +kernel
theorem dX5_hueMixed_43 : decode cX5_hueMixed 43 = .ok (.lload 5, 2) := by decide +kernel
theorem dX5_hueMixed_45 : decode cX5_hueMixed 45 = .ok (.aload_n 3, 1) := by decide +kernel
theorem dX5_hueMixed_46 : decode cX5_hueMixed 46 = .ok (.iload 4, 2) := by decide +kernel
theorem dX5_hueMixed_48 : decode cX5_hueMixed 48 = .ok (.aload_n 0, 1) := by decide +kernel
theorem dX5_hueMixed_49 : decode cX5_hueMixed 49 = .ok (.getfield 10, 3) := by decide +kernel
theorem dX5_hueMixed_52 : decode cX5_hueMixed 52 = .ok (.iload 4, 2) := by decide +kernel
theorem dX5_hueMixed_54 : decode cX5_hueMixed 54 = .ok (.invokevirtual 68, 3) := by decide +kernel
theorem dX5_hueMixed_57 : decode cX5_hueMixed 57 = .ok (.iload 7, 2) := by decide +kernel
theorem dX5_hueMixed_59 : decode cX5_hueMixed 59 = .ok (.invokevirtual 235, 3) := by decide +kernel
theorem dX5_hueMixed_62 : decode cX5_hueMixed 62 = .ok (.i2l, 1) := by decide +kernel
theorem dX5_hueMixed_63 : decode cX5_hueMixed 63 = .ok (.invokestatic 249, 3) := by decide +kernel
theorem dX5_hueMixed_66 : decode cX5_hueMixed 66 = .ok (.lstore 5, 2) := by decide +kernel
theorem dX5_hueMixed_68 : decode cX5_hueMixed 68 = .ok (.iinc 7 1, 3) := by decide +kernel
theorem dX5_hueMixed_71 : decode cX5_hueMixed 71 = .ok (.goto (-34), 3) := by decide +kernel
theorem dX5_hueMixed_74 : decode cX5_hueMixed 74 = .ok (.lload 5, 2) := by decide +kernel
theorem dX5_hueMixed_76 : decode cX5_hueMixed 76 = .ok (.lreturn, 1) := by decide +kernel
end
section
theorem dX6_init_0 : decode cX6_init 0 = .ok (.aload_n 0, 1) := by decide +kernel
theorem dX6_init_1 : decode cX6_init 1 = .ok (.invokespecial 1, 3) := by decide +kernel
theorem dX6_init_4 : decode cX6_init 4 = .ok (.aload_n 0, 1) := by decide +kernel
theorem dX6_init_5 : decode cX6_init 5 = .ok (.bipush 84, 2) := by decide +kernel
theorem dX6_init_7 : decode cX6_init 7 = .ok (.newarray .int, 2) := by decide +kernel
theorem dX6_init_9 : decode cX6_init 9 = .ok (.putfield 7, 3) := by decide +kernel
theorem dX6_init_12 : decode cX6_init 12 = .ok (.aload_n 0, 1) := by decide +kernel
theorem dX6_init_13 : decode cX6_init 13 = .ok (.bipush 84, 2) := by decide +kernel
theorem dX6_init_15 : decode cX6_init 15 = .ok (.newarray .int, 2) := by decide +kernel
theorem dX6_init_17 : decode cX6_init 17 = .ok (.putfield 13, 3) := by decide +kernel
theorem dX6_init_20 : decode cX6_init 20 = .ok (.aload_n 0, 1) := by decide +kernel
theorem dX6_init_21 : decode cX6_init 21 = .ok (.bipush 84, 2) := by decide +kernel
theorem dX6_init_23 : decode cX6_init 23 = .ok (.newarray .int, 2) := by decide +kernel
theorem dX6_init_25 : decode cX6_init 25 = .ok (.putfield 16, 3) := by decide +kernel
theorem dX6_init_28 : decode cX6_init 28 = .ok (.aload_n 0, 1) := by decide +kernel
theorem dX6_init_29 : decode cX6_init 29 = .ok (.sipush 504, 3) := by decide +kernel
theorem dX6_init_32 : decode cX6_init 32 = .ok (.newarray .int, 2) := by decide +kernel
theorem dX6_init_34 : decode cX6_init 34 = .ok (.putfield 19, 3) := by decide +kernel
theorem dX6_init_37 : decode cX6_init 37 = .ok (.aload_n 0, 1) := by decide +kernel
theorem dX6_init_38 : decode cX6_init 38 = .ok (.bipush 60, 2) := by decide +kernel
theorem dX6_init_40 : decode cX6_init 40 = .ok (.newarray .int, 2) := by decide +kernel
theorem dX6_init_42 : decode cX6_init 42 = .ok (.putfield 22, 3) := by decide +kernel
theorem dX6_init_45 : decode cX6_init 45 = .ok (.aload_n 0, 1) := by decide +kernel
theorem dX6_init_46 : decode cX6_init 46 = .ok (.bipush 18, 2) := by decide +kernel
theorem dX6_init_48 : decode cX6_init 48 = .ok (.newarray .int, 2) := by decide +kernel
theorem dX6_init_50 : decode cX6_init 50 = .ok (.putfield 25, 3) := by decide +kernel
theorem dX6_init_53 : decode cX6_init 53 = .ok (.iconst 0, 1) := by decide +kernel
theorem dX6_init_54 : decode cX6_init 54 = .ok (.istore_n 1, 1) := by decide +kernel
theorem dX6_init_55 : decode cX6_init 55 = .ok (.iload_n 1, 1) := by decide +kernel
theorem dX6_init_56 : decode cX6_init 56 = .ok (.bipush 8, 2) := by decide +kernel
theorem dX6_init_58 : decode cX6_init 58 = .ok (.if_icmp .ge 20, 3) := by decide +kernel
theorem dX6_init_61 : decode cX6_init 61 = .ok (.aload_n 0, 1) := by decide +kernel
theorem dX6_init_62 : decode cX6_init 62 = .ok (.getfield 7, 3) := by decide +kernel
theorem dX6_init_65 : decode cX6_init 65 = .ok (.iconst 0, 1) := by decide +kernel
theorem dX6_init_66 : decode cX6_init 66 = .ok (.iload_n 1, 1) := by decide +kernel
theorem dX6_init_67 : decode cX6_init 67 = .ok (.iadd, 1) := by decide +kernel
theorem dX6_init_68 : decode cX6_init 68 = .ok (.iconst 2, 1) := by decide +kernel
theorem dX6_init_69 : decode cX6_init 69 = .ok (.iload_n 1, 1) := by decide +kernel
theorem dX6_init_70 : decode cX6_init 70 = .ok (.iadd, 1) := by decide +kernel
theorem dX6_init_71 : decode cX6_init 71 = .ok (.iastore, 1) := by decide +kernel
theorem dX6_init_72 : decode cX6_init 72 = .ok (.iinc 1 1, 3) := by decide +kernel
theorem dX6_init_75 : decode cX6_init 75 = .ok (.goto (-20), 3) := by decide +kernel
theorem dX6_init_78 : decode cX6_init 78 = .ok (.return_, 1) := by decide +kernel
theorem dX6_thrown_0 : decode cX6_thrown 0 = .ok (.aload_n 0, 1) := by decide +kernel
theorem dX6_thrown_1 : decode cX6_thrown 1 = .ok (.getfield 28, 3) := by decide +kernel
theorem dX6_thrown_4 : decode cX6_thrown 4 = .ok (.ireturn, 1) := by decide +kernel
theorem dX6_in_0 : decode cX6_in 0 = .ok (.iload_n 0, 1) := by decide +kernel
theorem dX6_in_1 : decode cX6_in 1 = .ok (.iload_n 1, 1) := by decide +kernel
theorem dX6_in_2 : decode cX6_in 2 = .ok (.if_icmp .lt 12, 3) := by decide +kernel
theorem dX6_in_5 : decode cX6_in 5 = .ok (.iload_n 0, 1) := by decide +kernel
theorem dX6_in_6 : decode cX6_in 6 = .ok (.iload_n 2, 1) := by decide +kernel
theorem dX6_in_7 : decode cX6_in 7 = .ok (.if_icmp .gt 7, 3) := by decide +kernel
theorem dX6_in_10 : decode cX6_in 10 = .ok (.iconst 1, 1) := by decide +kernel
theorem dX6_in_11 : decode cX6_in 11 = .ok (.goto 4, 3) := by decide +kernel
theorem dX6_in_14 : decode cX6_in 14 = .ok (.iconst 0, 1) := by decide +kernel
theorem dX6_in_15 : decode cX6_in 15 = .ok (.ireturn, 1) := by decide +kernel
theorem dX6_holds_0 : decode cX6_holds 0 = .ok (.aload_n 0, 1) := by decide +kernel
theorem dX6_holds_1 : decode cX6_holds 1 = .ok (.iload_n 1, 1) := by decide +kernel
theorem dX6_holds_2 : decode cX6_holds 2 = .ok (.putfield 28, 3) := by decide +kernel
theorem dX6_holds_5 : decode cX6_holds 5 = .ok (.iload_n 1, 1) := by decide +kernel
theorem dX6_holds_6 : decode cX6_holds 6 = .ok (.ifCond .ne 7, 3) := by decide +kernel
theorem dX6_holds_9 : decode cX6_holds 9 = .ok (.iconst 1, 1) := by decide +kernel
theorem dX6_holds_10 : decode cX6_holds 10 = .ok (.goto 4, 3) := by decide +kernel
theorem dX6_holds_13 : decode cX6_holds 13 = .ok (.iconst 0, 1) := by decide +kernel
theorem dX6_holds_14 : decode cX6_holds 14 = .ok (.ireturn, 1) := by decide +kernel
theorem dX6_isHue_0 : decode cX6_isHue 0 = .ok (.iload_n 0, 1) := by decide +kernel
theorem dX6_isHue_1 : decode cX6_isHue 1 = .ok (.iconst 0, 1) := by decide +kernel
theorem dX6_isHue_2 : decode cX6_isHue 2 = .ok (.bipush 7, 2) := by decide +kernel
theorem dX6_isHue_4 : decode cX6_isHue 4 = .ok (.invokestatic 32, 3) := by decide +kernel
theorem dX6_isHue_7 : decode cX6_isHue 7 = .ok (.ireturn, 1) := by decide +kernel
theorem dX6_isRope_0 : decode cX6_isRope 0 = .ok (.iload_n 1, 1) := by decide +kernel
theorem dX6_isRope_1 : decode cX6_isRope 1 = .ok (.iconst 0, 1) := by decide +kernel
theorem dX6_isRope_2 : decode cX6_isRope 2 = .ok (.aload_n 0, 1) := by decide +kernel
theorem dX6_isRope_3 : decode cX6_isRope 3 = .ok (.getfield 7, 3) := by decide +kernel
theorem dX6_isRope_6 : decode cX6_isRope 6 = .ok (.bipush 8, 2) := by decide +kernel
theorem dX6_isRope_8 : decode cX6_isRope 8 = .ok (.iaload, 1) := by decide +kernel
theorem dX6_isRope_9 : decode cX6_isRope 9 = .ok (.iconst 1, 1) := by decide +kernel
theorem dX6_isRope_10 : decode cX6_isRope 10 = .ok (.isub, 1) := by decide +kernel
theorem dX6_isRope_11 : decode cX6_isRope 11 = .ok (.invokestatic 32, 3) := by decide +kernel
theorem dX6_isRope_14 : decode cX6_isRope 14 = .ok (.ireturn, 1) := by decide +kernel
theorem dX6_isPhase_0 : decode cX6_isPhase 0 = .ok (.iload_n 2, 1) := by decide +kernel
theorem dX6_isPhase_1 : decode cX6_isPhase 1 = .ok (.iconst 0, 1) := by decide +kernel
theorem dX6_isPhase_2 : decode cX6_isPhase 2 = .ok (.aload_n 0, 1) := by decide +kernel
theorem dX6_isPhase_3 : decode cX6_isPhase 3 = .ok (.getfield 7, 3) := by decide +kernel
theorem dX6_isPhase_6 : decode cX6_isPhase 6 = .ok (.iconst 0, 1) := by decide +kernel
theorem dX6_isPhase_7 : decode cX6_isPhase 7 = .ok (.iload_n 1, 1) := by decide +kernel
theorem dX6_isPhase_8 : decode cX6_isPhase 8 = .ok (.iadd, 1) := by decide +kernel
theorem dX6_isPhase_9 : decode cX6_isPhase 9 = .ok (.iaload, 1) := by decide +kernel
theorem dX6_isPhase_10 : decode cX6_isPhase 10 = .ok (.iconst 1, 1) := by decide +kernel
theorem dX6_isPhase_11 : decode cX6_isPhase 11 = .ok (.isub, 1) := by decide +kernel
theorem dX6_isPhase_12 : decode cX6_isPhase 12 = .ok (.invokestatic 32, 3) := by decide +kernel
theorem dX6_isPhase_15 : decode cX6_isPhase 15 = .ok (.ireturn, 1) := by decide +kernel
theorem dX6_of_0 : decode cX6_of 0 = .ok (.bipush 12, 2) := by decide +kernel
theorem dX6_of_2 : decode cX6_of 2 = .ok (.bipush 18, 2) := by decide +kernel
theorem dX6_of_4 : decode cX6_of 4 = .ok (.iload_n 0, 1) := by decide +kernel
theorem dX6_of_5 : decode cX6_of 5 = .ok (.imul, 1) := by decide +kernel
theorem dX6_of_6 : decode cX6_of 6 = .ok (.iadd, 1) := by decide +kernel
theorem dX6_of_7 : decode cX6_of 7 = .ok (.iload_n 1, 1) := by decide +kernel
theorem dX6_of_8 : decode cX6_of 8 = .ok (.iadd, 1) := by decide +kernel
theorem dX6_of_9 : decode cX6_of 9 = .ok (.ireturn, 1) := by decide +kernel
theorem dX6_phaseOf_0 : decode cX6_phaseOf 0 = .ok (.aload_n 0, 1) := by decide +kernel
theorem dX6_phaseOf_1 : decode cX6_phaseOf 1 = .ok (.getfield 7, 3) := by decide +kernel
theorem dX6_phaseOf_4 : decode cX6_phaseOf 4 = .ok (.iload_n 1, 1) := by decide +kernel
theorem dX6_phaseOf_5 : decode cX6_phaseOf 5 = .ok (.bipush 10, 2) := by decide +kernel
theorem dX6_phaseOf_7 : decode cX6_phaseOf 7 = .ok (.iload_n 2, 1) := by decide +kernel
theorem dX6_phaseOf_8 : decode cX6_phaseOf 8 = .ok (.iadd, 1) := by decide +kernel
theorem dX6_phaseOf_9 : decode cX6_phaseOf 9 = .ok (.invokestatic 36, 3) := by decide +kernel
theorem dX6_phaseOf_12 : decode cX6_phaseOf 12 = .ok (.iaload, 1) := by decide +kernel
theorem dX6_phaseOf_13 : decode cX6_phaseOf 13 = .ok (.ireturn, 1) := by decide +kernel
theorem dX6_isLaid_0 : decode cX6_isLaid 0 = .ok (.aload_n 0, 1) := by decide +kernel
theorem dX6_isLaid_1 : decode cX6_isLaid 1 = .ok (.iload_n 1, 1) := by decide +kernel
theorem dX6_isLaid_2 : decode cX6_isLaid 2 = .ok (.iload_n 2, 1) := by decide +kernel
theorem dX6_isLaid_3 : decode cX6_isLaid 3 = .ok (.invokevirtual 40, 3) := by decide +kernel
theorem dX6_isLaid_6 : decode cX6_isLaid 6 = .ok (.ifCond .lt 7, 3) := by decide +kernel
theorem dX6_isLaid_9 : decode cX6_isLaid 9 = .ok (.iconst 1, 1) := by decide +kernel
theorem dX6_isLaid_10 : decode cX6_isLaid 10 = .ok (.goto 4, 3) := by decide +kernel
theorem dX6_isLaid_13 : decode cX6_isLaid 13 = .ok (.iconst 0, 1) := by decide +kernel
theorem dX6_isLaid_14 : decode cX6_isLaid 14 = .ok (.ireturn, 1) := by decide +kernel
theorem dX6_save_0 : decode cX6_save 0 = .ok (.aload_n 0, 1) := by decide +kernel
theorem dX6_save_1 : decode cX6_save 1 = .ok (.getfield 43, 3) := by decide +kernel
theorem dX6_save_4 : decode cX6_save 4 = .ok (.bipush 6, 2) := by decide +kernel
theorem dX6_save_6 : decode cX6_save 6 = .ok (.if_icmp .ne 43, 3) := by decide +kernel
theorem dX6_save_9 : decode cX6_save 9 = .ok (.iconst 0, 1) := by decide +kernel
theorem dX6_save_10 : decode cX6_save 10 = .ok (.istore_n 1, 1) := by decide +kernel
theorem dX6_save_11 : decode cX6_save 11 = .ok (.iload_n 1, 1) := by decide +kernel
theorem dX6_save_12 : decode cX6_save 12 = .ok (.sipush 420, 3) := by decide +kernel
theorem dX6_save_15 : decode cX6_save 15 = .ok (.if_icmp .ge 24, 3) := by decide +kernel
theorem dX6_save_18 : decode cX6_save 18 = .ok (.aload_n 0, 1) := by decide +kernel
theorem dX6_save_19 : decode cX6_save 19 = .ok (.getfield 19, 3) := by decide +kernel
theorem dX6_save_22 : decode cX6_save 22 = .ok (.iload_n 1, 1) := by decide +kernel
theorem dX6_save_23 : decode cX6_save 23 = .ok (.aload_n 0, 1) := by decide +kernel
theorem dX6_save_24 : decode cX6_save 24 = .ok (.getfield 19, 3) := by decide +kernel
theorem dX6_save_27 : decode cX6_save 27 = .ok (.bipush 84, 2) := by decide +kernel
theorem dX6_save_29 : decode cX6_save 29 = .ok (.iload_n 1, 1) := by decide +kernel
theorem dX6_save_30 : decode cX6_save 30 = .ok (.iadd, 1) := by decide +kernel
theorem dX6_save_31 : decode cX6_save 31 = .ok (.iaload, 1) := by decide +kernel
theorem dX6_save_32 : decode cX6_save 32 = .ok (.iastore, 1) := by decide +kernel
theorem dX6_save_33 : decode cX6_save 33 = .ok (.iinc 1 1, 3) := by decide +kernel
theorem dX6_save_36 : decode cX6_save 36 = .ok (.goto (-25), 3) := by decide +kernel
theorem dX6_save_39 : decode cX6_save 39 = .ok (.aload_n 0, 1) := by decide +kernel
theorem dX6_save_40 : decode cX6_save 40 = .ok (.dup, 1) := by decide +kernel
theorem dX6_save_41 : decode cX6_save 41 = .ok (.getfield 43, 3) := by decide +kernel
theorem dX6_save_44 : decode cX6_save 44 = .ok (.iconst 1, 1) := by decide +kernel
theorem dX6_save_45 : decode cX6_save 45 = .ok (.isub, 1) := by decide +kernel
theorem dX6_save_46 : decode cX6_save 46 = .ok (.putfield 43, 3) := by decide +kernel
theorem dX6_save_49 : decode cX6_save 49 = .ok (.iconst 0, 1) := by decide +kernel
theorem dX6_save_50 : decode cX6_save 50 = .ok (.istore_n 1, 1) := by decide +kernel
theorem dX6_save_51 : decode cX6_save 51 = .ok (.iload_n 1, 1) := by decide +kernel
theorem dX6_save_52 : decode cX6_save 52 = .ok (.bipush 84, 2) := by decide +kernel
theorem dX6_save_54 : decode cX6_save 54 = .ok (.if_icmp .ge 29, 3) := by decide +kernel
theorem dX6_save_57 : decode cX6_save 57 = .ok (.aload_n 0, 1) := by decide +kernel
theorem dX6_save_58 : decode cX6_save 58 = .ok (.getfield 19, 3) := by decide +kernel
theorem dX6_save_61 : decode cX6_save 61 = .ok (.bipush 84, 2) := by decide +kernel
theorem dX6_save_63 : decode cX6_save 63 = .ok (.aload_n 0, 1) := by decide +kernel
theorem dX6_save_64 : decode cX6_save 64 = .ok (.getfield 43, 3) := by decide +kernel
theorem dX6_save_67 : decode cX6_save 67 = .ok (.imul, 1) := by decide +kernel
theorem dX6_save_68 : decode cX6_save 68 = .ok (.iload_n 1, 1) := by decide +kernel
theorem dX6_save_69 : decode cX6_save 69 = .ok (.iadd, 1) := by decide +kernel
theorem dX6_save_70 : decode cX6_save 70 = .ok (.aload_n 0, 1) := by decide +kernel
theorem dX6_save_71 : decode cX6_save 71 = .ok (.getfield 7, 3) := by decide +kernel
theorem dX6_save_74 : decode cX6_save 74 = .ok (.iload_n 1, 1) := by decide +kernel
theorem dX6_save_75 : decode cX6_save 75 = .ok (.iaload, 1) := by decide +kernel
theorem dX6_save_76 : decode cX6_save 76 = .ok (.iastore, 1) := by decide +kernel
theorem dX6_save_77 : decode cX6_save 77 = .ok (.iinc 1 1, 3) := by decide +kernel
theorem dX6_save_80 : decode cX6_save 80 = .ok (.goto (-29), 3) := by decide +kernel
theorem dX6_save_83 : decode cX6_save 83 = .ok (.aload_n 0, 1) := by decide +kernel
theorem dX6_save_84 : decode cX6_save 84 = .ok (.dup, 1) := by decide +kernel
theorem dX6_save_85 : decode cX6_save 85 = .ok (.getfield 43, 3) := by decide +kernel
theorem dX6_save_88 : decode cX6_save 88 = .ok (.iconst 1, 1) := by decide +kernel
theorem dX6_save_89 : decode cX6_save 89 = .ok (.iadd, 1) := by decide +kernel
theorem dX6_save_90 : decode cX6_save 90 = .ok (.putfield 43, 3) := by decide +kernel
theorem dX6_save_93 : decode cX6_save 93 = .ok (.return_, 1) := by decide +kernel
theorem dX6_putAside_0 : decode cX6_putAside 0 = .ok (.iconst 0, 1) := by decide +kernel
theorem dX6_putAside_1 : decode cX6_putAside 1 = .ok (.istore_n 1, 1) := by decide +kernel
theorem dX6_putAside_2 : decode cX6_putAside 2 = .ok (.iload_n 1, 1) := by decide +kernel
theorem dX6_putAside_3 : decode cX6_putAside 3 = .ok (.bipush 84, 2) := by decide +kernel
theorem dX6_putAside_5 : decode cX6_putAside 5 = .ok (.if_icmp .ge 21, 3) := by decide +kernel
theorem dX6_putAside_8 : decode cX6_putAside 8 = .ok (.aload_n 0, 1) := by decide +kernel
theorem dX6_putAside_9 : decode cX6_putAside 9 = .ok (.getfield 13, 3) := by decide +kernel
theorem dX6_putAside_12 : decode cX6_putAside 12 = .ok (.iload_n 1, 1) := by decide +kernel
theorem dX6_putAside_13 : decode cX6_putAside 13 = .ok (.aload_n 0, 1) := by decide +kernel
theorem dX6_putAside_14 : decode cX6_putAside 14 = .ok (.getfield 7, 3) := by decide +kernel
theorem dX6_putAside_17 : decode cX6_putAside 17 = .ok (.iload_n 1, 1) := by decide +kernel
theorem dX6_putAside_18 : decode cX6_putAside 18 = .ok (.iaload, 1) := by decide +kernel
theorem dX6_putAside_19 : decode cX6_putAside 19 = .ok (.iastore, 1) := by decide +kernel
theorem dX6_putAside_20 : decode cX6_putAside 20 = .ok (.iinc 1 1, 3) := by decide +kernel
theorem dX6_putAside_23 : decode cX6_putAside 23 = .ok (.goto (-21), 3) := by decide +kernel
theorem dX6_putAside_26 : decode cX6_putAside 26 = .ok (.return_, 1) := by decide +kernel
theorem dX6_putBack_0 : decode cX6_putBack 0 = .ok (.iconst 0, 1) := by decide +kernel
theorem dX6_putBack_1 : decode cX6_putBack 1 = .ok (.istore_n 1, 1) := by decide +kernel
theorem dX6_putBack_2 : decode cX6_putBack 2 = .ok (.iload_n 1, 1) := by decide +kernel
theorem dX6_putBack_3 : decode cX6_putBack 3 = .ok (.bipush 84, 2) := by decide +kernel
theorem dX6_putBack_5 : decode cX6_putBack 5 = .ok (.if_icmp .ge 21, 3) := by decide +kernel
theorem dX6_putBack_8 : decode cX6_putBack 8 = .ok (.aload_n 0, 1) := by decide +kernel
theorem dX6_putBack_9 : decode cX6_putBack 9 = .ok (.getfield 7, 3) := by decide +kernel
theorem dX6_putBack_12 : decode cX6_putBack 12 = .ok (.iload_n 1, 1) := by decide +kernel
theorem dX6_putBack_13 : decode cX6_putBack 13 = .ok (.aload_n 0, 1) := by decide +kernel
theorem dX6_putBack_14 : decode cX6_putBack 14 = .ok (.getfield 13, 3) := by decide +kernel
theorem dX6_putBack_17 : decode cX6_putBack 17 = .ok (.iload_n 1, 1) := by decide +kernel
theorem dX6_putBack_18 : decode cX6_putBack 18 = .ok (.iaload, 1) := by decide +kernel
theorem dX6_putBack_19 : decode cX6_putBack 19 = .ok (.iastore, 1) := by decide +kernel
theorem dX6_putBack_20 : decode cX6_putBack 20 = .ok (.iinc 1 1, 3) := by decide +kernel
theorem dX6_putBack_23 : decode cX6_putBack 23 = .ok (.goto (-21), 3) := by decide +kernel
theorem dX6_putBack_26 : decode cX6_putBack 26 = .ok (.return_, 1) := by decide +kernel
theorem dX6_takes_0 : decode cX6_takes 0 = .ok (.aload_n 0, 1) := by decide +kernel
theorem dX6_takes_1 : decode cX6_takes 1 = .ok (.iload_n 1, 1) := by decide +kernel
theorem dX6_takes_2 : decode cX6_takes 2 = .ok (.iload_n 2, 1) := by decide +kernel
theorem dX6_takes_3 : decode cX6_takes 3 = .ok (.invokevirtual 40, 3) := by decide +kernel
theorem dX6_takes_6 : decode cX6_takes 6 = .ok (.istore 4, 2) := by decide +kernel
theorem dX6_takes_8 : decode cX6_takes 8 = .ok (.iload 4, 2) := by decide +kernel
theorem dX6_takes_10 : decode cX6_takes 10 = .ok (.ifCond .lt 29, 3) := by decide +kernel
theorem dX6_takes_13 : decode cX6_takes 13 = .ok (.iload_n 3, 1) := by decide +kernel
theorem dX6_takes_14 : decode cX6_takes 14 = .ok (.iload 4, 2) := by decide +kernel
theorem dX6_takes_16 : decode cX6_takes 16 = .ok (.if_icmp .lt 23, 3) := by decide +kernel
theorem dX6_takes_19 : decode cX6_takes 19 = .ok (.iload_n 3, 1) := by decide +kernel
theorem dX6_takes_20 : decode cX6_takes 20 = .ok (.iload 4, 2) := by decide +kernel
theorem dX6_takes_22 : decode cX6_takes 22 = .ok (.isub, 1) := by decide +kernel
theorem dX6_takes_23 : decode cX6_takes 23 = .ok (.aload_n 0, 1) := by decide +kernel
theorem dX6_takes_24 : decode cX6_takes 24 = .ok (.getfield 7, 3) := by decide +kernel
theorem dX6_takes_27 : decode cX6_takes 27 = .ok (.iconst 0, 1) := by decide +kernel
theorem dX6_takes_28 : decode cX6_takes 28 = .ok (.iload_n 2, 1) := by decide +kernel
theorem dX6_takes_29 : decode cX6_takes 29 = .ok (.iadd, 1) := by decide +kernel
theorem dX6_takes_30 : decode cX6_takes 30 = .ok (.iaload, 1) := by decide +kernel
theorem dX6_takes_31 : decode cX6_takes 31 = .ok (.irem, 1) := by decide +kernel
theorem dX6_takes_32 : decode cX6_takes 32 = .ok (.ifCond .ne 7, 3) := by decide +kernel
theorem dX6_takes_35 : decode cX6_takes 35 = .ok (.iconst 1, 1) := by decide +kernel
theorem dX6_takes_36 : decode cX6_takes 36 = .ok (.goto 4, 3) := by decide +kernel
theorem dX6_takes_39 : decode cX6_takes 39 = .ok (.iconst 0, 1) := by decide +kernel
theorem dX6_takes_40 : decode cX6_takes 40 = .ok (.ireturn, 1) := by decide +kernel
theorem dX6_hueAt_0 : decode cX6_hueAt 0 = .ok (.iconst (-1), 1) := by decide +kernel
theorem dX6_hueAt_1 : decode cX6_hueAt 1 = .ok (.istore_n 3, 1) := by decide +kernel
theorem dX6_hueAt_2 : decode cX6_hueAt 2 = .ok (.iconst 0, 1) := by decide +kernel
theorem dX6_hueAt_3 : decode cX6_hueAt 3 = .ok (.istore 4, 2) := by decide +kernel
theorem dX6_hueAt_5 : decode cX6_hueAt 5 = .ok (.iload 4, 2) := by decide +kernel
theorem dX6_hueAt_7 : decode cX6_hueAt 7 = .ok (.bipush 8, 2) := by decide +kernel
theorem dX6_hueAt_9 : decode cX6_hueAt 9 = .ok (.if_icmp .ge 27, 3) := by decide +kernel
theorem dX6_hueAt_12 : decode cX6_hueAt 12 = .ok (.aload_n 0, 1) := by decide +kernel
theorem dX6_hueAt_13 : decode cX6_hueAt 13 = .ok (.iload_n 1, 1) := by decide +kernel
theorem dX6_hueAt_14 : decode cX6_hueAt 14 = .ok (.iload 4, 2) := by decide +kernel
theorem dX6_hueAt_16 : decode cX6_hueAt 16 = .ok (.iload_n 2, 1) := by decide +kernel
theorem dX6_hueAt_17 : decode cX6_hueAt 17 = .ok (.invokevirtual 46, 3) := by decide +kernel
theorem dX6_hueAt_20 : decode cX6_hueAt 20 = .ok (.ifCond .eq 8, 3) := by decide +kernel
theorem dX6_hueAt_23 : decode cX6_hueAt 23 = .ok (.iload 4, 2) := by decide +kernel
theorem dX6_hueAt_25 : decode cX6_hueAt 25 = .ok (.goto 4, 3) := by decide +kernel
theorem dX6_hueAt_28 : decode cX6_hueAt 28 = .ok (.iload_n 3, 1) := by decide +kernel
theorem dX6_hueAt_29 : decode cX6_hueAt 29 = .ok (.istore_n 3, 1) := by decide +kernel
theorem dX6_hueAt_30 : decode cX6_hueAt 30 = .ok (.iinc 4 1, 3) := by decide +kernel
theorem dX6_hueAt_33 : decode cX6_hueAt 33 = .ok (.goto (-28), 3) := by decide +kernel
theorem dX6_hueAt_36 : decode cX6_hueAt 36 = .ok (.iload_n 3, 1) := by decide +kernel
theorem dX6_hueAt_37 : decode cX6_hueAt 37 = .ok (.ireturn, 1) := by decide +kernel
theorem dX6_takers_0 : decode cX6_takers 0 = .ok (.iconst 0, 1) := by decide +kernel
theorem dX6_takers_1 : decode cX6_takers 1 = .ok (.istore_n 3, 1) := by decide +kernel
theorem dX6_takers_2 : decode cX6_takers 2 = .ok (.iconst 0, 1) := by decide +kernel
theorem dX6_takers_3 : decode cX6_takers 3 = .ok (.istore 4, 2) := by decide +kernel
theorem dX6_takers_5 : decode cX6_takers 5 = .ok (.iload 4, 2) := by decide +kernel
theorem dX6_takers_7 : decode cX6_takers 7 = .ok (.bipush 8, 2) := by decide +kernel
theorem dX6_takers_9 : decode cX6_takers 9 = .ok (.if_icmp .ge 28, 3) := by decide +kernel
theorem dX6_takers_12 : decode cX6_takers 12 = .ok (.iload_n 3, 1) := by decide +kernel
theorem dX6_takers_13 : decode cX6_takers 13 = .ok (.aload_n 0, 1) := by decide +kernel
theorem dX6_takers_14 : decode cX6_takers 14 = .ok (.iload_n 1, 1) := by decide +kernel
theorem dX6_takers_15 : decode cX6_takers 15 = .ok (.iload 4, 2) := by decide +kernel
theorem dX6_takers_17 : decode cX6_takers 17 = .ok (.iload_n 2, 1) := by decide +kernel
theorem dX6_takers_18 : decode cX6_takers 18 = .ok (.invokevirtual 46, 3) := by decide +kernel
theorem dX6_takers_21 : decode cX6_takers 21 = .ok (.ifCond .eq 7, 3) := by decide +kernel
theorem dX6_takers_24 : decode cX6_takers 24 = .ok (.iconst 1, 1) := by decide +kernel
theorem dX6_takers_25 : decode cX6_takers 25 = .ok (.goto 4, 3) := by decide +kernel
theorem dX6_takers_28 : decode cX6_takers 28 = .ok (.iconst 0, 1) := by decide +kernel
theorem dX6_takers_29 : decode cX6_takers 29 = .ok (.iadd, 1) := by decide +kernel
theorem dX6_takers_30 : decode cX6_takers 30 = .ok (.istore_n 3, 1) := by decide +kernel
theorem dX6_takers_31 : decode cX6_takers 31 = .ok (.iinc 4 1, 3) := by decide +kernel
theorem dX6_takers_34 : decode cX6_takers 34 = .ok (.goto (-29), 3) := by decide +kernel
theorem dX6_takers_37 : decode cX6_takers 37 = .ok (.iload_n 3, 1) := by decide +kernel
theorem dX6_takers_38 : decode cX6_takers 38 = .ok (.ireturn, 1) := by decide +kernel
theorem dX6_clash_0 : decode cX6_clash 0 = .ok (.iconst 0, 1) := by decide +kernel
theorem dX6_clash_1 : decode cX6_clash 1 = .ok (.istore_n 2, 1) := by decide +kernel
theorem dX6_clash_2 : decode cX6_clash 2 = .ok (.iload_n 2, 1) := by decide +kernel
theorem dX6_clash_3 : decode cX6_clash 3 = .ok (.bipush 60, 2) := by decide +kernel
theorem dX6_clash_5 : decode cX6_clash 5 = .ok (.if_icmp .ge 19, 3) := by decide +kernel
theorem dX6_clash_8 : decode cX6_clash 8 = .ok (.aload_n 0, 1) := by decide +kernel
theorem dX6_clash_9 : decode cX6_clash 9 = .ok (.iload_n 1, 1) := by decide +kernel
theorem dX6_clash_10 : decode cX6_clash 10 = .ok (.iload_n 2, 1) := by decide +kernel
theorem dX6_clash_11 : decode cX6_clash 11 = .ok (.invokevirtual 49, 3) := by decide +kernel
theorem dX6_clash_14 : decode cX6_clash 14 = .ok (.iconst 2, 1) := by decide +kernel
theorem dX6_clash_15 : decode cX6_clash 15 = .ok (.if_icmp .ge 9, 3) := by decide +kernel
theorem dX6_clash_18 : decode cX6_clash 18 = .ok (.iinc 2 1, 3) := by decide +kernel
theorem dX6_clash_21 : decode cX6_clash 21 = .ok (.goto (-19), 3) := by decide +kernel
theorem dX6_clash_24 : decode cX6_clash 24 = .ok (.iload_n 2, 1) := by decide +kernel
theorem dX6_clash_25 : decode cX6_clash 25 = .ok (.ireturn, 1) := by decide +kernel
theorem dX6_placesOf_0 : decode cX6_placesOf 0 = .ok (.iconst 0, 1) := by decide +kernel
theorem dX6_placesOf_1 : decode cX6_placesOf 1 = .ok (.istore_n 3, 1) := by decide +kernel
theorem dX6_placesOf_2 : decode cX6_placesOf 2 = .ok (.iconst 0, 1) := by decide +kernel
theorem dX6_placesOf_3 : decode cX6_placesOf 3 = .ok (.istore 4, 2) := by decide +kernel
theorem dX6_placesOf_5 : decode cX6_placesOf 5 = .ok (.iload 4, 2) := by decide +kernel
theorem dX6_placesOf_7 : decode cX6_placesOf 7 = .ok (.aload_n 0, 1) := by decide +kernel
theorem dX6_placesOf_8 : decode cX6_placesOf 8 = .ok (.getfield 7, 3) := by decide +kernel
theorem dX6_placesOf_11 : decode cX6_placesOf 11 = .ok (.iload_n 1, 1) := by decide +kernel
theorem dX6_placesOf_12 : decode cX6_placesOf 12 = .ok (.iconst 0, 1) := by decide +kernel
theorem dX6_placesOf_13 : decode cX6_placesOf 13 = .ok (.invokestatic 36, 3) := by decide +kernel
theorem dX6_placesOf_16 : decode cX6_placesOf 16 = .ok (.iaload, 1) := by decide +kernel
theorem dX6_placesOf_17 : decode cX6_placesOf 17 = .ok (.if_icmp .ge 28, 3) := by decide +kernel
theorem dX6_placesOf_20 : decode cX6_placesOf 20 = .ok (.iload_n 3, 1) := by decide +kernel
theorem dX6_placesOf_21 : decode cX6_placesOf 21 = .ok (.aload_n 0, 1) := by decide +kernel
theorem dX6_placesOf_22 : decode cX6_placesOf 22 = .ok (.iload_n 1, 1) := by decide +kernel
theorem dX6_placesOf_23 : decode cX6_placesOf 23 = .ok (.iload_n 2, 1) := by decide +kernel
theorem dX6_placesOf_24 : decode cX6_placesOf 24 = .ok (.iload 4, 2) := by decide +kernel
theorem dX6_placesOf_26 : decode cX6_placesOf 26 = .ok (.invokevirtual 46, 3) := by decide +kernel
theorem dX6_placesOf_29 : decode cX6_placesOf 29 = .ok (.ifCond .eq 7, 3) := by decide +kernel
theorem dX6_placesOf_32 : decode cX6_placesOf 32 = .ok (.iconst 1, 1) := by decide +kernel
theorem dX6_placesOf_33 : decode cX6_placesOf 33 = .ok (.goto 4, 3) := by decide +kernel
theorem dX6_placesOf_36 : decode cX6_placesOf 36 = .ok (.iconst 0, 1) := by decide +kernel
theorem dX6_placesOf_37 : decode cX6_placesOf 37 = .ok (.iadd, 1) := by decide +kernel
theorem dX6_placesOf_38 : decode cX6_placesOf 38 = .ok (.istore_n 3, 1) := by decide +kernel
theorem dX6_placesOf_39 : decode cX6_placesOf 39 = .ok (.iinc 4 1, 3) := by decide +kernel
theorem dX6_placesOf_42 : decode cX6_placesOf 42 = .ok (.goto (-37), 3) := by decide +kernel
theorem dX6_placesOf_45 : decode cX6_placesOf 45 = .ok (.iload_n 3, 1) := by decide +kernel
theorem dX6_placesOf_46 : decode cX6_placesOf 46 = .ok (.ireturn, 1) := by decide +kernel
theorem dX6_lastOf_0 : decode cX6_lastOf 0 = .ok (.iconst (-1), 1) := by decide +kernel
theorem dX6_lastOf_1 : decode cX6_lastOf 1 = .ok (.istore_n 3, 1) := by decide +kernel
theorem dX6_lastOf_2 : decode cX6_lastOf 2 = .ok (.iconst 0, 1) := by decide +kernel
theorem dX6_lastOf_3 : decode cX6_lastOf 3 = .ok (.istore 4, 2) := by decide +kernel
theorem dX6_lastOf_5 : decode cX6_lastOf 5 = .ok (.iload 4, 2) := by decide +kernel
theorem dX6_lastOf_7 : decode cX6_lastOf 7 = .ok (.aload_n 0, 1) := by decide +kernel
theorem dX6_lastOf_8 : decode cX6_lastOf 8 = .ok (.getfield 7, 3) := by decide +kernel
theorem dX6_lastOf_11 : decode cX6_lastOf 11 = .ok (.iload_n 1, 1) := by decide +kernel
theorem dX6_lastOf_12 : decode cX6_lastOf 12 = .ok (.iconst 0, 1) := by decide +kernel
theorem dX6_lastOf_13 : decode cX6_lastOf 13 = .ok (.invokestatic 36, 3) := by decide +kernel
theorem dX6_lastOf_16 : decode cX6_lastOf 16 = .ok (.iaload, 1) := by decide +kernel
theorem dX6_lastOf_17 : decode cX6_lastOf 17 = .ok (.if_icmp .ge 27, 3) := by decide +kernel
theorem dX6_lastOf_20 : decode cX6_lastOf 20 = .ok (.aload_n 0, 1) := by decide +kernel
theorem dX6_lastOf_21 : decode cX6_lastOf 21 = .ok (.iload_n 1, 1) := by decide +kernel
theorem dX6_lastOf_22 : decode cX6_lastOf 22 = .ok (.iload_n 2, 1) := by decide +kernel
theorem dX6_lastOf_23 : decode cX6_lastOf 23 = .ok (.iload 4, 2) := by decide +kernel
theorem dX6_lastOf_25 : decode cX6_lastOf 25 = .ok (.invokevirtual 46, 3) := by decide +kernel
theorem dX6_lastOf_28 : decode cX6_lastOf 28 = .ok (.ifCond .eq 8, 3) := by decide +kernel
theorem dX6_lastOf_31 : decode cX6_lastOf 31 = .ok (.iload 4, 2) := by decide +kernel
theorem dX6_lastOf_33 : decode cX6_lastOf 33 = .ok (.goto 4, 3) := by decide +kernel
theorem dX6_lastOf_36 : decode cX6_lastOf 36 = .ok (.iload_n 3, 1) := by decide +kernel
theorem dX6_lastOf_37 : decode cX6_lastOf 37 = .ok (.istore_n 3, 1) := by decide +kernel
theorem dX6_lastOf_38 : decode cX6_lastOf 38 = .ok (.iinc 4 1, 3) := by decide +kernel
theorem dX6_lastOf_41 : decode cX6_lastOf 41 = .ok (.goto (-36), 3) := by decide +kernel
theorem dX6_lastOf_44 : decode cX6_lastOf 44 = .ok (.iload_n 3, 1) := by decide +kernel
theorem dX6_lastOf_45 : decode cX6_lastOf 45 = .ok (.ireturn, 1) := by decide +kernel
theorem dX6_clears_0 : decode cX6_clears 0 = .ok (.aload_n 0, 1) := by decide +kernel
theorem dX6_clears_1 : decode cX6_clears 1 = .ok (.getfield 7, 3) := by decide +kernel
theorem dX6_clears_4 : decode cX6_clears 4 = .ok (.iload_n 1, 1) := by decide +kernel
theorem dX6_clears_5 : decode cX6_clears 5 = .ok (.iconst 0, 1) := by decide +kernel
theorem dX6_clears_6 : decode cX6_clears 6 = .ok (.invokestatic 36, 3) := by decide +kernel
theorem dX6_clears_9 : decode cX6_clears 9 = .ok (.iload_n 2, 1) := by decide +kernel
theorem dX6_clears_10 : decode cX6_clears 10 = .ok (.iastore, 1) := by decide +kernel
theorem dX6_clears_11 : decode cX6_clears 11 = .ok (.aload_n 0, 1) := by decide +kernel
theorem dX6_clears_12 : decode cX6_clears 12 = .ok (.getfield 7, 3) := by decide +kernel
theorem dX6_clears_15 : decode cX6_clears 15 = .ok (.iload_n 1, 1) := by decide +kernel
theorem dX6_clears_16 : decode cX6_clears 16 = .ok (.iconst 1, 1) := by decide +kernel
theorem dX6_clears_17 : decode cX6_clears 17 = .ok (.invokestatic 36, 3) := by decide +kernel
theorem dX6_clears_20 : decode cX6_clears 20 = .ok (.iconst 0, 1) := by decide +kernel
theorem dX6_clears_21 : decode cX6_clears 21 = .ok (.iastore, 1) := by decide +kernel
theorem dX6_clears_22 : decode cX6_clears 22 = .ok (.iconst 0, 1) := by decide +kernel
theorem dX6_clears_23 : decode cX6_clears 23 = .ok (.istore_n 3, 1) := by decide +kernel
theorem dX6_clears_24 : decode cX6_clears 24 = .ok (.iload_n 3, 1) := by decide +kernel
theorem dX6_clears_25 : decode cX6_clears 25 = .ok (.bipush 8, 2) := by decide +kernel
theorem dX6_clears_27 : decode cX6_clears 27 = .ok (.if_icmp .ge 36, 3) := by decide +kernel
theorem dX6_clears_30 : decode cX6_clears 30 = .ok (.aload_n 0, 1) := by decide +kernel
theorem dX6_clears_31 : decode cX6_clears 31 = .ok (.getfield 7, 3) := by decide +kernel
theorem dX6_clears_34 : decode cX6_clears 34 = .ok (.iload_n 1, 1) := by decide +kernel
theorem dX6_clears_35 : decode cX6_clears 35 = .ok (.iconst 2, 1) := by decide +kernel
theorem dX6_clears_36 : decode cX6_clears 36 = .ok (.iload_n 3, 1) := by decide +kernel
theorem dX6_clears_37 : decode cX6_clears 37 = .ok (.iadd, 1) := by decide +kernel
theorem dX6_clears_38 : decode cX6_clears 38 = .ok (.invokestatic 36, 3) := by decide +kernel
theorem dX6_clears_41 : decode cX6_clears 41 = .ok (.iconst 0, 1) := by decide +kernel
theorem dX6_clears_42 : decode cX6_clears 42 = .ok (.iastore, 1) := by decide +kernel
theorem dX6_clears_43 : decode cX6_clears 43 = .ok (.aload_n 0, 1) := by decide +kernel
theorem dX6_clears_44 : decode cX6_clears 44 = .ok (.getfield 7, 3) := by decide +kernel
theorem dX6_clears_47 : decode cX6_clears 47 = .ok (.iload_n 1, 1) := by decide +kernel
theorem dX6_clears_48 : decode cX6_clears 48 = .ok (.bipush 10, 2) := by decide +kernel
theorem dX6_clears_50 : decode cX6_clears 50 = .ok (.iload_n 3, 1) := by decide +kernel
theorem dX6_clears_51 : decode cX6_clears 51 = .ok (.iadd, 1) := by decide +kernel
theorem dX6_clears_52 : decode cX6_clears 52 = .ok (.invokestatic 36, 3) := by decide +kernel
theorem dX6_clears_55 : decode cX6_clears 55 = .ok (.iconst (-1), 1) := by decide +kernel
theorem dX6_clears_56 : decode cX6_clears 56 = .ok (.iastore, 1) := by decide +kernel
theorem dX6_clears_57 : decode cX6_clears 57 = .ok (.iinc 3 1, 3) := by decide +kernel
theorem dX6_clears_60 : decode cX6_clears 60 = .ok (.goto (-36), 3) := by decide +kernel
theorem dX6_clears_63 : decode cX6_clears 63 = .ok (.return_, 1) := by decide +kernel
theorem dX6_lays_0 : decode cX6_lays 0 = .ok (.aload_n 0, 1) := by decide +kernel
theorem dX6_lays_1 : decode cX6_lays 1 = .ok (.getfield 7, 3) := by decide +kernel
theorem dX6_lays_4 : decode cX6_lays 4 = .ok (.iload_n 1, 1) := by decide +kernel
theorem dX6_lays_5 : decode cX6_lays 5 = .ok (.iconst 2, 1) := by decide +kernel
theorem dX6_lays_6 : decode cX6_lays 6 = .ok (.aload_n 0, 1) := by decide +kernel
theorem dX6_lays_7 : decode cX6_lays 7 = .ok (.getfield 7, 3) := by decide +kernel
theorem dX6_lays_10 : decode cX6_lays 10 = .ok (.iload_n 1, 1) := by decide +kernel
theorem dX6_lays_11 : decode cX6_lays 11 = .ok (.iconst 1, 1) := by decide +kernel
theorem dX6_lays_12 : decode cX6_lays 12 = .ok (.invokestatic 36, 3) := by decide +kernel
theorem dX6_lays_15 : decode cX6_lays 15 = .ok (.iaload, 1) := by decide +kernel
theorem dX6_lays_16 : decode cX6_lays 16 = .ok (.iadd, 1) := by decide +kernel
theorem dX6_lays_17 : decode cX6_lays 17 = .ok (.invokestatic 36, 3) := by decide +kernel
theorem dX6_lays_20 : decode cX6_lays 20 = .ok (.iload_n 2, 1) := by decide +kernel
theorem dX6_lays_21 : decode cX6_lays 21 = .ok (.iastore, 1) := by decide +kernel
theorem dX6_lays_22 : decode cX6_lays 22 = .ok (.aload_n 0, 1) := by decide +kernel
theorem dX6_lays_23 : decode cX6_lays 23 = .ok (.getfield 7, 3) := by decide +kernel
theorem dX6_lays_26 : decode cX6_lays 26 = .ok (.iload_n 1, 1) := by decide +kernel
theorem dX6_lays_27 : decode cX6_lays 27 = .ok (.iconst 1, 1) := by decide +kernel
theorem dX6_lays_28 : decode cX6_lays 28 = .ok (.invokestatic 36, 3) := by decide +kernel
theorem dX6_lays_31 : decode cX6_lays 31 = .ok (.dup2, 1) := by decide +kernel
theorem dX6_lays_32 : decode cX6_lays 32 = .ok (.iaload, 1) := by decide +kernel
theorem dX6_lays_33 : decode cX6_lays 33 = .ok (.iconst 1, 1) := by decide +kernel
theorem dX6_lays_34 : decode cX6_lays 34 = .ok (.iadd, 1) := by decide +kernel
theorem dX6_lays_35 : decode cX6_lays 35 = .ok (.iastore, 1) := by decide +kernel
theorem dX6_lays_36 : decode cX6_lays 36 = .ok (.aload_n 0, 1) := by decide +kernel
theorem dX6_lays_37 : decode cX6_lays 37 = .ok (.getfield 7, 3) := by decide +kernel
theorem dX6_lays_40 : decode cX6_lays 40 = .ok (.iload_n 1, 1) := by decide +kernel
theorem dX6_lays_41 : decode cX6_lays 41 = .ok (.bipush 10, 2) := by decide +kernel
theorem dX6_lays_43 : decode cX6_lays 43 = .ok (.iload_n 2, 1) := by decide +kernel
theorem dX6_lays_44 : decode cX6_lays 44 = .ok (.iadd, 1) := by decide +kernel
theorem dX6_lays_45 : decode cX6_lays 45 = .ok (.invokestatic 36, 3) := by decide +kernel
theorem dX6_lays_48 : decode cX6_lays 48 = .ok (.iload_n 3, 1) := by decide +kernel
theorem dX6_lays_49 : decode cX6_lays 49 = .ok (.iastore, 1) := by decide +kernel
theorem dX6_lays_50 : decode cX6_lays 50 = .ok (.return_, 1) := by decide +kernel
theorem dX6_remembers_0 : decode cX6_remembers 0 = .ok (.iconst 0, 1) := by decide +kernel
theorem dX6_remembers_1 : decode cX6_remembers 1 = .ok (.istore_n 2, 1) := by decide +kernel
theorem dX6_remembers_2 : decode cX6_remembers 2 = .ok (.iload_n 2, 1) := by decide +kernel
theorem dX6_remembers_3 : decode cX6_remembers 3 = .ok (.bipush 18, 2) := by decide +kernel
theorem dX6_remembers_5 : decode cX6_remembers 5 = .ok (.if_icmp .ge 25, 3) := by decide +kernel
theorem dX6_remembers_8 : decode cX6_remembers 8 = .ok (.aload_n 0, 1) := by decide +kernel
theorem dX6_remembers_9 : decode cX6_remembers 9 = .ok (.getfield 25, 3) := by decide +kernel
theorem dX6_remembers_12 : decode cX6_remembers 12 = .ok (.iload_n 2, 1) := by decide +kernel
theorem dX6_remembers_13 : decode cX6_remembers 13 = .ok (.aload_n 0, 1) := by decide +kernel
theorem dX6_remembers_14 : decode cX6_remembers 14 = .ok (.getfield 7, 3) := by decide +kernel
theorem dX6_remembers_17 : decode cX6_remembers 17 = .ok (.iload_n 1, 1) := by decide +kernel
theorem dX6_remembers_18 : decode cX6_remembers 18 = .ok (.iload_n 2, 1) := by decide +kernel
theorem dX6_remembers_19 : decode cX6_remembers 19 = .ok (.invokestatic 36, 3) := by decide +kernel
theorem dX6_remembers_22 : decode cX6_remembers 22 = .ok (.iaload, 1) := by decide +kernel
theorem dX6_remembers_23 : decode cX6_remembers 23 = .ok (.iastore, 1) := by decide +kernel
theorem dX6_remembers_24 : decode cX6_remembers 24 = .ok (.iinc 2 1, 3) := by decide +kernel
theorem dX6_remembers_27 : decode cX6_remembers 27 = .ok (.goto (-25), 3) := by decide +kernel
theorem dX6_remembers_30 : decode cX6_remembers 30 = .ok (.return_, 1) := by decide +kernel
theorem dX6_laysFrom_0 : decode cX6_laysFrom 0 = .ok (.iconst 0, 1) := by decide +kernel
theorem dX6_laysFrom_1 : decode cX6_laysFrom 1 = .ok (.istore_n 3, 1) := by decide +kernel
theorem dX6_laysFrom_2 : decode cX6_laysFrom 2 = .ok (.iload_n 3, 1) := by decide +kernel
theorem dX6_laysFrom_3 : decode cX6_laysFrom 3 = .ok (.aload_n 0, 1) := by decide +kernel
theorem dX6_laysFrom_4 : decode cX6_laysFrom 4 = .ok (.getfield 25, 3) := by decide +kernel
theorem dX6_laysFrom_7 : decode cX6_laysFrom 7 = .ok (.iconst 1, 1) := by decide +kernel
theorem dX6_laysFrom_8 : decode cX6_laysFrom 8 = .ok (.iaload, 1) := by decide +kernel
theorem dX6_laysFrom_9 : decode cX6_laysFrom 9 = .ok (.if_icmp .ge 79, 3) := by decide +kernel
theorem dX6_laysFrom_12 : decode cX6_laysFrom 12 = .ok (.aload_n 0, 1) := by decide +kernel
theorem dX6_laysFrom_13 : decode cX6_laysFrom 13 = .ok (.getfield 25, 3) := by decide +kernel
theorem dX6_laysFrom_16 : decode cX6_laysFrom 16 = .ok (.iconst 2, 1) := by decide +kernel
theorem dX6_laysFrom_17 : decode cX6_laysFrom 17 = .ok (.iload_n 3, 1) := by decide +kernel
theorem dX6_laysFrom_18 : decode cX6_laysFrom 18 = .ok (.iadd, 1) := by decide +kernel
theorem dX6_laysFrom_19 : decode cX6_laysFrom 19 = .ok (.iaload, 1) := by decide +kernel
theorem dX6_laysFrom_20 : decode cX6_laysFrom 20 = .ok (.istore 4, 2) := by decide +kernel
theorem dX6_laysFrom_22 : decode cX6_laysFrom 22 = .ok (.aload_n 0, 1) := by decide +kernel
theorem dX6_laysFrom_23 : decode cX6_laysFrom 23 = .ok (.getfield 25, 3) := by decide +kernel
theorem dX6_laysFrom_26 : decode cX6_laysFrom 26 = .ok (.bipush 10, 2) := by decide +kernel
theorem dX6_laysFrom_28 : decode cX6_laysFrom 28 = .ok (.iload 4, 2) := by decide +kernel
theorem dX6_laysFrom_30 : decode cX6_laysFrom 30 = .ok (.iadd, 1) := by decide +kernel
theorem dX6_laysFrom_31 : decode cX6_laysFrom 31 = .ok (.iaload, 1) := by decide +kernel
theorem dX6_laysFrom_32 : decode cX6_laysFrom 32 = .ok (.iload_n 2, 1) := by decide +kernel
theorem dX6_laysFrom_33 : decode cX6_laysFrom 33 = .ok (.isub, 1) := by decide +kernel
theorem dX6_laysFrom_34 : decode cX6_laysFrom 34 = .ok (.istore 5, 2) := by decide +kernel
theorem dX6_laysFrom_36 : decode cX6_laysFrom 36 = .ok (.iload 5, 2) := by decide +kernel
theorem dX6_laysFrom_38 : decode cX6_laysFrom 38 = .ok (.ifCond .ge 20, 3) := by decide +kernel
theorem dX6_laysFrom_41 : decode cX6_laysFrom 41 = .ok (.iload 5, 2) := by decide +kernel
theorem dX6_laysFrom_43 : decode cX6_laysFrom 43 = .ok (.aload_n 0, 1) := by decide +kernel
theorem dX6_laysFrom_44 : decode cX6_laysFrom 44 = .ok (.getfield 7, 3) := by decide +kernel
theorem dX6_laysFrom_47 : decode cX6_laysFrom 47 = .ok (.iconst 0, 1) := by decide +kernel
theorem dX6_laysFrom_48 : decode cX6_laysFrom 48 = .ok (.iload 4, 2) := by decide +kernel
theorem dX6_laysFrom_50 : decode cX6_laysFrom 50 = .ok (.iadd, 1) := by decide +kernel
theorem dX6_laysFrom_51 : decode cX6_laysFrom 51 = .ok (.iaload, 1) := by decide +kernel
theorem dX6_laysFrom_52 : decode cX6_laysFrom 52 = .ok (.iadd, 1) := by decide +kernel
theorem dX6_laysFrom_53 : decode cX6_laysFrom 53 = .ok (.istore 5, 2) := by decide +kernel
theorem dX6_laysFrom_55 : decode cX6_laysFrom 55 = .ok (.goto (-19), 3) := by decide +kernel
theorem dX6_laysFrom_58 : decode cX6_laysFrom 58 = .ok (.iload 5, 2) := by decide +kernel
theorem dX6_laysFrom_60 : decode cX6_laysFrom 60 = .ok (.aload_n 0, 1) := by decide +kernel
theorem dX6_laysFrom_61 : decode cX6_laysFrom 61 = .ok (.getfield 7, 3) := by decide +kernel
theorem dX6_laysFrom_64 : decode cX6_laysFrom 64 = .ok (.iload_n 1, 1) := by decide +kernel
theorem dX6_laysFrom_65 : decode cX6_laysFrom 65 = .ok (.iconst 0, 1) := by decide +kernel
theorem dX6_laysFrom_66 : decode cX6_laysFrom 66 = .ok (.invokestatic 36, 3) := by decide +kernel
theorem dX6_laysFrom_69 : decode cX6_laysFrom 69 = .ok (.iaload, 1) := by decide +kernel
theorem dX6_laysFrom_70 : decode cX6_laysFrom 70 = .ok (.if_icmp .ge 12, 3) := by decide +kernel
theorem dX6_laysFrom_73 : decode cX6_laysFrom 73 = .ok (.aload_n 0, 1) := by decide +kernel
theorem dX6_laysFrom_74 : decode cX6_laysFrom 74 = .ok (.iload_n 1, 1) := by decide +kernel
theorem dX6_laysFrom_75 : decode cX6_laysFrom 75 = .ok (.iload 4, 2) := by decide +kernel
theorem dX6_laysFrom_77 : decode cX6_laysFrom 77 = .ok (.iload 5, 2) := by decide +kernel
theorem dX6_laysFrom_79 : decode cX6_laysFrom 79 = .ok (.invokevirtual 52, 3) := by decide +kernel
theorem dX6_laysFrom_82 : decode cX6_laysFrom 82 = .ok (.iinc 3 1, 3) := by decide +kernel
theorem dX6_laysFrom_85 : decode cX6_laysFrom 85 = .ok (.goto (-83), 3) := by decide +kernel
theorem dX6_laysFrom_88 : decode cX6_laysFrom 88 = .ok (.return_, 1) := by decide +kernel
theorem dX6_drops_0 : decode cX6_drops 0 = .ok (.aload_n 0, 1) := by decide +kernel
theorem dX6_drops_1 : decode cX6_drops 1 = .ok (.getfield 7, 3) := by decide +kernel
theorem dX6_drops_4 : decode cX6_drops 4 = .ok (.bipush 8, 2) := by decide +kernel
theorem dX6_drops_6 : decode cX6_drops 6 = .ok (.dup2, 1) := by decide +kernel
theorem dX6_drops_7 : decode cX6_drops 7 = .ok (.iaload, 1) := by decide +kernel
theorem dX6_drops_8 : decode cX6_drops 8 = .ok (.iconst 1, 1) := by decide +kernel
theorem dX6_drops_9 : decode cX6_drops 9 = .ok (.isub, 1) := by decide +kernel
theorem dX6_drops_10 : decode cX6_drops 10 = .ok (.iastore, 1) := by decide +kernel
theorem dX6_drops_11 : decode cX6_drops 11 = .ok (.iload_n 1, 1) := by decide +kernel
theorem dX6_drops_12 : decode cX6_drops 12 = .ok (.iconst 0, 1) := by decide +kernel
theorem dX6_drops_13 : decode cX6_drops 13 = .ok (.invokestatic 36, 3) := by decide +kernel
theorem dX6_drops_16 : decode cX6_drops 16 = .ok (.istore_n 2, 1) := by decide +kernel
theorem dX6_drops_17 : decode cX6_drops 17 = .ok (.iload_n 2, 1) := by decide +kernel
theorem dX6_drops_18 : decode cX6_drops 18 = .ok (.aload_n 0, 1) := by decide +kernel
theorem dX6_drops_19 : decode cX6_drops 19 = .ok (.getfield 7, 3) := by decide +kernel
theorem dX6_drops_22 : decode cX6_drops 22 = .ok (.bipush 8, 2) := by decide +kernel
theorem dX6_drops_24 : decode cX6_drops 24 = .ok (.iaload, 1) := by decide +kernel
theorem dX6_drops_25 : decode cX6_drops 25 = .ok (.iconst 0, 1) := by decide +kernel
theorem dX6_drops_26 : decode cX6_drops 26 = .ok (.invokestatic 36, 3) := by decide +kernel
theorem dX6_drops_29 : decode cX6_drops 29 = .ok (.if_icmp .ge 24, 3) := by decide +kernel
theorem dX6_drops_32 : decode cX6_drops 32 = .ok (.aload_n 0, 1) := by decide +kernel
theorem dX6_drops_33 : decode cX6_drops 33 = .ok (.getfield 7, 3) := by decide +kernel
theorem dX6_drops_36 : decode cX6_drops 36 = .ok (.iload_n 2, 1) := by decide +kernel
theorem dX6_drops_37 : decode cX6_drops 37 = .ok (.aload_n 0, 1) := by decide +kernel
theorem dX6_drops_38 : decode cX6_drops 38 = .ok (.getfield 7, 3) := by decide +kernel
theorem dX6_drops_41 : decode cX6_drops 41 = .ok (.iload_n 2, 1) := by decide +kernel
theorem dX6_drops_42 : decode cX6_drops 42 = .ok (.bipush 18, 2) := by decide +kernel
theorem dX6_drops_44 : decode cX6_drops 44 = .ok (.iadd, 1) := by decide +kernel
theorem dX6_drops_45 : decode cX6_drops 45 = .ok (.iaload, 1) := by decide +kernel
theorem dX6_drops_46 : decode cX6_drops 46 = .ok (.iastore, 1) := by decide +kernel
theorem dX6_drops_47 : decode cX6_drops 47 = .ok (.iinc 2 1, 3) := by decide +kernel
theorem dX6_drops_50 : decode cX6_drops 50 = .ok (.goto (-33), 3) := by decide +kernel
theorem dX6_drops_53 : decode cX6_drops 53 = .ok (.iconst 0, 1) := by decide +kernel
theorem dX6_drops_54 : decode cX6_drops 54 = .ok (.istore_n 2, 1) := by decide +kernel
theorem dX6_drops_55 : decode cX6_drops 55 = .ok (.iload_n 2, 1) := by decide +kernel
theorem dX6_drops_56 : decode cX6_drops 56 = .ok (.bipush 18, 2) := by decide +kernel
theorem dX6_drops_58 : decode cX6_drops 58 = .ok (.if_icmp .ge 26, 3) := by decide +kernel
theorem dX6_drops_61 : decode cX6_drops 61 = .ok (.aload_n 0, 1) := by decide +kernel
theorem dX6_drops_62 : decode cX6_drops 62 = .ok (.getfield 7, 3) := by decide +kernel
theorem dX6_drops_65 : decode cX6_drops 65 = .ok (.aload_n 0, 1) := by decide +kernel
theorem dX6_drops_66 : decode cX6_drops 66 = .ok (.getfield 7, 3) := by decide +kernel
theorem dX6_drops_69 : decode cX6_drops 69 = .ok (.bipush 8, 2) := by decide +kernel
theorem dX6_drops_71 : decode cX6_drops 71 = .ok (.iaload, 1) := by decide +kernel
theorem dX6_drops_72 : decode cX6_drops 72 = .ok (.iload_n 2, 1) := by decide +kernel
theorem dX6_drops_73 : decode cX6_drops 73 = .ok (.invokestatic 36, 3) := by decide +kernel
theorem dX6_drops_76 : decode cX6_drops 76 = .ok (.iconst 0, 1) := by decide +kernel
theorem dX6_drops_77 : decode cX6_drops 77 = .ok (.iastore, 1) := by decide +kernel
theorem dX6_drops_78 : decode cX6_drops 78 = .ok (.iinc 2 1, 3) := by decide +kernel
theorem dX6_drops_81 : decode cX6_drops 81 = .ok (.goto (-26), 3) := by decide +kernel
theorem dX6_drops_84 : decode cX6_drops 84 = .ok (.return_, 1) := by decide +kernel
theorem dX6_turns_0 : decode cX6_turns 0 = .ok (.aload_n 0, 1) := by decide +kernel
theorem dX6_turns_1 : decode cX6_turns 1 = .ok (.iload_n 1, 1) := by decide +kernel
theorem dX6_turns_2 : decode cX6_turns 2 = .ok (.invokevirtual 56, 3) := by decide +kernel
theorem dX6_turns_5 : decode cX6_turns 5 = .ok (.iconst 0, 1) := by decide +kernel
theorem dX6_turns_6 : decode cX6_turns 6 = .ok (.istore_n 2, 1) := by decide +kernel
theorem dX6_turns_7 : decode cX6_turns 7 = .ok (.iload_n 2, 1) := by decide +kernel
theorem dX6_turns_8 : decode cX6_turns 8 = .ok (.aload_n 0, 1) := by decide +kernel
theorem dX6_turns_9 : decode cX6_turns 9 = .ok (.getfield 25, 3) := by decide +kernel
theorem dX6_turns_12 : decode cX6_turns 12 = .ok (.iconst 1, 1) := by decide +kernel
theorem dX6_turns_13 : decode cX6_turns 13 = .ok (.iaload, 1) := by decide +kernel
theorem dX6_turns_14 : decode cX6_turns 14 = .ok (.if_icmp .ge 46, 3) := by decide +kernel
theorem dX6_turns_17 : decode cX6_turns 17 = .ok (.aload_n 0, 1) := by decide +kernel
theorem dX6_turns_18 : decode cX6_turns 18 = .ok (.getfield 25, 3) := by decide +kernel
theorem dX6_turns_21 : decode cX6_turns 21 = .ok (.iconst 2, 1) := by decide +kernel
theorem dX6_turns_22 : decode cX6_turns 22 = .ok (.iload_n 2, 1) := by decide +kernel
theorem dX6_turns_23 : decode cX6_turns 23 = .ok (.iadd, 1) := by decide +kernel
theorem dX6_turns_24 : decode cX6_turns 24 = .ok (.iaload, 1) := by decide +kernel
theorem dX6_turns_25 : decode cX6_turns 25 = .ok (.istore_n 3, 1) := by decide +kernel
theorem dX6_turns_26 : decode cX6_turns 26 = .ok (.aload_n 0, 1) := by decide +kernel
theorem dX6_turns_27 : decode cX6_turns 27 = .ok (.getfield 7, 3) := by decide +kernel
theorem dX6_turns_30 : decode cX6_turns 30 = .ok (.iload_n 1, 1) := by decide +kernel
theorem dX6_turns_31 : decode cX6_turns 31 = .ok (.bipush 10, 2) := by decide +kernel
theorem dX6_turns_33 : decode cX6_turns 33 = .ok (.iload_n 3, 1) := by decide +kernel
theorem dX6_turns_34 : decode cX6_turns 34 = .ok (.iadd, 1) := by decide +kernel
theorem dX6_turns_35 : decode cX6_turns 35 = .ok (.invokestatic 36, 3) := by decide +kernel
theorem dX6_turns_38 : decode cX6_turns 38 = .ok (.aload_n 0, 1) := by decide +kernel
theorem dX6_turns_39 : decode cX6_turns 39 = .ok (.getfield 25, 3) := by decide +kernel
theorem dX6_turns_42 : decode cX6_turns 42 = .ok (.iconst 0, 1) := by decide +kernel
theorem dX6_turns_43 : decode cX6_turns 43 = .ok (.iaload, 1) := by decide +kernel
theorem dX6_turns_44 : decode cX6_turns 44 = .ok (.iconst 1, 1) := by decide +kernel
theorem dX6_turns_45 : decode cX6_turns 45 = .ok (.isub, 1) := by decide +kernel
theorem dX6_turns_46 : decode cX6_turns 46 = .ok (.aload_n 0, 1) := by decide +kernel
theorem dX6_turns_47 : decode cX6_turns 47 = .ok (.iload_n 1, 1) := by decide +kernel
theorem dX6_turns_48 : decode cX6_turns 48 = .ok (.iload_n 3, 1) := by decide +kernel
theorem dX6_turns_49 : decode cX6_turns 49 = .ok (.invokevirtual 60, 3) := by decide +kernel
theorem dX6_turns_52 : decode cX6_turns 52 = .ok (.isub, 1) := by decide +kernel
theorem dX6_turns_53 : decode cX6_turns 53 = .ok (.iastore, 1) := by decide +kernel
theorem dX6_turns_54 : decode cX6_turns 54 = .ok (.iinc 2 1, 3) := by decide +kernel
theorem dX6_turns_57 : decode cX6_turns 57 = .ok (.goto (-50), 3) := by decide +kernel
theorem dX6_turns_60 : decode cX6_turns 60 = .ok (.return_, 1) := by decide +kernel
theorem dX6_unlikeTurned_0 : decode cX6_unlikeTurned 0 = .ok (.iconst 0, 1) := by decide +kernel
theorem dX6_unlikeTurned_1 : decode cX6_unlikeTurned 1 = .ok (.istore_n 2, 1) := by decide +kernel
theorem dX6_unlikeTurned_2 : decode cX6_unlikeTurned 2 = .ok (.iconst 0, 1) := by decide +kernel
theorem dX6_unlikeTurned_3 : decode cX6_unlikeTurned 3 = .ok (.istore_n 3, 1) := by decide +kernel
theorem dX6_unlikeTurned_4 : decode cX6_unlikeTurned 4 = .ok (.iload_n 3, 1) := by decide +kernel
theorem dX6_unlikeTurned_5 : decode cX6_unlikeTurned 5 = .ok (.aload_n 0, 1) := by decide +kernel
theorem dX6_unlikeTurned_6 : decode cX6_unlikeTurned 6 = .ok (.getfield 7, 3) := by decide +kernel
theorem dX6_unlikeTurned_9 : decode cX6_unlikeTurned 9 = .ok (.iload_n 1, 1) := by decide +kernel
theorem dX6_unlikeTurned_10 : decode cX6_unlikeTurned 10 = .ok (.iconst 0, 1) := by decide +kernel
theorem dX6_unlikeTurned_11 : decode cX6_unlikeTurned 11 = .ok (.invokestatic 36, 3) := by decide +kernel
theorem dX6_unlikeTurned_14 : decode cX6_unlikeTurned 14 = .ok (.iaload, 1) := by decide +kernel
theorem dX6_unlikeTurned_15 : decode cX6_unlikeTurned 15 = .ok (.if_icmp .ge 45, 3) := by decide +kernel
theorem dX6_unlikeTurned_18 : decode cX6_unlikeTurned 18 = .ok (.iload_n 2, 1) := by decide +kernel
theorem dX6_unlikeTurned_19 : decode cX6_unlikeTurned 19 = .ok (.aload_n 0, 1) := by decide +kernel
theorem dX6_unlikeTurned_20 : decode cX6_unlikeTurned 20 = .ok (.iload_n 1, 1) := by decide +kernel
theorem dX6_unlikeTurned_21 : decode cX6_unlikeTurned 21 = .ok (.iload_n 3, 1) := by decide +kernel
theorem dX6_unlikeTurned_22 : decode cX6_unlikeTurned 22 = .ok (.invokevirtual 63, 3) := by decide +kernel
theorem dX6_unlikeTurned_25 : decode cX6_unlikeTurned 25 = .ok (.aload_n 0, 1) := by decide +kernel
theorem dX6_unlikeTurned_26 : decode cX6_unlikeTurned 26 = .ok (.iload_n 1, 1) := by decide +kernel
theorem dX6_unlikeTurned_27 : decode cX6_unlikeTurned 27 = .ok (.aload_n 0, 1) := by decide +kernel
theorem dX6_unlikeTurned_28 : decode cX6_unlikeTurned 28 = .ok (.getfield 7, 3) := by decide +kernel
theorem dX6_unlikeTurned_31 : decode cX6_unlikeTurned 31 = .ok (.iload_n 1, 1) := by decide +kernel
theorem dX6_unlikeTurned_32 : decode cX6_unlikeTurned 32 = .ok (.iconst 0, 1) := by decide +kernel
theorem dX6_unlikeTurned_33 : decode cX6_unlikeTurned 33 = .ok (.invokestatic 36, 3) := by decide +kernel
theorem dX6_unlikeTurned_36 : decode cX6_unlikeTurned 36 = .ok (.iaload, 1) := by decide +kernel
theorem dX6_unlikeTurned_37 : decode cX6_unlikeTurned 37 = .ok (.iconst 1, 1) := by decide +kernel
theorem dX6_unlikeTurned_38 : decode cX6_unlikeTurned 38 = .ok (.isub, 1) := by decide +kernel
theorem dX6_unlikeTurned_39 : decode cX6_unlikeTurned 39 = .ok (.iload_n 3, 1) := by decide +kernel
theorem dX6_unlikeTurned_40 : decode cX6_unlikeTurned 40 = .ok (.isub, 1) := by decide +kernel
theorem dX6_unlikeTurned_41 : decode cX6_unlikeTurned 41 = .ok (.invokevirtual 63, 3) := by decide +kernel
theorem dX6_unlikeTurned_44 : decode cX6_unlikeTurned 44 = .ok (.if_icmp .eq 7, 3) := by decide +kernel
theorem dX6_unlikeTurned_47 : decode cX6_unlikeTurned 47 = .ok (.iconst 1, 1) := by decide +kernel
theorem dX6_unlikeTurned_48 : decode cX6_unlikeTurned 48 = .ok (.goto 4, 3) := by decide +kernel
theorem dX6_unlikeTurned_51 : decode cX6_unlikeTurned 51 = .ok (.iconst 0, 1) := by decide +kernel
theorem dX6_unlikeTurned_52 : decode cX6_unlikeTurned 52 = .ok (.iadd, 1) := by decide +kernel
theorem dX6_unlikeTurned_53 : decode cX6_unlikeTurned 53 = .ok (.istore_n 2, 1) := by decide +kernel
theorem dX6_unlikeTurned_54 : decode cX6_unlikeTurned 54 = .ok (.iinc 3 1, 3) := by decide +kernel
theorem dX6_unlikeTurned_57 : decode cX6_unlikeTurned 57 = .ok (.goto (-53), 3) := by decide +kernel
theorem dX6_unlikeTurned_60 : decode cX6_unlikeTurned 60 = .ok (.iload_n 2, 1) := by decide +kernel
theorem dX6_unlikeTurned_61 : decode cX6_unlikeTurned 61 = .ok (.ireturn, 1) := by decide +kernel
theorem dX6_takesOff_0 : decode cX6_takesOff 0 = .ok (.aload_n 0, 1) := by decide +kernel
theorem dX6_takesOff_1 : decode cX6_takesOff 1 = .ok (.iload_n 1, 1) := by decide +kernel
theorem dX6_takesOff_2 : decode cX6_takesOff 2 = .ok (.invokevirtual 56, 3) := by decide +kernel
theorem dX6_takesOff_5 : decode cX6_takesOff 5 = .ok (.aload_n 0, 1) := by decide +kernel
theorem dX6_takesOff_6 : decode cX6_takesOff 6 = .ok (.iload_n 1, 1) := by decide +kernel
theorem dX6_takesOff_7 : decode cX6_takesOff 7 = .ok (.aload_n 0, 1) := by decide +kernel
theorem dX6_takesOff_8 : decode cX6_takesOff 8 = .ok (.getfield 25, 3) := by decide +kernel
theorem dX6_takesOff_11 : decode cX6_takesOff 11 = .ok (.iconst 0, 1) := by decide +kernel
theorem dX6_takesOff_12 : decode cX6_takesOff 12 = .ok (.iaload, 1) := by decide +kernel
theorem dX6_takesOff_13 : decode cX6_takesOff 13 = .ok (.invokevirtual 66, 3) := by decide +kernel
theorem dX6_takesOff_16 : decode cX6_takesOff 16 = .ok (.iconst 0, 1) := by decide +kernel
theorem dX6_takesOff_17 : decode cX6_takesOff 17 = .ok (.istore_n 3, 1) := by decide +kernel
theorem dX6_takesOff_18 : decode cX6_takesOff 18 = .ok (.iload_n 3, 1) := by decide +kernel
theorem dX6_takesOff_19 : decode cX6_takesOff 19 = .ok (.aload_n 0, 1) := by decide +kernel
theorem dX6_takesOff_20 : decode cX6_takesOff 20 = .ok (.getfield 25, 3) := by decide +kernel
theorem dX6_takesOff_23 : decode cX6_takesOff 23 = .ok (.iconst 1, 1) := by decide +kernel
theorem dX6_takesOff_24 : decode cX6_takesOff 24 = .ok (.iaload, 1) := by decide +kernel
theorem dX6_takesOff_25 : decode cX6_takesOff 25 = .ok (.if_icmp .ge 50, 3) := by decide +kernel
theorem dX6_takesOff_28 : decode cX6_takesOff 28 = .ok (.aload_n 0, 1) := by decide +kernel
theorem dX6_takesOff_29 : decode cX6_takesOff 29 = .ok (.getfield 25, 3) := by decide +kernel
theorem dX6_takesOff_32 : decode cX6_takesOff 32 = .ok (.iconst 2, 1) := by decide +kernel
theorem dX6_takesOff_33 : decode cX6_takesOff 33 = .ok (.iload_n 3, 1) := by decide +kernel
theorem dX6_takesOff_34 : decode cX6_takesOff 34 = .ok (.iadd, 1) := by decide +kernel
theorem dX6_takesOff_35 : decode cX6_takesOff 35 = .ok (.iaload, 1) := by decide +kernel
theorem dX6_takesOff_36 : decode cX6_takesOff 36 = .ok (.iload_n 2, 1) := by decide +kernel
theorem dX6_takesOff_37 : decode cX6_takesOff 37 = .ok (.if_icmp .eq 32, 3) := by decide +kernel
theorem dX6_takesOff_40 : decode cX6_takesOff 40 = .ok (.aload_n 0, 1) := by decide +kernel
theorem dX6_takesOff_41 : decode cX6_takesOff 41 = .ok (.iload_n 1, 1) := by decide +kernel
theorem dX6_takesOff_42 : decode cX6_takesOff 42 = .ok (.aload_n 0, 1) := by decide +kernel
theorem dX6_takesOff_43 : decode cX6_takesOff 43 = .ok (.getfield 25, 3) := by decide +kernel
theorem dX6_takesOff_46 : decode cX6_takesOff 46 = .ok (.iconst 2, 1) := by decide +kernel
theorem dX6_takesOff_47 : decode cX6_takesOff 47 = .ok (.iload_n 3, 1) := by decide +kernel
theorem dX6_takesOff_48 : decode cX6_takesOff 48 = .ok (.iadd, 1) := by decide +kernel
theorem dX6_takesOff_49 : decode cX6_takesOff 49 = .ok (.iaload, 1) := by decide +kernel
theorem dX6_takesOff_50 : decode cX6_takesOff 50 = .ok (.aload_n 0, 1) := by decide +kernel
theorem dX6_takesOff_51 : decode cX6_takesOff 51 = .ok (.getfield 25, 3) := by decide +kernel
theorem dX6_takesOff_54 : decode cX6_takesOff 54 = .ok (.bipush 10, 2) := by decide +kernel
theorem dX6_takesOff_56 : decode cX6_takesOff 56 = .ok (.aload_n 0, 1) := by decide +kernel
theorem dX6_takesOff_57 : decode cX6_takesOff 57 = .ok (.getfield 25, 3) := by decide +kernel
theorem dX6_takesOff_60 : decode cX6_takesOff 60 = .ok (.iconst 2, 1) := by decide +kernel
theorem dX6_takesOff_61 : decode cX6_takesOff 61 = .ok (.iload_n 3, 1) := by decide +kernel
theorem dX6_takesOff_62 : decode cX6_takesOff 62 = .ok (.iadd, 1) := by decide +kernel
theorem dX6_takesOff_63 : decode cX6_takesOff 63 = .ok (.iaload, 1) := by decide +kernel
theorem dX6_takesOff_64 : decode cX6_takesOff 64 = .ok (.iadd, 1) := by decide +kernel
theorem dX6_takesOff_65 : decode cX6_takesOff 65 = .ok (.iaload, 1) := by decide +kernel
theorem dX6_takesOff_66 : decode cX6_takesOff 66 = .ok (.invokevirtual 52, 3) := by decide +kernel
theorem dX6_takesOff_69 : decode cX6_takesOff 69 = .ok (.iinc 3 1, 3) := by decide +kernel
theorem dX6_takesOff_72 : decode cX6_takesOff 72 = .ok (.goto (-54), 3) := by decide +kernel
theorem dX6_takesOff_75 : decode cX6_takesOff 75 = .ok (.return_, 1) := by decide +kernel
theorem dX6_isLaidAnywhere_0 : decode cX6_isLaidAnywhere 0 = .ok (.iconst 0, 1) := by decide +kernel
theorem dX6_isLaidAnywhere_1 : decode cX6_isLaidAnywhere 1 = .ok (.istore_n 2, 1) := by decide +kernel
theorem dX6_isLaidAnywhere_2 : decode cX6_isLaidAnywhere 2 = .ok (.iconst 0, 1) := by decide +kernel
theorem dX6_isLaidAnywhere_3 : decode cX6_isLaidAnywhere 3 = .ok (.istore_n 3, 1) := by decide +kernel
theorem dX6_isLaidAnywhere_4 : decode cX6_isLaidAnywhere 4 = .ok (.iload_n 3, 1) := by decide +kernel
theorem dX6_isLaidAnywhere_5 : decode cX6_isLaidAnywhere 5 = .ok (.aload_n 0, 1) := by decide +kernel
theorem dX6_isLaidAnywhere_6 : decode cX6_isLaidAnywhere 6 = .ok (.getfield 7, 3) := by decide +kernel
theorem dX6_isLaidAnywhere_9 : decode cX6_isLaidAnywhere 9 = .ok (.bipush 8, 2) := by decide +kernel
theorem dX6_isLaidAnywhere_11 : decode cX6_isLaidAnywhere 11 = .ok (.iaload, 1) := by decide +kernel
theorem dX6_isLaidAnywhere_12 : decode cX6_isLaidAnywhere 12 = .ok (.if_icmp .ge 28, 3) := by decide +kernel
theorem dX6_isLaidAnywhere_15 : decode cX6_isLaidAnywhere 15 = .ok (.iload_n 2, 1) := by decide +kernel
theorem dX6_isLaidAnywhere_16 : decode cX6_isLaidAnywhere 16 = .ok (.ifCond .ne 12, 3) := by decide +kernel
theorem dX6_isLaidAnywhere_19 : decode cX6_isLaidAnywhere 19 = .ok (.aload_n 0, 1) := by decide +kernel
theorem dX6_isLaidAnywhere_20 : decode cX6_isLaidAnywhere 20 = .ok (.iload_n 3, 1) := by decide +kernel
theorem dX6_isLaidAnywhere_21 : decode cX6_isLaidAnywhere 21 = .ok (.iload_n 1, 1) := by decide +kernel
theorem dX6_isLaidAnywhere_22 : decode cX6_isLaidAnywhere 22 = .ok (.invokevirtual 70, 3) := by decide +kernel
theorem dX6_isLaidAnywhere_25 : decode cX6_isLaidAnywhere 25 = .ok (.ifCond .eq 7, 3) := by decide +kernel
theorem dX6_isLaidAnywhere_28 : decode cX6_isLaidAnywhere 28 = .ok (.iconst 1, 1) := by decide +kernel
theorem dX6_isLaidAnywhere_29 : decode cX6_isLaidAnywhere 29 = .ok (.goto 4, 3) := by decide +kernel
theorem dX6_isLaidAnywhere_32 : decode cX6_isLaidAnywhere 32 = .ok (.iconst 0, 1) := by decide +kernel
theorem dX6_isLaidAnywhere_33 : decode cX6_isLaidAnywhere 33 = .ok (.istore_n 2, 1) := by decide +kernel
theorem dX6_isLaidAnywhere_34 : decode cX6_isLaidAnywhere 34 = .ok (.iinc 3 1, 3) := by decide +kernel
theorem dX6_isLaidAnywhere_37 : decode cX6_isLaidAnywhere 37 = .ok (.goto (-33), 3) := by decide +kernel
theorem dX6_isLaidAnywhere_40 : decode cX6_isLaidAnywhere 40 = .ok (.iload_n 2, 1) := by decide +kernel
theorem dX6_isLaidAnywhere_41 : decode cX6_isLaidAnywhere 41 = .ok (.ireturn, 1) := by decide +kernel
theorem dX6_gap_0 : decode cX6_gap 0 = .ok (.aload_n 0, 1) := by decide +kernel
theorem dX6_gap_1 : decode cX6_gap 1 = .ok (.iload_n 1, 1) := by decide +kernel
theorem dX6_gap_2 : decode cX6_gap 2 = .ok (.invokestatic 74, 3) := by decide +kernel
theorem dX6_gap_5 : decode cX6_gap 5 = .ok (.ifCond .ne 7, 3) := by decide +kernel
theorem dX6_gap_8 : decode cX6_gap 8 = .ok (.iconst 1, 1) := by decide +kernel
theorem dX6_gap_9 : decode cX6_gap 9 = .ok (.goto 30, 3) := by decide +kernel
theorem dX6_gap_12 : decode cX6_gap 12 = .ok (.iload_n 2, 1) := by decide +kernel
theorem dX6_gap_13 : decode cX6_gap 13 = .ok (.iconst 2, 1) := by decide +kernel
theorem dX6_gap_14 : decode cX6_gap 14 = .ok (.bipush 20, 2) := by decide +kernel
theorem dX6_gap_16 : decode cX6_gap 16 = .ok (.invokestatic 32, 3) := by decide +kernel
theorem dX6_gap_19 : decode cX6_gap 19 = .ok (.ifCond .ne 7, 3) := by decide +kernel
theorem dX6_gap_22 : decode cX6_gap 22 = .ok (.iconst 2, 1) := by decide +kernel
theorem dX6_gap_23 : decode cX6_gap 23 = .ok (.goto 16, 3) := by decide +kernel
theorem dX6_gap_26 : decode cX6_gap 26 = .ok (.aload_n 0, 1) := by decide +kernel
theorem dX6_gap_27 : decode cX6_gap 27 = .ok (.iload_n 1, 1) := by decide +kernel
theorem dX6_gap_28 : decode cX6_gap 28 = .ok (.invokevirtual 78, 3) := by decide +kernel
theorem dX6_gap_31 : decode cX6_gap 31 = .ok (.ifCond .eq 7, 3) := by decide +kernel
theorem dX6_gap_34 : decode cX6_gap 34 = .ok (.iconst 3, 1) := by decide +kernel
theorem dX6_gap_35 : decode cX6_gap 35 = .ok (.goto 4, 3) := by decide +kernel
theorem dX6_gap_38 : decode cX6_gap 38 = .ok (.iconst 0, 1) := by decide +kernel
theorem dX6_gap_39 : decode cX6_gap 39 = .ok (.invokevirtual 81, 3) := by decide +kernel
theorem dX6_gap_42 : decode cX6_gap 42 = .ok (.ifCond .ne 5, 3) := by decide +kernel
theorem dX6_gap_45 : decode cX6_gap 45 = .ok (.iconst 0, 1) := by decide +kernel
theorem dX6_gap_46 : decode cX6_gap 46 = .ok (.ireturn, 1) := by decide +kernel
theorem dX6_gap_47 : decode cX6_gap 47 = .ok (.aload_n 0, 1) := by decide +kernel
theorem dX6_gap_48 : decode cX6_gap 48 = .ok (.invokevirtual 84, 3) := by decide +kernel
theorem dX6_gap_51 : decode cX6_gap 51 = .ok (.aload_n 0, 1) := by decide +kernel
theorem dX6_gap_52 : decode cX6_gap 52 = .ok (.getfield 7, 3) := by decide +kernel
theorem dX6_gap_55 : decode cX6_gap 55 = .ok (.iconst 0, 1) := by decide +kernel
theorem dX6_gap_56 : decode cX6_gap 56 = .ok (.iload_n 1, 1) := by decide +kernel
theorem dX6_gap_57 : decode cX6_gap 57 = .ok (.iadd, 1) := by decide +kernel
theorem dX6_gap_58 : decode cX6_gap 58 = .ok (.iaload, 1) := by decide +kernel
theorem dX6_gap_59 : decode cX6_gap 59 = .ok (.istore_n 3, 1) := by decide +kernel
theorem dX6_gap_60 : decode cX6_gap 60 = .ok (.aload_n 0, 1) := by decide +kernel
theorem dX6_gap_61 : decode cX6_gap 61 = .ok (.getfield 7, 3) := by decide +kernel
theorem dX6_gap_64 : decode cX6_gap 64 = .ok (.iconst 0, 1) := by decide +kernel
theorem dX6_gap_65 : decode cX6_gap 65 = .ok (.iload_n 1, 1) := by decide +kernel
theorem dX6_gap_66 : decode cX6_gap 66 = .ok (.iadd, 1) := by decide +kernel
theorem dX6_gap_67 : decode cX6_gap 67 = .ok (.iload_n 2, 1) := by decide +kernel
theorem dX6_gap_68 : decode cX6_gap 68 = .ok (.iastore, 1) := by decide +kernel
theorem dX6_gap_69 : decode cX6_gap 69 = .ok (.iload_n 3, 1) := by decide +kernel
theorem dX6_gap_70 : decode cX6_gap 70 = .ok (.ireturn, 1) := by decide +kernel
theorem dX6_adds_0 : decode cX6_adds 0 = .ok (.aload_n 0, 1) := by decide +kernel
theorem dX6_adds_1 : decode cX6_adds 1 = .ok (.aload_n 0, 1) := by decide +kernel
theorem dX6_adds_2 : decode cX6_adds 2 = .ok (.getfield 7, 3) := by decide +kernel
theorem dX6_adds_5 : decode cX6_adds 5 = .ok (.bipush 8, 2) := by decide +kernel
theorem dX6_adds_7 : decode cX6_adds 7 = .ok (.iaload, 1) := by decide +kernel
theorem dX6_adds_8 : decode cX6_adds 8 = .ok (.iload_n 1, 1) := by decide +kernel
theorem dX6_adds_9 : decode cX6_adds 9 = .ok (.invokevirtual 66, 3) := by decide +kernel
theorem dX6_adds_12 : decode cX6_adds 12 = .ok (.aload_n 0, 1) := by decide +kernel
theorem dX6_adds_13 : decode cX6_adds 13 = .ok (.getfield 7, 3) := by decide +kernel
theorem dX6_adds_16 : decode cX6_adds 16 = .ok (.bipush 8, 2) := by decide +kernel
theorem dX6_adds_18 : decode cX6_adds 18 = .ok (.dup2, 1) := by decide +kernel
theorem dX6_adds_19 : decode cX6_adds 19 = .ok (.iaload, 1) := by decide +kernel
theorem dX6_adds_20 : decode cX6_adds 20 = .ok (.iconst 1, 1) := by decide +kernel
theorem dX6_adds_21 : decode cX6_adds 21 = .ok (.iadd, 1) := by decide +kernel
theorem dX6_adds_22 : decode cX6_adds 22 = .ok (.iastore, 1) := by decide +kernel
theorem dX6_adds_23 : decode cX6_adds 23 = .ok (.return_, 1) := by decide +kernel
theorem dX6_rope_0 : decode cX6_rope 0 = .ok (.aload_n 0, 1) := by decide +kernel
theorem dX6_rope_1 : decode cX6_rope 1 = .ok (.iload_n 1, 1) := by decide +kernel
theorem dX6_rope_2 : decode cX6_rope 2 = .ok (.iconst 1, 1) := by decide +kernel
theorem dX6_rope_3 : decode cX6_rope 3 = .ok (.bipush 60, 2) := by decide +kernel
theorem dX6_rope_5 : decode cX6_rope 5 = .ok (.invokestatic 32, 3) := by decide +kernel
theorem dX6_rope_8 : decode cX6_rope 8 = .ok (.ifCond .ne 7, 3) := by decide +kernel
theorem dX6_rope_11 : decode cX6_rope 11 = .ok (.iconst 1, 1) := by decide +kernel
theorem dX6_rope_12 : decode cX6_rope 12 = .ok (.goto 19, 3) := by decide +kernel
theorem dX6_rope_15 : decode cX6_rope 15 = .ok (.aload_n 0, 1) := by decide +kernel
theorem dX6_rope_16 : decode cX6_rope 16 = .ok (.getfield 7, 3) := by decide +kernel
theorem dX6_rope_19 : decode cX6_rope 19 = .ok (.bipush 8, 2) := by decide +kernel
theorem dX6_rope_21 : decode cX6_rope 21 = .ok (.iaload, 1) := by decide +kernel
theorem dX6_rope_22 : decode cX6_rope 22 = .ok (.iconst 4, 1) := by decide +kernel
theorem dX6_rope_23 : decode cX6_rope 23 = .ok (.if_icmp .ne 7, 3) := by decide +kernel
theorem dX6_rope_26 : decode cX6_rope 26 = .ok (.iconst 2, 1) := by decide +kernel
theorem dX6_rope_27 : decode cX6_rope 27 = .ok (.goto 4, 3) := by decide +kernel
theorem dX6_rope_30 : decode cX6_rope 30 = .ok (.iconst 0, 1) := by decide +kernel
theorem dX6_rope_31 : decode cX6_rope 31 = .ok (.invokevirtual 81, 3) := by decide +kernel
theorem dX6_rope_34 : decode cX6_rope 34 = .ok (.ifCond .ne 5, 3) := by decide +kernel
theorem dX6_rope_37 : decode cX6_rope 37 = .ok (.iconst 0, 1) := by decide +kernel
theorem dX6_rope_38 : decode cX6_rope 38 = .ok (.ireturn, 1) := by decide +kernel
theorem dX6_rope_39 : decode cX6_rope 39 = .ok (.aload_n 0, 1) := by decide +kernel
theorem dX6_rope_40 : decode cX6_rope 40 = .ok (.invokevirtual 84, 3) := by decide +kernel
theorem dX6_rope_43 : decode cX6_rope 43 = .ok (.aload_n 0, 1) := by decide +kernel
theorem dX6_rope_44 : decode cX6_rope 44 = .ok (.iload_n 1, 1) := by decide +kernel
theorem dX6_rope_45 : decode cX6_rope 45 = .ok (.invokevirtual 87, 3) := by decide +kernel
theorem dX6_rope_48 : decode cX6_rope 48 = .ok (.aload_n 0, 1) := by decide +kernel
theorem dX6_rope_49 : decode cX6_rope 49 = .ok (.getfield 7, 3) := by decide +kernel
theorem dX6_rope_52 : decode cX6_rope 52 = .ok (.bipush 8, 2) := by decide +kernel
theorem dX6_rope_54 : decode cX6_rope 54 = .ok (.iaload, 1) := by decide +kernel
theorem dX6_rope_55 : decode cX6_rope 55 = .ok (.iconst 1, 1) := by decide +kernel
theorem dX6_rope_56 : decode cX6_rope 56 = .ok (.isub, 1) := by decide +kernel
theorem dX6_rope_57 : decode cX6_rope 57 = .ok (.ireturn, 1) := by decide +kernel
theorem dX6_drop_0 : decode cX6_drop 0 = .ok (.aload_n 0, 1) := by decide +kernel
theorem dX6_drop_1 : decode cX6_drop 1 = .ok (.aload_n 0, 1) := by decide +kernel
theorem dX6_drop_2 : decode cX6_drop 2 = .ok (.iload_n 1, 1) := by decide +kernel
theorem dX6_drop_3 : decode cX6_drop 3 = .ok (.invokevirtual 90, 3) := by decide +kernel
theorem dX6_drop_6 : decode cX6_drop 6 = .ok (.ifCond .eq 7, 3) := by decide +kernel
theorem dX6_drop_9 : decode cX6_drop 9 = .ok (.iconst 0, 1) := by decide +kernel
theorem dX6_drop_10 : decode cX6_drop 10 = .ok (.goto 4, 3) := by decide +kernel
theorem dX6_drop_13 : decode cX6_drop 13 = .ok (.iconst 1, 1) := by decide +kernel
theorem dX6_drop_14 : decode cX6_drop 14 = .ok (.invokevirtual 81, 3) := by decide +kernel
theorem dX6_drop_17 : decode cX6_drop 17 = .ok (.ifCond .ne 5, 3) := by decide +kernel
theorem dX6_drop_20 : decode cX6_drop 20 = .ok (.iconst 0, 1) := by decide +kernel
theorem dX6_drop_21 : decode cX6_drop 21 = .ok (.ireturn, 1) := by decide +kernel
theorem dX6_drop_22 : decode cX6_drop 22 = .ok (.aload_n 0, 1) := by decide +kernel
theorem dX6_drop_23 : decode cX6_drop 23 = .ok (.invokevirtual 84, 3) := by decide +kernel
theorem dX6_drop_26 : decode cX6_drop 26 = .ok (.aload_n 0, 1) := by decide +kernel
theorem dX6_drop_27 : decode cX6_drop 27 = .ok (.iload_n 1, 1) := by decide +kernel
theorem dX6_drop_28 : decode cX6_drop 28 = .ok (.invokevirtual 93, 3) := by decide +kernel
theorem dX6_drop_31 : decode cX6_drop 31 = .ok (.aload_n 0, 1) := by decide +kernel
theorem dX6_drop_32 : decode cX6_drop 32 = .ok (.getfield 7, 3) := by decide +kernel
theorem dX6_drop_35 : decode cX6_drop 35 = .ok (.bipush 8, 2) := by decide +kernel
theorem dX6_drop_37 : decode cX6_drop 37 = .ok (.iaload, 1) := by decide +kernel
theorem dX6_drop_38 : decode cX6_drop 38 = .ok (.ireturn, 1) := by decide +kernel
theorem dX6_why_0 : decode cX6_why 0 = .ok (.aload_n 0, 1) := by decide +kernel
theorem dX6_why_1 : decode cX6_why 1 = .ok (.iload_n 1, 1) := by decide +kernel
theorem dX6_why_2 : decode cX6_why 2 = .ok (.iload_n 2, 1) := by decide +kernel
theorem dX6_why_3 : decode cX6_why 3 = .ok (.invokevirtual 70, 3) := by decide +kernel
theorem dX6_why_6 : decode cX6_why 6 = .ok (.ifCond .eq 5, 3) := by decide +kernel
theorem dX6_why_9 : decode cX6_why 9 = .ok (.iconst 1, 1) := by decide +kernel
theorem dX6_why_10 : decode cX6_why 10 = .ok (.ireturn, 1) := by decide +kernel
theorem dX6_why_11 : decode cX6_why 11 = .ok (.iload_n 3, 1) := by decide +kernel
theorem dX6_why_12 : decode cX6_why 12 = .ok (.aload_n 0, 1) := by decide +kernel
theorem dX6_why_13 : decode cX6_why 13 = .ok (.getfield 7, 3) := by decide +kernel
theorem dX6_why_16 : decode cX6_why 16 = .ok (.iload_n 1, 1) := by decide +kernel
theorem dX6_why_17 : decode cX6_why 17 = .ok (.iconst 0, 1) := by decide +kernel
theorem dX6_why_18 : decode cX6_why 18 = .ok (.invokestatic 36, 3) := by decide +kernel
theorem dX6_why_21 : decode cX6_why 21 = .ok (.iaload, 1) := by decide +kernel
theorem dX6_why_22 : decode cX6_why 22 = .ok (.if_icmp .lt 5, 3) := by decide +kernel
theorem dX6_why_25 : decode cX6_why 25 = .ok (.iconst 2, 1) := by decide +kernel
theorem dX6_why_26 : decode cX6_why 26 = .ok (.ireturn, 1) := by decide +kernel
theorem dX6_why_27 : decode cX6_why 27 = .ok (.iconst 0, 1) := by decide +kernel
theorem dX6_why_28 : decode cX6_why 28 = .ok (.istore 4, 2) := by decide +kernel
theorem dX6_why_30 : decode cX6_why 30 = .ok (.iload_n 3, 1) := by decide +kernel
theorem dX6_why_31 : decode cX6_why 31 = .ok (.istore 5, 2) := by decide +kernel
theorem dX6_why_33 : decode cX6_why 33 = .ok (.iload 5, 2) := by decide +kernel
theorem dX6_why_35 : decode cX6_why 35 = .ok (.aload_n 0, 1) := by decide +kernel
theorem dX6_why_36 : decode cX6_why 36 = .ok (.getfield 7, 3) := by decide +kernel
theorem dX6_why_39 : decode cX6_why 39 = .ok (.iload_n 1, 1) := by decide +kernel
theorem dX6_why_40 : decode cX6_why 40 = .ok (.iconst 0, 1) := by decide +kernel
theorem dX6_why_41 : decode cX6_why 41 = .ok (.invokestatic 36, 3) := by decide +kernel
theorem dX6_why_44 : decode cX6_why 44 = .ok (.iaload, 1) := by decide +kernel
theorem dX6_why_45 : decode cX6_why 45 = .ok (.if_icmp .ge 42, 3) := by decide +kernel
theorem dX6_why_48 : decode cX6_why 48 = .ok (.iload 4, 2) := by decide +kernel
theorem dX6_why_50 : decode cX6_why 50 = .ok (.ifCond .ne 14, 3) := by decide +kernel
theorem dX6_why_53 : decode cX6_why 53 = .ok (.aload_n 0, 1) := by decide +kernel
theorem dX6_why_54 : decode cX6_why 54 = .ok (.iload_n 1, 1) := by decide +kernel
theorem dX6_why_55 : decode cX6_why 55 = .ok (.iload 5, 2) := by decide +kernel
theorem dX6_why_57 : decode cX6_why 57 = .ok (.invokevirtual 63, 3) := by decide +kernel
theorem dX6_why_60 : decode cX6_why 60 = .ok (.iconst (-1), 1) := by decide +kernel
theorem dX6_why_61 : decode cX6_why 61 = .ok (.if_icmp .eq 7, 3) := by decide +kernel
theorem dX6_why_64 : decode cX6_why 64 = .ok (.iconst 1, 1) := by decide +kernel
theorem dX6_why_65 : decode cX6_why 65 = .ok (.goto 4, 3) := by decide +kernel
theorem dX6_why_68 : decode cX6_why 68 = .ok (.iconst 0, 1) := by decide +kernel
theorem dX6_why_69 : decode cX6_why 69 = .ok (.istore 4, 2) := by decide +kernel
theorem dX6_why_71 : decode cX6_why 71 = .ok (.iload 5, 2) := by decide +kernel
theorem dX6_why_73 : decode cX6_why 73 = .ok (.aload_n 0, 1) := by decide +kernel
theorem dX6_why_74 : decode cX6_why 74 = .ok (.getfield 7, 3) := by decide +kernel
theorem dX6_why_77 : decode cX6_why 77 = .ok (.iconst 0, 1) := by decide +kernel
theorem dX6_why_78 : decode cX6_why 78 = .ok (.iload_n 2, 1) := by decide +kernel
theorem dX6_why_79 : decode cX6_why 79 = .ok (.iadd, 1) := by decide +kernel
theorem dX6_why_80 : decode cX6_why 80 = .ok (.iaload, 1) := by decide +kernel
theorem dX6_why_81 : decode cX6_why 81 = .ok (.iadd, 1) := by decide +kernel
theorem dX6_why_82 : decode cX6_why 82 = .ok (.istore 5, 2) := by decide +kernel
theorem dX6_why_84 : decode cX6_why 84 = .ok (.goto (-51), 3) := by decide +kernel
theorem dX6_why_87 : decode cX6_why 87 = .ok (.iload 4, 2) := by decide +kernel
theorem dX6_why_89 : decode cX6_why 89 = .ok (.ifCond .eq 7, 3) := by decide +kernel
theorem dX6_why_92 : decode cX6_why 92 = .ok (.iconst 3, 1) := by decide +kernel
theorem dX6_why_93 : decode cX6_why 93 = .ok (.goto 4, 3) := by decide +kernel
theorem dX6_why_96 : decode cX6_why 96 = .ok (.iconst 0, 1) := by decide +kernel
theorem dX6_why_97 : decode cX6_why 97 = .ok (.ireturn, 1) := by decide +kernel
theorem dX6_areThere_0 : decode cX6_areThere 0 = .ok (.aload_n 0, 1) := by decide +kernel
theorem dX6_areThere_1 : decode cX6_areThere 1 = .ok (.iload_n 1, 1) := by decide +kernel
theorem dX6_areThere_2 : decode cX6_areThere 2 = .ok (.invokevirtual 90, 3) := by decide +kernel
theorem dX6_areThere_5 : decode cX6_areThere 5 = .ok (.ifCond .eq 14, 3) := by decide +kernel
theorem dX6_areThere_8 : decode cX6_areThere 8 = .ok (.iload_n 2, 1) := by decide +kernel
theorem dX6_areThere_9 : decode cX6_areThere 9 = .ok (.invokestatic 74, 3) := by decide +kernel
theorem dX6_areThere_12 : decode cX6_areThere 12 = .ok (.ifCond .eq 7, 3) := by decide +kernel
theorem dX6_areThere_15 : decode cX6_areThere 15 = .ok (.iconst 1, 1) := by decide +kernel
theorem dX6_areThere_16 : decode cX6_areThere 16 = .ok (.goto 4, 3) := by decide +kernel
theorem dX6_areThere_19 : decode cX6_areThere 19 = .ok (.iconst 0, 1) := by decide +kernel
theorem dX6_areThere_20 : decode cX6_areThere 20 = .ok (.ireturn, 1) := by decide +kernel
theorem dX6_lay_0 : decode cX6_lay 0 = .ok (.aload_n 0, 1) := by decide +kernel
theorem dX6_lay_1 : decode cX6_lay 1 = .ok (.aload_n 0, 1) := by decide +kernel
theorem dX6_lay_2 : decode cX6_lay 2 = .ok (.iload_n 1, 1) := by decide +kernel
theorem dX6_lay_3 : decode cX6_lay 3 = .ok (.iload_n 2, 1) := by decide +kernel
theorem dX6_lay_4 : decode cX6_lay 4 = .ok (.invokevirtual 96, 3) := by decide +kernel
theorem dX6_lay_7 : decode cX6_lay 7 = .ok (.ifCond .ne 7, 3) := by decide +kernel
theorem dX6_lay_10 : decode cX6_lay 10 = .ok (.iconst 1, 1) := by decide +kernel
theorem dX6_lay_11 : decode cX6_lay 11 = .ok (.goto 31, 3) := by decide +kernel
theorem dX6_lay_14 : decode cX6_lay 14 = .ok (.aload_n 0, 1) := by decide +kernel
theorem dX6_lay_15 : decode cX6_lay 15 = .ok (.iload_n 2, 1) := by decide +kernel
theorem dX6_lay_16 : decode cX6_lay 16 = .ok (.iload_n 3, 1) := by decide +kernel
theorem dX6_lay_17 : decode cX6_lay 17 = .ok (.invokevirtual 99, 3) := by decide +kernel
theorem dX6_lay_20 : decode cX6_lay 20 = .ok (.ifCond .ne 7, 3) := by decide +kernel
theorem dX6_lay_23 : decode cX6_lay 23 = .ok (.iconst 2, 1) := by decide +kernel
theorem dX6_lay_24 : decode cX6_lay 24 = .ok (.goto 18, 3) := by decide +kernel
theorem dX6_lay_27 : decode cX6_lay 27 = .ok (.aload_n 0, 1) := by decide +kernel
theorem dX6_lay_28 : decode cX6_lay 28 = .ok (.iload_n 1, 1) := by decide +kernel
theorem dX6_lay_29 : decode cX6_lay 29 = .ok (.iload_n 2, 1) := by decide +kernel
theorem dX6_lay_30 : decode cX6_lay 30 = .ok (.iload_n 3, 1) := by decide +kernel
theorem dX6_lay_31 : decode cX6_lay 31 = .ok (.invokevirtual 102, 3) := by decide +kernel
theorem dX6_lay_34 : decode cX6_lay 34 = .ok (.ifCond .le 7, 3) := by decide +kernel
theorem dX6_lay_37 : decode cX6_lay 37 = .ok (.iconst 3, 1) := by decide +kernel
theorem dX6_lay_38 : decode cX6_lay 38 = .ok (.goto 4, 3) := by decide +kernel
theorem dX6_lay_41 : decode cX6_lay 41 = .ok (.iconst 0, 1) := by decide +kernel
theorem dX6_lay_42 : decode cX6_lay 42 = .ok (.invokevirtual 81, 3) := by decide +kernel
theorem dX6_lay_45 : decode cX6_lay 45 = .ok (.ifCond .ne 5, 3) := by decide +kernel
theorem dX6_lay_48 : decode cX6_lay 48 = .ok (.iconst 0, 1) := by decide +kernel
theorem dX6_lay_49 : decode cX6_lay 49 = .ok (.ireturn, 1) := by decide +kernel
theorem dX6_lay_50 : decode cX6_lay 50 = .ok (.aload_n 0, 1) := by decide +kernel
theorem dX6_lay_51 : decode cX6_lay 51 = .ok (.invokevirtual 84, 3) := by decide +kernel
theorem dX6_lay_54 : decode cX6_lay 54 = .ok (.aload_n 0, 1) := by decide +kernel
theorem dX6_lay_55 : decode cX6_lay 55 = .ok (.iload_n 1, 1) := by decide +kernel
theorem dX6_lay_56 : decode cX6_lay 56 = .ok (.iload_n 2, 1) := by decide +kernel
theorem dX6_lay_57 : decode cX6_lay 57 = .ok (.iload_n 3, 1) := by decide +kernel
theorem dX6_lay_58 : decode cX6_lay 58 = .ok (.invokevirtual 52, 3) := by decide +kernel
theorem dX6_lay_61 : decode cX6_lay 61 = .ok (.aload_n 0, 1) := by decide +kernel
theorem dX6_lay_62 : decode cX6_lay 62 = .ok (.getfield 7, 3) := by decide +kernel
theorem dX6_lay_65 : decode cX6_lay 65 = .ok (.bipush 9, 2) := by decide +kernel
theorem dX6_lay_67 : decode cX6_lay 67 = .ok (.dup2, 1) := by decide +kernel
theorem dX6_lay_68 : decode cX6_lay 68 = .ok (.iaload, 1) := by decide +kernel
theorem dX6_lay_69 : decode cX6_lay 69 = .ok (.iconst 1, 1) := by decide +kernel
theorem dX6_lay_70 : decode cX6_lay 70 = .ok (.iadd, 1) := by decide +kernel
theorem dX6_lay_71 : decode cX6_lay 71 = .ok (.iastore, 1) := by decide +kernel
theorem dX6_lay_72 : decode cX6_lay 72 = .ok (.aload_n 0, 1) := by decide +kernel
theorem dX6_lay_73 : decode cX6_lay 73 = .ok (.iload_n 1, 1) := by decide +kernel
theorem dX6_lay_74 : decode cX6_lay 74 = .ok (.iload_n 2, 1) := by decide +kernel
theorem dX6_lay_75 : decode cX6_lay 75 = .ok (.invokevirtual 106, 3) := by decide +kernel
theorem dX6_lay_78 : decode cX6_lay 78 = .ok (.ireturn, 1) := by decide +kernel
theorem dX6_take_0 : decode cX6_take 0 = .ok (.aload_n 0, 1) := by decide +kernel
theorem dX6_take_1 : decode cX6_take 1 = .ok (.aload_n 0, 1) := by decide +kernel
theorem dX6_take_2 : decode cX6_take 2 = .ok (.iload_n 1, 1) := by decide +kernel
theorem dX6_take_3 : decode cX6_take 3 = .ok (.iload_n 2, 1) := by decide +kernel
theorem dX6_take_4 : decode cX6_take 4 = .ok (.invokevirtual 96, 3) := by decide +kernel
theorem dX6_take_7 : decode cX6_take 7 = .ok (.ifCond .ne 7, 3) := by decide +kernel
theorem dX6_take_10 : decode cX6_take 10 = .ok (.iconst 1, 1) := by decide +kernel
theorem dX6_take_11 : decode cX6_take 11 = .ok (.goto 17, 3) := by decide +kernel
theorem dX6_take_14 : decode cX6_take 14 = .ok (.aload_n 0, 1) := by decide +kernel
theorem dX6_take_15 : decode cX6_take 15 = .ok (.iload_n 1, 1) := by decide +kernel
theorem dX6_take_16 : decode cX6_take 16 = .ok (.iload_n 2, 1) := by decide +kernel
theorem dX6_take_17 : decode cX6_take 17 = .ok (.invokevirtual 70, 3) := by decide +kernel
theorem dX6_take_20 : decode cX6_take 20 = .ok (.ifCond .ne 7, 3) := by decide +kernel
theorem dX6_take_23 : decode cX6_take 23 = .ok (.iconst 2, 1) := by decide +kernel
theorem dX6_take_24 : decode cX6_take 24 = .ok (.goto 4, 3) := by decide +kernel
theorem dX6_take_27 : decode cX6_take 27 = .ok (.iconst 0, 1) := by decide +kernel
theorem dX6_take_28 : decode cX6_take 28 = .ok (.invokevirtual 81, 3) := by decide +kernel
theorem dX6_take_31 : decode cX6_take 31 = .ok (.ifCond .ne 5, 3) := by decide +kernel
theorem dX6_take_34 : decode cX6_take 34 = .ok (.iconst 0, 1) := by decide +kernel
theorem dX6_take_35 : decode cX6_take 35 = .ok (.ireturn, 1) := by decide +kernel
theorem dX6_take_36 : decode cX6_take 36 = .ok (.aload_n 0, 1) := by decide +kernel
theorem dX6_take_37 : decode cX6_take 37 = .ok (.invokevirtual 84, 3) := by decide +kernel
theorem dX6_take_40 : decode cX6_take 40 = .ok (.aload_n 0, 1) := by decide +kernel
theorem dX6_take_41 : decode cX6_take 41 = .ok (.iload_n 1, 1) := by decide +kernel
theorem dX6_take_42 : decode cX6_take 42 = .ok (.iload_n 2, 1) := by decide +kernel
theorem dX6_take_43 : decode cX6_take 43 = .ok (.invokevirtual 106, 3) := by decide +kernel
theorem dX6_take_46 : decode cX6_take 46 = .ok (.istore_n 3, 1) := by decide +kernel
theorem dX6_take_47 : decode cX6_take 47 = .ok (.aload_n 0, 1) := by decide +kernel
theorem dX6_take_48 : decode cX6_take 48 = .ok (.iload_n 1, 1) := by decide +kernel
theorem dX6_take_49 : decode cX6_take 49 = .ok (.iload_n 2, 1) := by decide +kernel
theorem dX6_take_50 : decode cX6_take 50 = .ok (.invokevirtual 109, 3) := by decide +kernel
theorem dX6_take_53 : decode cX6_take 53 = .ok (.iload_n 3, 1) := by decide +kernel
theorem dX6_take_54 : decode cX6_take 54 = .ok (.ireturn, 1) := by decide +kernel
theorem dX6_stretch_0 : decode cX6_stretch 0 = .ok (.aload_n 0, 1) := by decide +kernel
theorem dX6_stretch_1 : decode cX6_stretch 1 = .ok (.aload_n 0, 1) := by decide +kernel
theorem dX6_stretch_2 : decode cX6_stretch 2 = .ok (.iload_n 1, 1) := by decide +kernel
theorem dX6_stretch_3 : decode cX6_stretch 3 = .ok (.invokevirtual 90, 3) := by decide +kernel
theorem dX6_stretch_6 : decode cX6_stretch 6 = .ok (.ifCond .ne 7, 3) := by decide +kernel
theorem dX6_stretch_9 : decode cX6_stretch 9 = .ok (.iconst 1, 1) := by decide +kernel
theorem dX6_stretch_10 : decode cX6_stretch 10 = .ok (.goto 31, 3) := by decide +kernel
theorem dX6_stretch_13 : decode cX6_stretch 13 = .ok (.iload_n 2, 1) := by decide +kernel
theorem dX6_stretch_14 : decode cX6_stretch 14 = .ok (.iconst 1, 1) := by decide +kernel
theorem dX6_stretch_15 : decode cX6_stretch 15 = .ok (.bipush 60, 2) := by decide +kernel
theorem dX6_stretch_17 : decode cX6_stretch 17 = .ok (.invokestatic 32, 3) := by decide +kernel
theorem dX6_stretch_20 : decode cX6_stretch 20 = .ok (.ifCond .ne 7, 3) := by decide +kernel
theorem dX6_stretch_23 : decode cX6_stretch 23 = .ok (.iconst 2, 1) := by decide +kernel
theorem dX6_stretch_24 : decode cX6_stretch 24 = .ok (.goto 17, 3) := by decide +kernel
theorem dX6_stretch_27 : decode cX6_stretch 27 = .ok (.iload_n 2, 1) := by decide +kernel
theorem dX6_stretch_28 : decode cX6_stretch 28 = .ok (.aload_n 0, 1) := by decide +kernel
theorem dX6_stretch_29 : decode cX6_stretch 29 = .ok (.iload_n 1, 1) := by decide +kernel
theorem dX6_stretch_30 : decode cX6_stretch 30 = .ok (.invokevirtual 112, 3) := by decide +kernel
theorem dX6_stretch_33 : decode cX6_stretch 33 = .ok (.if_icmp .le 7, 3) := by decide +kernel
theorem dX6_stretch_36 : decode cX6_stretch 36 = .ok (.iconst 3, 1) := by decide +kernel
theorem dX6_stretch_37 : decode cX6_stretch 37 = .ok (.goto 4, 3) := by decide +kernel
theorem dX6_stretch_40 : decode cX6_stretch 40 = .ok (.iconst 0, 1) := by decide +kernel
theorem dX6_stretch_41 : decode cX6_stretch 41 = .ok (.invokevirtual 81, 3) := by decide +kernel
theorem dX6_stretch_44 : decode cX6_stretch 44 = .ok (.ifCond .ne 5, 3) := by decide +kernel
theorem dX6_stretch_47 : decode cX6_stretch 47 = .ok (.iconst 0, 1) := by decide +kernel
theorem dX6_stretch_48 : decode cX6_stretch 48 = .ok (.ireturn, 1) := by decide +kernel
theorem dX6_stretch_49 : decode cX6_stretch 49 = .ok (.aload_n 0, 1) := by decide +kernel
theorem dX6_stretch_50 : decode cX6_stretch 50 = .ok (.invokevirtual 84, 3) := by decide +kernel
theorem dX6_stretch_53 : decode cX6_stretch 53 = .ok (.aload_n 0, 1) := by decide +kernel
theorem dX6_stretch_54 : decode cX6_stretch 54 = .ok (.iload_n 1, 1) := by decide +kernel
theorem dX6_stretch_55 : decode cX6_stretch 55 = .ok (.invokevirtual 56, 3) := by decide +kernel
theorem dX6_stretch_58 : decode cX6_stretch 58 = .ok (.aload_n 0, 1) := by decide +kernel
theorem dX6_stretch_59 : decode cX6_stretch 59 = .ok (.iload_n 1, 1) := by decide +kernel
theorem dX6_stretch_60 : decode cX6_stretch 60 = .ok (.iload_n 2, 1) := by decide +kernel
theorem dX6_stretch_61 : decode cX6_stretch 61 = .ok (.invokevirtual 66, 3) := by decide +kernel
theorem dX6_stretch_64 : decode cX6_stretch 64 = .ok (.aload_n 0, 1) := by decide +kernel
theorem dX6_stretch_65 : decode cX6_stretch 65 = .ok (.iload_n 1, 1) := by decide +kernel
theorem dX6_stretch_66 : decode cX6_stretch 66 = .ok (.iconst 0, 1) := by decide +kernel
theorem dX6_stretch_67 : decode cX6_stretch 67 = .ok (.invokevirtual 116, 3) := by decide +kernel
theorem dX6_stretch_70 : decode cX6_stretch 70 = .ok (.aload_n 0, 1) := by decide +kernel
theorem dX6_stretch_71 : decode cX6_stretch 71 = .ok (.getfield 25, 3) := by decide +kernel
theorem dX6_stretch_74 : decode cX6_stretch 74 = .ok (.iconst 1, 1) := by decide +kernel
theorem dX6_stretch_75 : decode cX6_stretch 75 = .ok (.iaload, 1) := by decide +kernel
theorem dX6_stretch_76 : decode cX6_stretch 76 = .ok (.aload_n 0, 1) := by decide +kernel
theorem dX6_stretch_77 : decode cX6_stretch 77 = .ok (.getfield 7, 3) := by decide +kernel
theorem dX6_stretch_80 : decode cX6_stretch 80 = .ok (.iload_n 1, 1) := by decide +kernel
theorem dX6_stretch_81 : decode cX6_stretch 81 = .ok (.iconst 1, 1) := by decide +kernel
theorem dX6_stretch_82 : decode cX6_stretch 82 = .ok (.invokestatic 36, 3) := by decide +kernel
theorem dX6_stretch_85 : decode cX6_stretch 85 = .ok (.iaload, 1) := by decide +kernel
theorem dX6_stretch_86 : decode cX6_stretch 86 = .ok (.isub, 1) := by decide +kernel
theorem dX6_stretch_87 : decode cX6_stretch 87 = .ok (.ireturn, 1) := by decide +kernel
theorem dX6_cut_0 : decode cX6_cut 0 = .ok (.aload_n 0, 1) := by decide +kernel
theorem dX6_cut_1 : decode cX6_cut 1 = .ok (.iload_n 1, 1) := by decide +kernel
theorem dX6_cut_2 : decode cX6_cut 2 = .ok (.invokevirtual 90, 3) := by decide +kernel
theorem dX6_cut_5 : decode cX6_cut 5 = .ok (.istore_n 3, 1) := by decide +kernel
theorem dX6_cut_6 : decode cX6_cut 6 = .ok (.aload_n 0, 1) := by decide +kernel
theorem dX6_cut_7 : decode cX6_cut 7 = .ok (.iload_n 3, 1) := by decide +kernel
theorem dX6_cut_8 : decode cX6_cut 8 = .ok (.ifCond .ne 7, 3) := by decide +kernel
theorem dX6_cut_11 : decode cX6_cut 11 = .ok (.iconst 1, 1) := by decide +kernel
theorem dX6_cut_12 : decode cX6_cut 12 = .ok (.goto 43, 3) := by decide +kernel
theorem dX6_cut_15 : decode cX6_cut 15 = .ok (.iload_n 2, 1) := by decide +kernel
theorem dX6_cut_16 : decode cX6_cut 16 = .ok (.iconst 1, 1) := by decide +kernel
theorem dX6_cut_17 : decode cX6_cut 17 = .ok (.aload_n 0, 1) := by decide +kernel
theorem dX6_cut_18 : decode cX6_cut 18 = .ok (.getfield 7, 3) := by decide +kernel
theorem dX6_cut_21 : decode cX6_cut 21 = .ok (.iload_n 1, 1) := by decide +kernel
theorem dX6_cut_22 : decode cX6_cut 22 = .ok (.iconst 0, 1) := by decide +kernel
theorem dX6_cut_23 : decode cX6_cut 23 = .ok (.invokestatic 36, 3) := by decide +kernel
theorem dX6_cut_26 : decode cX6_cut 26 = .ok (.iaload, 1) := by decide +kernel
theorem dX6_cut_27 : decode cX6_cut 27 = .ok (.iconst 1, 1) := by decide +kernel
theorem dX6_cut_28 : decode cX6_cut 28 = .ok (.isub, 1) := by decide +kernel
theorem dX6_cut_29 : decode cX6_cut 29 = .ok (.invokestatic 32, 3) := by decide +kernel
theorem dX6_cut_32 : decode cX6_cut 32 = .ok (.ifCond .ne 7, 3) := by decide +kernel
theorem dX6_cut_35 : decode cX6_cut 35 = .ok (.iconst 2, 1) := by decide +kernel
theorem dX6_cut_36 : decode cX6_cut 36 = .ok (.goto 19, 3) := by decide +kernel
theorem dX6_cut_39 : decode cX6_cut 39 = .ok (.aload_n 0, 1) := by decide +kernel
theorem dX6_cut_40 : decode cX6_cut 40 = .ok (.getfield 7, 3) := by decide +kernel
theorem dX6_cut_43 : decode cX6_cut 43 = .ok (.bipush 8, 2) := by decide +kernel
theorem dX6_cut_45 : decode cX6_cut 45 = .ok (.iaload, 1) := by decide +kernel
theorem dX6_cut_46 : decode cX6_cut 46 = .ok (.iconst 4, 1) := by decide +kernel
theorem dX6_cut_47 : decode cX6_cut 47 = .ok (.if_icmp .ne 7, 3) := by decide +kernel
theorem dX6_cut_50 : decode cX6_cut 50 = .ok (.iconst 3, 1) := by decide +kernel
theorem dX6_cut_51 : decode cX6_cut 51 = .ok (.goto 4, 3) := by decide +kernel
theorem dX6_cut_54 : decode cX6_cut 54 = .ok (.iconst 0, 1) := by decide +kernel
theorem dX6_cut_55 : decode cX6_cut 55 = .ok (.invokevirtual 81, 3) := by decide +kernel
theorem dX6_cut_58 : decode cX6_cut 58 = .ok (.ifCond .ne 5, 3) := by decide +kernel
theorem dX6_cut_61 : decode cX6_cut 61 = .ok (.iconst 0, 1) := by decide +kernel
theorem dX6_cut_62 : decode cX6_cut 62 = .ok (.ireturn, 1) := by decide +kernel
theorem dX6_cut_63 : decode cX6_cut 63 = .ok (.aload_n 0, 1) := by decide +kernel
theorem dX6_cut_64 : decode cX6_cut 64 = .ok (.invokevirtual 84, 3) := by decide +kernel
theorem dX6_cut_67 : decode cX6_cut 67 = .ok (.aload_n 0, 1) := by decide +kernel
theorem dX6_cut_68 : decode cX6_cut 68 = .ok (.iload_n 1, 1) := by decide +kernel
theorem dX6_cut_69 : decode cX6_cut 69 = .ok (.invokevirtual 56, 3) := by decide +kernel
theorem dX6_cut_72 : decode cX6_cut 72 = .ok (.aload_n 0, 1) := by decide +kernel
theorem dX6_cut_73 : decode cX6_cut 73 = .ok (.aload_n 0, 1) := by decide +kernel
theorem dX6_cut_74 : decode cX6_cut 74 = .ok (.getfield 25, 3) := by decide +kernel
theorem dX6_cut_77 : decode cX6_cut 77 = .ok (.iconst 0, 1) := by decide +kernel
theorem dX6_cut_78 : decode cX6_cut 78 = .ok (.iaload, 1) := by decide +kernel
theorem dX6_cut_79 : decode cX6_cut 79 = .ok (.iload_n 2, 1) := by decide +kernel
theorem dX6_cut_80 : decode cX6_cut 80 = .ok (.isub, 1) := by decide +kernel
theorem dX6_cut_81 : decode cX6_cut 81 = .ok (.invokevirtual 87, 3) := by decide +kernel
theorem dX6_cut_84 : decode cX6_cut 84 = .ok (.aload_n 0, 1) := by decide +kernel
theorem dX6_cut_85 : decode cX6_cut 85 = .ok (.aload_n 0, 1) := by decide +kernel
theorem dX6_cut_86 : decode cX6_cut 86 = .ok (.getfield 7, 3) := by decide +kernel
theorem dX6_cut_89 : decode cX6_cut 89 = .ok (.bipush 8, 2) := by decide +kernel
theorem dX6_cut_91 : decode cX6_cut 91 = .ok (.iaload, 1) := by decide +kernel
theorem dX6_cut_92 : decode cX6_cut 92 = .ok (.iconst 1, 1) := by decide +kernel
theorem dX6_cut_93 : decode cX6_cut 93 = .ok (.isub, 1) := by decide +kernel
theorem dX6_cut_94 : decode cX6_cut 94 = .ok (.iload_n 2, 1) := by decide +kernel
theorem dX6_cut_95 : decode cX6_cut 95 = .ok (.invokevirtual 116, 3) := by decide +kernel
theorem dX6_cut_98 : decode cX6_cut 98 = .ok (.aload_n 0, 1) := by decide +kernel
theorem dX6_cut_99 : decode cX6_cut 99 = .ok (.iload_n 1, 1) := by decide +kernel
theorem dX6_cut_100 : decode cX6_cut 100 = .ok (.iload_n 2, 1) := by decide +kernel
theorem dX6_cut_101 : decode cX6_cut 101 = .ok (.invokevirtual 66, 3) := by decide +kernel
theorem dX6_cut_104 : decode cX6_cut 104 = .ok (.aload_n 0, 1) := by decide +kernel
theorem dX6_cut_105 : decode cX6_cut 105 = .ok (.iload_n 1, 1) := by decide +kernel
theorem dX6_cut_106 : decode cX6_cut 106 = .ok (.iconst 0, 1) := by decide +kernel
theorem dX6_cut_107 : decode cX6_cut 107 = .ok (.invokevirtual 116, 3) := by decide +kernel
theorem dX6_cut_110 : decode cX6_cut 110 = .ok (.aload_n 0, 1) := by decide +kernel
theorem dX6_cut_111 : decode cX6_cut 111 = .ok (.getfield 7, 3) := by decide +kernel
theorem dX6_cut_114 : decode cX6_cut 114 = .ok (.bipush 11, 2) := by decide +kernel
theorem dX6_cut_116 : decode cX6_cut 116 = .ok (.dup2, 1) := by decide +kernel
theorem dX6_cut_117 : decode cX6_cut 117 = .ok (.iaload, 1) := by decide +kernel
theorem dX6_cut_118 : decode cX6_cut 118 = .ok (.iconst 1, 1) := by decide +kernel
theorem dX6_cut_119 : decode cX6_cut 119 = .ok (.iadd, 1) := by decide +kernel
theorem dX6_cut_120 : decode cX6_cut 120 = .ok (.iastore, 1) := by decide +kernel
theorem dX6_cut_121 : decode cX6_cut 121 = .ok (.aload_n 0, 1) := by decide +kernel
theorem dX6_cut_122 : decode cX6_cut 122 = .ok (.getfield 7, 3) := by decide +kernel
theorem dX6_cut_125 : decode cX6_cut 125 = .ok (.bipush 8, 2) := by decide +kernel
theorem dX6_cut_127 : decode cX6_cut 127 = .ok (.iaload, 1) := by decide +kernel
theorem dX6_cut_128 : decode cX6_cut 128 = .ok (.iconst 1, 1) := by decide +kernel
theorem dX6_cut_129 : decode cX6_cut 129 = .ok (.isub, 1) := by decide +kernel
theorem dX6_cut_130 : decode cX6_cut 130 = .ok (.ireturn, 1) := by decide +kernel
theorem dX6_turn_0 : decode cX6_turn 0 = .ok (.aload_n 0, 1) := by decide +kernel
theorem dX6_turn_1 : decode cX6_turn 1 = .ok (.aload_n 0, 1) := by decide +kernel
theorem dX6_turn_2 : decode cX6_turn 2 = .ok (.iload_n 1, 1) := by decide +kernel
theorem dX6_turn_3 : decode cX6_turn 3 = .ok (.invokevirtual 90, 3) := by decide +kernel
theorem dX6_turn_6 : decode cX6_turn 6 = .ok (.ifCond .eq 7, 3) := by decide +kernel
theorem dX6_turn_9 : decode cX6_turn 9 = .ok (.iconst 0, 1) := by decide +kernel
theorem dX6_turn_10 : decode cX6_turn 10 = .ok (.goto 4, 3) := by decide +kernel
theorem dX6_turn_13 : decode cX6_turn 13 = .ok (.iconst 1, 1) := by decide +kernel
theorem dX6_turn_14 : decode cX6_turn 14 = .ok (.invokevirtual 81, 3) := by decide +kernel
theorem dX6_turn_17 : decode cX6_turn 17 = .ok (.ifCond .ne 5, 3) := by decide +kernel
theorem dX6_turn_20 : decode cX6_turn 20 = .ok (.iconst 0, 1) := by decide +kernel
theorem dX6_turn_21 : decode cX6_turn 21 = .ok (.ireturn, 1) := by decide +kernel
theorem dX6_turn_22 : decode cX6_turn 22 = .ok (.aload_n 0, 1) := by decide +kernel
theorem dX6_turn_23 : decode cX6_turn 23 = .ok (.invokevirtual 84, 3) := by decide +kernel
theorem dX6_turn_26 : decode cX6_turn 26 = .ok (.aload_n 0, 1) := by decide +kernel
theorem dX6_turn_27 : decode cX6_turn 27 = .ok (.iload_n 1, 1) := by decide +kernel
theorem dX6_turn_28 : decode cX6_turn 28 = .ok (.invokevirtual 119, 3) := by decide +kernel
theorem dX6_turn_31 : decode cX6_turn 31 = .ok (.istore_n 2, 1) := by decide +kernel
theorem dX6_turn_32 : decode cX6_turn 32 = .ok (.aload_n 0, 1) := by decide +kernel
theorem dX6_turn_33 : decode cX6_turn 33 = .ok (.iload_n 1, 1) := by decide +kernel
theorem dX6_turn_34 : decode cX6_turn 34 = .ok (.invokevirtual 122, 3) := by decide +kernel
theorem dX6_turn_37 : decode cX6_turn 37 = .ok (.iload_n 2, 1) := by decide +kernel
theorem dX6_turn_38 : decode cX6_turn 38 = .ok (.ireturn, 1) := by decide +kernel
theorem dX6_phaseBehind_0 : decode cX6_phaseBehind 0 = .ok (.aload_n 0, 1) := by decide +kernel
theorem dX6_phaseBehind_1 : decode cX6_phaseBehind 1 = .ok (.getfield 7, 3) := by decide +kernel
theorem dX6_phaseBehind_4 : decode cX6_phaseBehind 4 = .ok (.iload_n 1, 1) := by decide +kernel
theorem dX6_phaseBehind_5 : decode cX6_phaseBehind 5 = .ok (.iconst 0, 1) := by decide +kernel
theorem dX6_phaseBehind_6 : decode cX6_phaseBehind 6 = .ok (.invokestatic 36, 3) := by decide +kernel
theorem dX6_phaseBehind_9 : decode cX6_phaseBehind 9 = .ok (.iaload, 1) := by decide +kernel
theorem dX6_phaseBehind_10 : decode cX6_phaseBehind 10 = .ok (.aload_n 0, 1) := by decide +kernel
theorem dX6_phaseBehind_11 : decode cX6_phaseBehind 11 = .ok (.iload_n 2, 1) := by decide +kernel
theorem dX6_phaseBehind_12 : decode cX6_phaseBehind 12 = .ok (.iload_n 3, 1) := by decide +kernel
theorem dX6_phaseBehind_13 : decode cX6_phaseBehind 13 = .ok (.invokevirtual 40, 3) := by decide +kernel
theorem dX6_phaseBehind_16 : decode cX6_phaseBehind 16 = .ok (.iadd, 1) := by decide +kernel
theorem dX6_phaseBehind_17 : decode cX6_phaseBehind 17 = .ok (.aload_n 0, 1) := by decide +kernel
theorem dX6_phaseBehind_18 : decode cX6_phaseBehind 18 = .ok (.getfield 7, 3) := by decide +kernel
theorem dX6_phaseBehind_21 : decode cX6_phaseBehind 21 = .ok (.iconst 0, 1) := by decide +kernel
theorem dX6_phaseBehind_22 : decode cX6_phaseBehind 22 = .ok (.iload_n 3, 1) := by decide +kernel
theorem dX6_phaseBehind_23 : decode cX6_phaseBehind 23 = .ok (.iadd, 1) := by decide +kernel
theorem dX6_phaseBehind_24 : decode cX6_phaseBehind 24 = .ok (.iaload, 1) := by decide +kernel
theorem dX6_phaseBehind_25 : decode cX6_phaseBehind 25 = .ok (.irem, 1) := by decide +kernel
theorem dX6_phaseBehind_26 : decode cX6_phaseBehind 26 = .ok (.ireturn, 1) := by decide +kernel
theorem dX6_joinsWith_0 : decode cX6_joinsWith 0 = .ok (.iconst 0, 1) := by decide +kernel
theorem dX6_joinsWith_1 : decode cX6_joinsWith 1 = .ok (.istore_n 3, 1) := by decide +kernel
theorem dX6_joinsWith_2 : decode cX6_joinsWith 2 = .ok (.iload_n 3, 1) := by decide +kernel
theorem dX6_joinsWith_3 : decode cX6_joinsWith 3 = .ok (.aload_n 0, 1) := by decide +kernel
theorem dX6_joinsWith_4 : decode cX6_joinsWith 4 = .ok (.getfield 7, 3) := by decide +kernel
theorem dX6_joinsWith_7 : decode cX6_joinsWith 7 = .ok (.iload_n 2, 1) := by decide +kernel
theorem dX6_joinsWith_8 : decode cX6_joinsWith 8 = .ok (.iconst 1, 1) := by decide +kernel
theorem dX6_joinsWith_9 : decode cX6_joinsWith 9 = .ok (.invokestatic 36, 3) := by decide +kernel
theorem dX6_joinsWith_12 : decode cX6_joinsWith 12 = .ok (.iaload, 1) := by decide +kernel
theorem dX6_joinsWith_13 : decode cX6_joinsWith 13 = .ok (.if_icmp .ge 48, 3) := by decide +kernel
theorem dX6_joinsWith_16 : decode cX6_joinsWith 16 = .ok (.aload_n 0, 1) := by decide +kernel
theorem dX6_joinsWith_17 : decode cX6_joinsWith 17 = .ok (.getfield 7, 3) := by decide +kernel
theorem dX6_joinsWith_20 : decode cX6_joinsWith 20 = .ok (.iload_n 2, 1) := by decide +kernel
theorem dX6_joinsWith_21 : decode cX6_joinsWith 21 = .ok (.iconst 2, 1) := by decide +kernel
theorem dX6_joinsWith_22 : decode cX6_joinsWith 22 = .ok (.iload_n 3, 1) := by decide +kernel
theorem dX6_joinsWith_23 : decode cX6_joinsWith 23 = .ok (.iadd, 1) := by decide +kernel
theorem dX6_joinsWith_24 : decode cX6_joinsWith 24 = .ok (.invokestatic 36, 3) := by decide +kernel
theorem dX6_joinsWith_27 : decode cX6_joinsWith 27 = .ok (.iaload, 1) := by decide +kernel
theorem dX6_joinsWith_28 : decode cX6_joinsWith 28 = .ok (.istore 4, 2) := by decide +kernel
theorem dX6_joinsWith_30 : decode cX6_joinsWith 30 = .ok (.aload_n 0, 1) := by decide +kernel
theorem dX6_joinsWith_31 : decode cX6_joinsWith 31 = .ok (.iload_n 1, 1) := by decide +kernel
theorem dX6_joinsWith_32 : decode cX6_joinsWith 32 = .ok (.iload 4, 2) := by decide +kernel
theorem dX6_joinsWith_34 : decode cX6_joinsWith 34 = .ok (.invokevirtual 70, 3) := by decide +kernel
theorem dX6_joinsWith_37 : decode cX6_joinsWith 37 = .ok (.ifCond .ne 18, 3) := by decide +kernel
theorem dX6_joinsWith_40 : decode cX6_joinsWith 40 = .ok (.aload_n 0, 1) := by decide +kernel
theorem dX6_joinsWith_41 : decode cX6_joinsWith 41 = .ok (.iload_n 1, 1) := by decide +kernel
theorem dX6_joinsWith_42 : decode cX6_joinsWith 42 = .ok (.iload 4, 2) := by decide +kernel
theorem dX6_joinsWith_44 : decode cX6_joinsWith 44 = .ok (.aload_n 0, 1) := by decide +kernel
theorem dX6_joinsWith_45 : decode cX6_joinsWith 45 = .ok (.iload_n 1, 1) := by decide +kernel
theorem dX6_joinsWith_46 : decode cX6_joinsWith 46 = .ok (.iload_n 2, 1) := by decide +kernel
theorem dX6_joinsWith_47 : decode cX6_joinsWith 47 = .ok (.iload 4, 2) := by decide +kernel
theorem dX6_joinsWith_49 : decode cX6_joinsWith 49 = .ok (.invokevirtual 125, 3) := by decide +kernel
theorem dX6_joinsWith_52 : decode cX6_joinsWith 52 = .ok (.invokevirtual 52, 3) := by decide +kernel
theorem dX6_joinsWith_55 : decode cX6_joinsWith 55 = .ok (.iinc 3 1, 3) := by decide +kernel
theorem dX6_joinsWith_58 : decode cX6_joinsWith 58 = .ok (.goto (-56), 3) := by decide +kernel
theorem dX6_joinsWith_61 : decode cX6_joinsWith 61 = .ok (.aload_n 0, 1) := by decide +kernel
theorem dX6_joinsWith_62 : decode cX6_joinsWith 62 = .ok (.getfield 7, 3) := by decide +kernel
theorem dX6_joinsWith_65 : decode cX6_joinsWith 65 = .ok (.iload_n 1, 1) := by decide +kernel
theorem dX6_joinsWith_66 : decode cX6_joinsWith 66 = .ok (.iconst 0, 1) := by decide +kernel
theorem dX6_joinsWith_67 : decode cX6_joinsWith 67 = .ok (.invokestatic 36, 3) := by decide +kernel
theorem dX6_joinsWith_70 : decode cX6_joinsWith 70 = .ok (.dup2, 1) := by decide +kernel
theorem dX6_joinsWith_71 : decode cX6_joinsWith 71 = .ok (.iaload, 1) := by decide +kernel
theorem dX6_joinsWith_72 : decode cX6_joinsWith 72 = .ok (.aload_n 0, 1) := by decide +kernel
theorem dX6_joinsWith_73 : decode cX6_joinsWith 73 = .ok (.getfield 7, 3) := by decide +kernel
theorem dX6_joinsWith_76 : decode cX6_joinsWith 76 = .ok (.iload_n 2, 1) := by decide +kernel
theorem dX6_joinsWith_77 : decode cX6_joinsWith 77 = .ok (.iconst 0, 1) := by decide +kernel
theorem dX6_joinsWith_78 : decode cX6_joinsWith 78 = .ok (.invokestatic 36, 3) := by decide +kernel
theorem dX6_joinsWith_81 : decode cX6_joinsWith 81 = .ok (.iaload, 1) := by decide +kernel
theorem dX6_joinsWith_82 : decode cX6_joinsWith 82 = .ok (.iadd, 1) := by decide +kernel
theorem dX6_joinsWith_83 : decode cX6_joinsWith 83 = .ok (.iastore, 1) := by decide +kernel
theorem dX6_joinsWith_84 : decode cX6_joinsWith 84 = .ok (.return_, 1) := by decide +kernel
theorem dX6_whyNotJoined_0 : decode cX6_whyNotJoined 0 = .ok (.aload_n 0, 1) := by decide +kernel
theorem dX6_whyNotJoined_1 : decode cX6_whyNotJoined 1 = .ok (.getfield 7, 3) := by decide +kernel
theorem dX6_whyNotJoined_4 : decode cX6_whyNotJoined 4 = .ok (.iload_n 1, 1) := by decide +kernel
theorem dX6_whyNotJoined_5 : decode cX6_whyNotJoined 5 = .ok (.iconst 0, 1) := by decide +kernel
theorem dX6_whyNotJoined_6 : decode cX6_whyNotJoined 6 = .ok (.invokestatic 36, 3) := by decide +kernel
theorem dX6_whyNotJoined_9 : decode cX6_whyNotJoined 9 = .ok (.iaload, 1) := by decide +kernel
theorem dX6_whyNotJoined_10 : decode cX6_whyNotJoined 10 = .ok (.aload_n 0, 1) := by decide +kernel
theorem dX6_whyNotJoined_11 : decode cX6_whyNotJoined 11 = .ok (.getfield 7, 3) := by decide +kernel
theorem dX6_whyNotJoined_14 : decode cX6_whyNotJoined 14 = .ok (.iload_n 2, 1) := by decide +kernel
theorem dX6_whyNotJoined_15 : decode cX6_whyNotJoined 15 = .ok (.iconst 0, 1) := by decide +kernel
theorem dX6_whyNotJoined_16 : decode cX6_whyNotJoined 16 = .ok (.invokestatic 36, 3) := by decide +kernel
theorem dX6_whyNotJoined_19 : decode cX6_whyNotJoined 19 = .ok (.iaload, 1) := by decide +kernel
theorem dX6_whyNotJoined_20 : decode cX6_whyNotJoined 20 = .ok (.iadd, 1) := by decide +kernel
theorem dX6_whyNotJoined_21 : decode cX6_whyNotJoined 21 = .ok (.istore_n 3, 1) := by decide +kernel
theorem dX6_whyNotJoined_22 : decode cX6_whyNotJoined 22 = .ok (.iload_n 1, 1) := by decide +kernel
theorem dX6_whyNotJoined_23 : decode cX6_whyNotJoined 23 = .ok (.iload_n 2, 1) := by decide +kernel
theorem dX6_whyNotJoined_24 : decode cX6_whyNotJoined 24 = .ok (.if_icmp .eq 9, 3) := by decide +kernel
theorem dX6_whyNotJoined_27 : decode cX6_whyNotJoined 27 = .ok (.iload_n 3, 1) := by decide +kernel
theorem dX6_whyNotJoined_28 : decode cX6_whyNotJoined 28 = .ok (.bipush 60, 2) := by decide +kernel
theorem dX6_whyNotJoined_30 : decode cX6_whyNotJoined 30 = .ok (.if_icmp .le 14, 3) := by decide +kernel
theorem dX6_whyNotJoined_33 : decode cX6_whyNotJoined 33 = .ok (.iload_n 1, 1) := by decide +kernel
theorem dX6_whyNotJoined_34 : decode cX6_whyNotJoined 34 = .ok (.iload_n 2, 1) := by decide +kernel
theorem dX6_whyNotJoined_35 : decode cX6_whyNotJoined 35 = .ok (.if_icmp .ne 7, 3) := by decide +kernel
theorem dX6_whyNotJoined_38 : decode cX6_whyNotJoined 38 = .ok (.iconst 1, 1) := by decide +kernel
theorem dX6_whyNotJoined_39 : decode cX6_whyNotJoined 39 = .ok (.goto 4, 3) := by decide +kernel
theorem dX6_whyNotJoined_42 : decode cX6_whyNotJoined 42 = .ok (.iconst 2, 1) := by decide +kernel
theorem dX6_whyNotJoined_43 : decode cX6_whyNotJoined 43 = .ok (.ireturn, 1) := by decide +kernel
theorem dX6_whyNotJoined_44 : decode cX6_whyNotJoined 44 = .ok (.iconst 1, 1) := by decide +kernel
theorem dX6_whyNotJoined_45 : decode cX6_whyNotJoined 45 = .ok (.istore 4, 2) := by decide +kernel
theorem dX6_whyNotJoined_47 : decode cX6_whyNotJoined 47 = .ok (.iconst 0, 1) := by decide +kernel
theorem dX6_whyNotJoined_48 : decode cX6_whyNotJoined 48 = .ok (.istore 5, 2) := by decide +kernel
theorem dX6_whyNotJoined_50 : decode cX6_whyNotJoined 50 = .ok (.iload 5, 2) := by decide +kernel
theorem dX6_whyNotJoined_52 : decode cX6_whyNotJoined 52 = .ok (.bipush 8, 2) := by decide +kernel
theorem dX6_whyNotJoined_54 : decode cX6_whyNotJoined 54 = .ok (.if_icmp .ge 59, 3) := by decide +kernel
theorem dX6_whyNotJoined_57 : decode cX6_whyNotJoined 57 = .ok (.iload 4, 2) := by decide +kernel
theorem dX6_whyNotJoined_59 : decode cX6_whyNotJoined 59 = .ok (.ifCond .eq 45, 3) := by decide +kernel
theorem dX6_whyNotJoined_62 : decode cX6_whyNotJoined 62 = .ok (.aload_n 0, 1) := by decide +kernel
theorem dX6_whyNotJoined_63 : decode cX6_whyNotJoined 63 = .ok (.iload_n 1, 1) := by decide +kernel
theorem dX6_whyNotJoined_64 : decode cX6_whyNotJoined 64 = .ok (.iload 5, 2) := by decide +kernel
theorem dX6_whyNotJoined_66 : decode cX6_whyNotJoined 66 = .ok (.invokevirtual 70, 3) := by decide +kernel
theorem dX6_whyNotJoined_69 : decode cX6_whyNotJoined 69 = .ok (.ifCond .eq 31, 3) := by decide +kernel
theorem dX6_whyNotJoined_72 : decode cX6_whyNotJoined 72 = .ok (.aload_n 0, 1) := by decide +kernel
theorem dX6_whyNotJoined_73 : decode cX6_whyNotJoined 73 = .ok (.iload_n 2, 1) := by decide +kernel
theorem dX6_whyNotJoined_74 : decode cX6_whyNotJoined 74 = .ok (.iload 5, 2) := by decide +kernel
theorem dX6_whyNotJoined_76 : decode cX6_whyNotJoined 76 = .ok (.invokevirtual 70, 3) := by decide +kernel
theorem dX6_whyNotJoined_79 : decode cX6_whyNotJoined 79 = .ok (.ifCond .eq 21, 3) := by decide +kernel
theorem dX6_whyNotJoined_82 : decode cX6_whyNotJoined 82 = .ok (.aload_n 0, 1) := by decide +kernel
theorem dX6_whyNotJoined_83 : decode cX6_whyNotJoined 83 = .ok (.iload_n 1, 1) := by decide +kernel
theorem dX6_whyNotJoined_84 : decode cX6_whyNotJoined 84 = .ok (.iload 5, 2) := by decide +kernel
theorem dX6_whyNotJoined_86 : decode cX6_whyNotJoined 86 = .ok (.invokevirtual 40, 3) := by decide +kernel
theorem dX6_whyNotJoined_89 : decode cX6_whyNotJoined 89 = .ok (.aload_n 0, 1) := by decide +kernel
theorem dX6_whyNotJoined_90 : decode cX6_whyNotJoined 90 = .ok (.iload_n 1, 1) := by decide +kernel
theorem dX6_whyNotJoined_91 : decode cX6_whyNotJoined 91 = .ok (.iload_n 2, 1) := by decide +kernel
theorem dX6_whyNotJoined_92 : decode cX6_whyNotJoined 92 = .ok (.iload 5, 2) := by decide +kernel
theorem dX6_whyNotJoined_94 : decode cX6_whyNotJoined 94 = .ok (.invokevirtual 125, 3) := by decide +kernel
theorem dX6_whyNotJoined_97 : decode cX6_whyNotJoined 97 = .ok (.if_icmp .ne 7, 3) := by decide +kernel
theorem dX6_whyNotJoined_100 : decode cX6_whyNotJoined 100 = .ok (.iconst 1, 1) := by decide +kernel
theorem dX6_whyNotJoined_101 : decode cX6_whyNotJoined 101 = .ok (.goto 4, 3) := by decide +kernel
theorem dX6_whyNotJoined_104 : decode cX6_whyNotJoined 104 = .ok (.iconst 0, 1) := by decide +kernel
theorem dX6_whyNotJoined_105 : decode cX6_whyNotJoined 105 = .ok (.istore 4, 2) := by decide +kernel
theorem dX6_whyNotJoined_107 : decode cX6_whyNotJoined 107 = .ok (.iinc 5 1, 3) := by decide +kernel
theorem dX6_whyNotJoined_110 : decode cX6_whyNotJoined 110 = .ok (.goto (-60), 3) := by decide +kernel
theorem dX6_whyNotJoined_113 : decode cX6_whyNotJoined 113 = .ok (.iload 4, 2) := by decide +kernel
theorem dX6_whyNotJoined_115 : decode cX6_whyNotJoined 115 = .ok (.ifCond .ne 5, 3) := by decide +kernel
theorem dX6_whyNotJoined_118 : decode cX6_whyNotJoined 118 = .ok (.iconst 3, 1) := by decide +kernel
theorem dX6_whyNotJoined_119 : decode cX6_whyNotJoined 119 = .ok (.ireturn, 1) := by decide +kernel
theorem dX6_whyNotJoined_120 : decode cX6_whyNotJoined 120 = .ok (.aload_n 0, 1) := by decide +kernel
theorem dX6_whyNotJoined_121 : decode cX6_whyNotJoined 121 = .ok (.invokevirtual 128, 3) := by decide +kernel
theorem dX6_whyNotJoined_124 : decode cX6_whyNotJoined 124 = .ok (.aload_n 0, 1) := by decide +kernel
theorem dX6_whyNotJoined_125 : decode cX6_whyNotJoined 125 = .ok (.iload_n 1, 1) := by decide +kernel
theorem dX6_whyNotJoined_126 : decode cX6_whyNotJoined 126 = .ok (.iload_n 2, 1) := by decide +kernel
theorem dX6_whyNotJoined_127 : decode cX6_whyNotJoined 127 = .ok (.invokevirtual 131, 3) := by decide +kernel
theorem dX6_whyNotJoined_130 : decode cX6_whyNotJoined 130 = .ok (.aload_n 0, 1) := by decide +kernel
theorem dX6_whyNotJoined_131 : decode cX6_whyNotJoined 131 = .ok (.iload_n 1, 1) := by decide +kernel
theorem dX6_whyNotJoined_132 : decode cX6_whyNotJoined 132 = .ok (.invokevirtual 112, 3) := by decide +kernel
theorem dX6_whyNotJoined_135 : decode cX6_whyNotJoined 135 = .ok (.iload_n 3, 1) := by decide +kernel
theorem dX6_whyNotJoined_136 : decode cX6_whyNotJoined 136 = .ok (.if_icmp .ge 7, 3) := by decide +kernel
theorem dX6_whyNotJoined_139 : decode cX6_whyNotJoined 139 = .ok (.iconst 1, 1) := by decide +kernel
theorem dX6_whyNotJoined_140 : decode cX6_whyNotJoined 140 = .ok (.goto 4, 3) := by decide +kernel
theorem dX6_whyNotJoined_143 : decode cX6_whyNotJoined 143 = .ok (.iconst 0, 1) := by decide +kernel
theorem dX6_whyNotJoined_144 : decode cX6_whyNotJoined 144 = .ok (.istore 5, 2) := by decide +kernel
theorem dX6_whyNotJoined_146 : decode cX6_whyNotJoined 146 = .ok (.aload_n 0, 1) := by decide +kernel
theorem dX6_whyNotJoined_147 : decode cX6_whyNotJoined 147 = .ok (.invokevirtual 134, 3) := by decide +kernel
theorem dX6_whyNotJoined_150 : decode cX6_whyNotJoined 150 = .ok (.iload 5, 2) := by decide +kernel
theorem dX6_whyNotJoined_152 : decode cX6_whyNotJoined 152 = .ok (.ifCond .eq 7, 3) := by decide +kernel
theorem dX6_whyNotJoined_155 : decode cX6_whyNotJoined 155 = .ok (.iconst 4, 1) := by decide +kernel
theorem dX6_whyNotJoined_156 : decode cX6_whyNotJoined 156 = .ok (.goto 4, 3) := by decide +kernel
theorem dX6_whyNotJoined_159 : decode cX6_whyNotJoined 159 = .ok (.iconst 0, 1) := by decide +kernel
theorem dX6_whyNotJoined_160 : decode cX6_whyNotJoined 160 = .ok (.ireturn, 1) := by decide +kernel
theorem dX6_join_0 : decode cX6_join 0 = .ok (.aload_n 0, 1) := by decide +kernel
theorem dX6_join_1 : decode cX6_join 1 = .ok (.aload_n 0, 1) := by decide +kernel
theorem dX6_join_2 : decode cX6_join 2 = .ok (.iload_n 1, 1) := by decide +kernel
theorem dX6_join_3 : decode cX6_join 3 = .ok (.invokevirtual 90, 3) := by decide +kernel
theorem dX6_join_6 : decode cX6_join 6 = .ok (.ifCond .eq 11, 3) := by decide +kernel
theorem dX6_join_9 : decode cX6_join 9 = .ok (.aload_n 0, 1) := by decide +kernel
theorem dX6_join_10 : decode cX6_join 10 = .ok (.iload_n 2, 1) := by decide +kernel
theorem dX6_join_11 : decode cX6_join 11 = .ok (.invokevirtual 90, 3) := by decide +kernel
theorem dX6_join_14 : decode cX6_join 14 = .ok (.ifCond .ne 7, 3) := by decide +kernel
theorem dX6_join_17 : decode cX6_join 17 = .ok (.iconst 1, 1) := by decide +kernel
theorem dX6_join_18 : decode cX6_join 18 = .ok (.goto 17, 3) := by decide +kernel
theorem dX6_join_21 : decode cX6_join 21 = .ok (.aload_n 0, 1) := by decide +kernel
theorem dX6_join_22 : decode cX6_join 22 = .ok (.iload_n 1, 1) := by decide +kernel
theorem dX6_join_23 : decode cX6_join 23 = .ok (.iload_n 2, 1) := by decide +kernel
theorem dX6_join_24 : decode cX6_join 24 = .ok (.invokevirtual 137, 3) := by decide +kernel
theorem dX6_join_27 : decode cX6_join 27 = .ok (.ifCond .le 7, 3) := by decide +kernel
theorem dX6_join_30 : decode cX6_join 30 = .ok (.iconst 2, 1) := by decide +kernel
theorem dX6_join_31 : decode cX6_join 31 = .ok (.goto 4, 3) := by decide +kernel
theorem dX6_join_34 : decode cX6_join 34 = .ok (.iconst 0, 1) := by decide +kernel
theorem dX6_join_35 : decode cX6_join 35 = .ok (.invokevirtual 81, 3) := by decide +kernel
theorem dX6_join_38 : decode cX6_join 38 = .ok (.ifCond .ne 5, 3) := by decide +kernel
theorem dX6_join_41 : decode cX6_join 41 = .ok (.iconst 0, 1) := by decide +kernel
theorem dX6_join_42 : decode cX6_join 42 = .ok (.ireturn, 1) := by decide +kernel
theorem dX6_join_43 : decode cX6_join 43 = .ok (.aload_n 0, 1) := by decide +kernel
theorem dX6_join_44 : decode cX6_join 44 = .ok (.invokevirtual 84, 3) := by decide +kernel
theorem dX6_join_47 : decode cX6_join 47 = .ok (.aload_n 0, 1) := by decide +kernel
theorem dX6_join_48 : decode cX6_join 48 = .ok (.iload_n 1, 1) := by decide +kernel
theorem dX6_join_49 : decode cX6_join 49 = .ok (.iload_n 2, 1) := by decide +kernel
theorem dX6_join_50 : decode cX6_join 50 = .ok (.invokevirtual 131, 3) := by decide +kernel
theorem dX6_join_53 : decode cX6_join 53 = .ok (.aload_n 0, 1) := by decide +kernel
theorem dX6_join_54 : decode cX6_join 54 = .ok (.getfield 7, 3) := by decide +kernel
theorem dX6_join_57 : decode cX6_join 57 = .ok (.iload_n 1, 1) := by decide +kernel
theorem dX6_join_58 : decode cX6_join 58 = .ok (.iconst 0, 1) := by decide +kernel
theorem dX6_join_59 : decode cX6_join 59 = .ok (.invokestatic 36, 3) := by decide +kernel
theorem dX6_join_62 : decode cX6_join 62 = .ok (.iaload, 1) := by decide +kernel
theorem dX6_join_63 : decode cX6_join 63 = .ok (.istore_n 3, 1) := by decide +kernel
theorem dX6_join_64 : decode cX6_join 64 = .ok (.aload_n 0, 1) := by decide +kernel
theorem dX6_join_65 : decode cX6_join 65 = .ok (.iload_n 2, 1) := by decide +kernel
theorem dX6_join_66 : decode cX6_join 66 = .ok (.invokevirtual 93, 3) := by decide +kernel
theorem dX6_join_69 : decode cX6_join 69 = .ok (.aload_n 0, 1) := by decide +kernel
theorem dX6_join_70 : decode cX6_join 70 = .ok (.getfield 7, 3) := by decide +kernel
theorem dX6_join_73 : decode cX6_join 73 = .ok (.bipush 10, 2) := by decide +kernel
theorem dX6_join_75 : decode cX6_join 75 = .ok (.dup2, 1) := by decide +kernel
theorem dX6_join_76 : decode cX6_join 76 = .ok (.iaload, 1) := by decide +kernel
theorem dX6_join_77 : decode cX6_join 77 = .ok (.iconst 1, 1) := by decide +kernel
theorem dX6_join_78 : decode cX6_join 78 = .ok (.iadd, 1) := by decide +kernel
theorem dX6_join_79 : decode cX6_join 79 = .ok (.iastore, 1) := by decide +kernel
theorem dX6_join_80 : decode cX6_join 80 = .ok (.iload_n 3, 1) := by decide +kernel
theorem dX6_join_81 : decode cX6_join 81 = .ok (.ireturn, 1) := by decide +kernel
theorem dX6_append_0 : decode cX6_append 0 = .ok (.aload_n 0, 1) := by decide +kernel
theorem dX6_append_1 : decode cX6_append 1 = .ok (.iload_n 1, 1) := by decide +kernel
theorem dX6_append_2 : decode cX6_append 2 = .ok (.bipush 33, 2) := by decide +kernel
theorem dX6_append_4 : decode cX6_append 4 = .ok (.bipush 126, 2) := by decide +kernel
theorem dX6_append_6 : decode cX6_append 6 = .ok (.invokestatic 32, 3) := by decide +kernel
theorem dX6_append_9 : decode cX6_append 9 = .ok (.ifCond .ne 7, 3) := by decide +kernel
theorem dX6_append_12 : decode cX6_append 12 = .ok (.iconst 1, 1) := by decide +kernel
theorem dX6_append_13 : decode cX6_append 13 = .ok (.goto 17, 3) := by decide +kernel
theorem dX6_append_16 : decode cX6_append 16 = .ok (.aload_n 0, 1) := by decide +kernel
theorem dX6_append_17 : decode cX6_append 17 = .ok (.getfield 140, 3) := by decide +kernel
theorem dX6_append_20 : decode cX6_append 20 = .ok (.bipush 60, 2) := by decide +kernel
theorem dX6_append_22 : decode cX6_append 22 = .ok (.if_icmp .ne 7, 3) := by decide +kernel
theorem dX6_append_25 : decode cX6_append 25 = .ok (.iconst 2, 1) := by decide +kernel
theorem dX6_append_26 : decode cX6_append 26 = .ok (.goto 4, 3) := by decide +kernel
theorem dX6_append_29 : decode cX6_append 29 = .ok (.iconst 0, 1) := by decide +kernel
theorem dX6_append_30 : decode cX6_append 30 = .ok (.invokevirtual 81, 3) := by decide +kernel
theorem dX6_append_33 : decode cX6_append 33 = .ok (.ifCond .ne 5, 3) := by decide +kernel
theorem dX6_append_36 : decode cX6_append 36 = .ok (.iconst 0, 1) := by decide +kernel
theorem dX6_append_37 : decode cX6_append 37 = .ok (.ireturn, 1) := by decide +kernel
theorem dX6_append_38 : decode cX6_append 38 = .ok (.aload_n 0, 1) := by decide +kernel
theorem dX6_append_39 : decode cX6_append 39 = .ok (.getfield 22, 3) := by decide +kernel
theorem dX6_append_42 : decode cX6_append 42 = .ok (.aload_n 0, 1) := by decide +kernel
theorem dX6_append_43 : decode cX6_append 43 = .ok (.getfield 140, 3) := by decide +kernel
theorem dX6_append_46 : decode cX6_append 46 = .ok (.iload_n 1, 1) := by decide +kernel
theorem dX6_append_47 : decode cX6_append 47 = .ok (.iastore, 1) := by decide +kernel
theorem dX6_append_48 : decode cX6_append 48 = .ok (.aload_n 0, 1) := by decide +kernel
theorem dX6_append_49 : decode cX6_append 49 = .ok (.dup, 1) := by decide +kernel
theorem dX6_append_50 : decode cX6_append 50 = .ok (.getfield 140, 3) := by decide +kernel
theorem dX6_append_53 : decode cX6_append 53 = .ok (.iconst 1, 1) := by decide +kernel
theorem dX6_append_54 : decode cX6_append 54 = .ok (.iadd, 1) := by decide +kernel
theorem dX6_append_55 : decode cX6_append 55 = .ok (.putfield 140, 3) := by decide +kernel
theorem dX6_append_58 : decode cX6_append 58 = .ok (.aload_n 0, 1) := by decide +kernel
theorem dX6_append_59 : decode cX6_append 59 = .ok (.getfield 140, 3) := by decide +kernel
theorem dX6_append_62 : decode cX6_append 62 = .ok (.ireturn, 1) := by decide +kernel
theorem dX6_clearBuffer_0 : decode cX6_clearBuffer 0 = .ok (.aload_n 0, 1) := by decide +kernel
theorem dX6_clearBuffer_1 : decode cX6_clearBuffer 1 = .ok (.iconst 0, 1) := by decide +kernel
theorem dX6_clearBuffer_2 : decode cX6_clearBuffer 2 = .ok (.putfield 28, 3) := by decide +kernel
theorem dX6_clearBuffer_5 : decode cX6_clearBuffer 5 = .ok (.aload_n 0, 1) := by decide +kernel
theorem dX6_clearBuffer_6 : decode cX6_clearBuffer 6 = .ok (.getfield 140, 3) := by decide +kernel
theorem dX6_clearBuffer_9 : decode cX6_clearBuffer 9 = .ok (.istore_n 1, 1) := by decide +kernel
theorem dX6_clearBuffer_10 : decode cX6_clearBuffer 10 = .ok (.aload_n 0, 1) := by decide +kernel
theorem dX6_clearBuffer_11 : decode cX6_clearBuffer 11 = .ok (.iconst 0, 1) := by decide +kernel
theorem dX6_clearBuffer_12 : decode cX6_clearBuffer 12 = .ok (.putfield 140, 3) := by decide +kernel
theorem dX6_clearBuffer_15 : decode cX6_clearBuffer 15 = .ok (.iload_n 1, 1) := by decide +kernel
theorem dX6_clearBuffer_16 : decode cX6_clearBuffer 16 = .ok (.ireturn, 1) := by decide +kernel
theorem dX6_isNext_0 : decode cX6_isNext 0 = .ok (.aload_n 0, 1) := by decide +kernel
theorem dX6_isNext_1 : decode cX6_isNext 1 = .ok (.getfield 143, 3) := by decide +kernel
theorem dX6_isNext_4 : decode cX6_isNext 4 = .ok (.ifCond .ne 35, 3) := by decide +kernel
theorem dX6_isNext_7 : decode cX6_isNext 7 = .ok (.aload_n 0, 1) := by decide +kernel
theorem dX6_isNext_8 : decode cX6_isNext 8 = .ok (.getfield 147, 3) := by decide +kernel
theorem dX6_isNext_11 : decode cX6_isNext 11 = .ok (.aload_n 0, 1) := by decide +kernel
theorem dX6_isNext_12 : decode cX6_isNext 12 = .ok (.getfield 140, 3) := by decide +kernel
theorem dX6_isNext_15 : decode cX6_isNext 15 = .ok (.if_icmp .ge 24, 3) := by decide +kernel
theorem dX6_isNext_18 : decode cX6_isNext 18 = .ok (.aload_n 0, 1) := by decide +kernel
theorem dX6_isNext_19 : decode cX6_isNext 19 = .ok (.getfield 22, 3) := by decide +kernel
theorem dX6_isNext_22 : decode cX6_isNext 22 = .ok (.aload_n 0, 1) := by decide +kernel
theorem dX6_isNext_23 : decode cX6_isNext 23 = .ok (.getfield 147, 3) := by decide +kernel
theorem dX6_isNext_26 : decode cX6_isNext 26 = .ok (.iaload, 1) := by decide +kernel
theorem dX6_isNext_27 : decode cX6_isNext 27 = .ok (.iload_n 1, 1) := by decide +kernel
theorem dX6_isNext_28 : decode cX6_isNext 28 = .ok (.iload_n 2, 1) := by decide +kernel
theorem dX6_isNext_29 : decode cX6_isNext 29 = .ok (.invokestatic 32, 3) := by decide +kernel
theorem dX6_isNext_32 : decode cX6_isNext 32 = .ok (.ifCond .eq 7, 3) := by decide +kernel
theorem dX6_isNext_35 : decode cX6_isNext 35 = .ok (.iconst 1, 1) := by decide +kernel
theorem dX6_isNext_36 : decode cX6_isNext 36 = .ok (.goto 4, 3) := by decide +kernel
theorem dX6_isNext_39 : decode cX6_isNext 39 = .ok (.iconst 0, 1) := by decide +kernel
theorem dX6_isNext_40 : decode cX6_isNext 40 = .ok (.ireturn, 1) := by decide +kernel
theorem dX6_reads_0 : decode cX6_reads 0 = .ok (.aload_n 0, 1) := by decide +kernel
theorem dX6_reads_1 : decode cX6_reads 1 = .ok (.getfield 147, 3) := by decide +kernel
theorem dX6_reads_4 : decode cX6_reads 4 = .ok (.aload_n 0, 1) := by decide +kernel
theorem dX6_reads_5 : decode cX6_reads 5 = .ok (.getfield 140, 3) := by decide +kernel
theorem dX6_reads_8 : decode cX6_reads 8 = .ok (.if_icmp .ge 15, 3) := by decide +kernel
theorem dX6_reads_11 : decode cX6_reads 11 = .ok (.aload_n 0, 1) := by decide +kernel
theorem dX6_reads_12 : decode cX6_reads 12 = .ok (.getfield 22, 3) := by decide +kernel
theorem dX6_reads_15 : decode cX6_reads 15 = .ok (.aload_n 0, 1) := by decide +kernel
theorem dX6_reads_16 : decode cX6_reads 16 = .ok (.getfield 147, 3) := by decide +kernel
theorem dX6_reads_19 : decode cX6_reads 19 = .ok (.iaload, 1) := by decide +kernel
theorem dX6_reads_20 : decode cX6_reads 20 = .ok (.goto 4, 3) := by decide +kernel
theorem dX6_reads_23 : decode cX6_reads 23 = .ok (.iconst 0, 1) := by decide +kernel
theorem dX6_reads_24 : decode cX6_reads 24 = .ok (.istore_n 3, 1) := by decide +kernel
theorem dX6_reads_25 : decode cX6_reads 25 = .ok (.aload_n 0, 1) := by decide +kernel
theorem dX6_reads_26 : decode cX6_reads 26 = .ok (.aload_n 0, 1) := by decide +kernel
theorem dX6_reads_27 : decode cX6_reads 27 = .ok (.getfield 143, 3) := by decide +kernel
theorem dX6_reads_30 : decode cX6_reads 30 = .ok (.ifCond .ne 12, 3) := by decide +kernel
theorem dX6_reads_33 : decode cX6_reads 33 = .ok (.iload_n 3, 1) := by decide +kernel
theorem dX6_reads_34 : decode cX6_reads 34 = .ok (.iload_n 1, 1) := by decide +kernel
theorem dX6_reads_35 : decode cX6_reads 35 = .ok (.iload_n 2, 1) := by decide +kernel
theorem dX6_reads_36 : decode cX6_reads 36 = .ok (.invokestatic 32, 3) := by decide +kernel
theorem dX6_reads_39 : decode cX6_reads 39 = .ok (.ifCond .ne 7, 3) := by decide +kernel
theorem dX6_reads_42 : decode cX6_reads 42 = .ok (.iconst 1, 1) := by decide +kernel
theorem dX6_reads_43 : decode cX6_reads 43 = .ok (.goto 4, 3) := by decide +kernel
theorem dX6_reads_46 : decode cX6_reads 46 = .ok (.iconst 0, 1) := by decide +kernel
theorem dX6_reads_47 : decode cX6_reads 47 = .ok (.putfield 143, 3) := by decide +kernel
theorem dX6_reads_50 : decode cX6_reads 50 = .ok (.aload_n 0, 1) := by decide +kernel
theorem dX6_reads_51 : decode cX6_reads 51 = .ok (.dup, 1) := by decide +kernel
theorem dX6_reads_52 : decode cX6_reads 52 = .ok (.getfield 147, 3) := by decide +kernel
theorem dX6_reads_55 : decode cX6_reads 55 = .ok (.aload_n 0, 1) := by decide +kernel
theorem dX6_reads_56 : decode cX6_reads 56 = .ok (.getfield 143, 3) := by decide +kernel
theorem dX6_reads_59 : decode cX6_reads 59 = .ok (.ifCond .eq 7, 3) := by decide +kernel
theorem dX6_reads_62 : decode cX6_reads 62 = .ok (.iconst 0, 1) := by decide +kernel
theorem dX6_reads_63 : decode cX6_reads 63 = .ok (.goto 4, 3) := by decide +kernel
theorem dX6_reads_66 : decode cX6_reads 66 = .ok (.iconst 1, 1) := by decide +kernel
theorem dX6_reads_67 : decode cX6_reads 67 = .ok (.iadd, 1) := by decide +kernel
theorem dX6_reads_68 : decode cX6_reads 68 = .ok (.putfield 147, 3) := by decide +kernel
theorem dX6_reads_71 : decode cX6_reads 71 = .ok (.iload_n 3, 1) := by decide +kernel
theorem dX6_reads_72 : decode cX6_reads 72 = .ok (.iload_n 1, 1) := by decide +kernel
theorem dX6_reads_73 : decode cX6_reads 73 = .ok (.isub, 1) := by decide +kernel
theorem dX6_reads_74 : decode cX6_reads 74 = .ok (.ireturn, 1) := by decide +kernel
theorem dX6_readsNumber_0 : decode cX6_readsNumber 0 = .ok (.iload_n 1, 1) := by decide +kernel
theorem dX6_readsNumber_1 : decode cX6_readsNumber 1 = .ok (.aload_n 0, 1) := by decide +kernel
theorem dX6_readsNumber_2 : decode cX6_readsNumber 2 = .ok (.bipush 48, 2) := by decide +kernel
theorem dX6_readsNumber_4 : decode cX6_readsNumber 4 = .ok (.iload_n 1, 1) := by decide +kernel
theorem dX6_readsNumber_5 : decode cX6_readsNumber 5 = .ok (.iadd, 1) := by decide +kernel
theorem dX6_readsNumber_6 : decode cX6_readsNumber 6 = .ok (.bipush 57, 2) := by decide +kernel
theorem dX6_readsNumber_8 : decode cX6_readsNumber 8 = .ok (.invokevirtual 150, 3) := by decide +kernel
theorem dX6_readsNumber_11 : decode cX6_readsNumber 11 = .ok (.iadd, 1) := by decide +kernel
theorem dX6_readsNumber_12 : decode cX6_readsNumber 12 = .ok (.istore_n 3, 1) := by decide +kernel
theorem dX6_readsNumber_13 : decode cX6_readsNumber 13 = .ok (.iload_n 3, 1) := by decide +kernel
theorem dX6_readsNumber_14 : decode cX6_readsNumber 14 = .ok (.ifCond .le 7, 3) := by decide +kernel
theorem dX6_readsNumber_17 : decode cX6_readsNumber 17 = .ok (.iconst 1, 1) := by decide +kernel
theorem dX6_readsNumber_18 : decode cX6_readsNumber 18 = .ok (.goto 4, 3) := by decide +kernel
theorem dX6_readsNumber_21 : decode cX6_readsNumber 21 = .ok (.iconst 0, 1) := by decide +kernel
theorem dX6_readsNumber_22 : decode cX6_readsNumber 22 = .ok (.istore 4, 2) := by decide +kernel
theorem dX6_readsNumber_24 : decode cX6_readsNumber 24 = .ok (.iload 4, 2) := by decide +kernel
theorem dX6_readsNumber_26 : decode cX6_readsNumber 26 = .ok (.ifCond .eq 68, 3) := by decide +kernel
theorem dX6_readsNumber_29 : decode cX6_readsNumber 29 = .ok (.aload_n 0, 1) := by decide +kernel
theorem dX6_readsNumber_30 : decode cX6_readsNumber 30 = .ok (.bipush 48, 2) := by decide +kernel
theorem dX6_readsNumber_32 : decode cX6_readsNumber 32 = .ok (.bipush 57, 2) := by decide +kernel
theorem dX6_readsNumber_34 : decode cX6_readsNumber 34 = .ok (.invokevirtual 153, 3) := by decide +kernel
theorem dX6_readsNumber_37 : decode cX6_readsNumber 37 = .ok (.ifCond .eq 28, 3) := by decide +kernel
theorem dX6_readsNumber_40 : decode cX6_readsNumber 40 = .ok (.bipush 10, 2) := by decide +kernel
theorem dX6_readsNumber_42 : decode cX6_readsNumber 42 = .ok (.iload_n 3, 1) := by decide +kernel
theorem dX6_readsNumber_43 : decode cX6_readsNumber 43 = .ok (.imul, 1) := by decide +kernel
theorem dX6_readsNumber_44 : decode cX6_readsNumber 44 = .ok (.aload_n 0, 1) := by decide +kernel
theorem dX6_readsNumber_45 : decode cX6_readsNumber 45 = .ok (.getfield 22, 3) := by decide +kernel
theorem dX6_readsNumber_48 : decode cX6_readsNumber 48 = .ok (.aload_n 0, 1) := by decide +kernel
theorem dX6_readsNumber_49 : decode cX6_readsNumber 49 = .ok (.getfield 147, 3) := by decide +kernel
theorem dX6_readsNumber_52 : decode cX6_readsNumber 52 = .ok (.iaload, 1) := by decide +kernel
theorem dX6_readsNumber_53 : decode cX6_readsNumber 53 = .ok (.iadd, 1) := by decide +kernel
theorem dX6_readsNumber_54 : decode cX6_readsNumber 54 = .ok (.bipush 48, 2) := by decide +kernel
theorem dX6_readsNumber_56 : decode cX6_readsNumber 56 = .ok (.isub, 1) := by decide +kernel
theorem dX6_readsNumber_57 : decode cX6_readsNumber 57 = .ok (.iload_n 2, 1) := by decide +kernel
theorem dX6_readsNumber_58 : decode cX6_readsNumber 58 = .ok (.if_icmp .gt 7, 3) := by decide +kernel
theorem dX6_readsNumber_61 : decode cX6_readsNumber 61 = .ok (.iconst 1, 1) := by decide +kernel
theorem dX6_readsNumber_62 : decode cX6_readsNumber 62 = .ok (.goto 4, 3) := by decide +kernel
theorem dX6_readsNumber_65 : decode cX6_readsNumber 65 = .ok (.iconst 0, 1) := by decide +kernel
theorem dX6_readsNumber_66 : decode cX6_readsNumber 66 = .ok (.istore 4, 2) := by decide +kernel
theorem dX6_readsNumber_68 : decode cX6_readsNumber 68 = .ok (.iload 4, 2) := by decide +kernel
theorem dX6_readsNumber_70 : decode cX6_readsNumber 70 = .ok (.ifCond .eq 19, 3) := by decide +kernel
theorem dX6_readsNumber_73 : decode cX6_readsNumber 73 = .ok (.bipush 10, 2) := by decide +kernel
theorem dX6_readsNumber_75 : decode cX6_readsNumber 75 = .ok (.iload_n 3, 1) := by decide +kernel
theorem dX6_readsNumber_76 : decode cX6_readsNumber 76 = .ok (.imul, 1) := by decide +kernel
theorem dX6_readsNumber_77 : decode cX6_readsNumber 77 = .ok (.aload_n 0, 1) := by decide +kernel
theorem dX6_readsNumber_78 : decode cX6_readsNumber 78 = .ok (.bipush 48, 2) := by decide +kernel
theorem dX6_readsNumber_80 : decode cX6_readsNumber 80 = .ok (.bipush 57, 2) := by decide +kernel
theorem dX6_readsNumber_82 : decode cX6_readsNumber 82 = .ok (.invokevirtual 150, 3) := by decide +kernel
theorem dX6_readsNumber_85 : decode cX6_readsNumber 85 = .ok (.iadd, 1) := by decide +kernel
theorem dX6_readsNumber_86 : decode cX6_readsNumber 86 = .ok (.goto 4, 3) := by decide +kernel
theorem dX6_readsNumber_89 : decode cX6_readsNumber 89 = .ok (.iload_n 3, 1) := by decide +kernel
theorem dX6_readsNumber_90 : decode cX6_readsNumber 90 = .ok (.istore_n 3, 1) := by decide +kernel
theorem dX6_readsNumber_91 : decode cX6_readsNumber 91 = .ok (.goto (-67), 3) := by decide +kernel
theorem dX6_readsNumber_94 : decode cX6_readsNumber 94 = .ok (.iload_n 3, 1) := by decide +kernel
theorem dX6_readsNumber_95 : decode cX6_readsNumber 95 = .ok (.ireturn, 1) := by decide +kernel
theorem dX6_readsPart_0 : decode cX6_readsPart 0 = .ok (.aload_n 0, 1) := by decide +kernel
theorem dX6_readsPart_1 : decode cX6_readsPart 1 = .ok (.getfield 147, 3) := by decide +kernel
theorem dX6_readsPart_4 : decode cX6_readsPart 4 = .ok (.aload_n 0, 1) := by decide +kernel
theorem dX6_readsPart_5 : decode cX6_readsPart 5 = .ok (.getfield 140, 3) := by decide +kernel
theorem dX6_readsPart_8 : decode cX6_readsPart 8 = .ok (.if_icmp .ge 15, 3) := by decide +kernel
theorem dX6_readsPart_11 : decode cX6_readsPart 11 = .ok (.aload_n 0, 1) := by decide +kernel
theorem dX6_readsPart_12 : decode cX6_readsPart 12 = .ok (.getfield 22, 3) := by decide +kernel
theorem dX6_readsPart_15 : decode cX6_readsPart 15 = .ok (.aload_n 0, 1) := by decide +kernel
theorem dX6_readsPart_16 : decode cX6_readsPart 16 = .ok (.getfield 147, 3) := by decide +kernel
theorem dX6_readsPart_19 : decode cX6_readsPart 19 = .ok (.iaload, 1) := by decide +kernel
theorem dX6_readsPart_20 : decode cX6_readsPart 20 = .ok (.goto 4, 3) := by decide +kernel
theorem dX6_readsPart_23 : decode cX6_readsPart 23 = .ok (.iconst 0, 1) := by decide +kernel
theorem dX6_readsPart_24 : decode cX6_readsPart 24 = .ok (.istore_n 1, 1) := by decide +kernel
theorem dX6_readsPart_25 : decode cX6_readsPart 25 = .ok (.aload_n 0, 1) := by decide +kernel
theorem dX6_readsPart_26 : decode cX6_readsPart 26 = .ok (.aload_n 0, 1) := by decide +kernel
theorem dX6_readsPart_27 : decode cX6_readsPart 27 = .ok (.getfield 143, 3) := by decide +kernel
theorem dX6_readsPart_30 : decode cX6_readsPart 30 = .ok (.ifCond .ne 32, 3) := by decide +kernel
theorem dX6_readsPart_33 : decode cX6_readsPart 33 = .ok (.iload_n 1, 1) := by decide +kernel
theorem dX6_readsPart_34 : decode cX6_readsPart 34 = .ok (.bipush 114, 2) := by decide +kernel
theorem dX6_readsPart_36 : decode cX6_readsPart 36 = .ok (.if_icmp .eq 30, 3) := by decide +kernel
theorem dX6_readsPart_39 : decode cX6_readsPart 39 = .ok (.iload_n 1, 1) := by decide +kernel
theorem dX6_readsPart_40 : decode cX6_readsPart 40 = .ok (.bipush 45, 2) := by decide +kernel
theorem dX6_readsPart_42 : decode cX6_readsPart 42 = .ok (.if_icmp .eq 24, 3) := by decide +kernel
theorem dX6_readsPart_45 : decode cX6_readsPart 45 = .ok (.iload_n 1, 1) := by decide +kernel
theorem dX6_readsPart_46 : decode cX6_readsPart 46 = .ok (.bipush 60, 2) := by decide +kernel
theorem dX6_readsPart_48 : decode cX6_readsPart 48 = .ok (.if_icmp .eq 18, 3) := by decide +kernel
theorem dX6_readsPart_51 : decode cX6_readsPart 51 = .ok (.iload_n 1, 1) := by decide +kernel
theorem dX6_readsPart_52 : decode cX6_readsPart 52 = .ok (.bipush 97, 2) := by decide +kernel
theorem dX6_readsPart_54 : decode cX6_readsPart 54 = .ok (.bipush 104, 2) := by decide +kernel
theorem dX6_readsPart_56 : decode cX6_readsPart 56 = .ok (.invokestatic 32, 3) := by decide +kernel
theorem dX6_readsPart_59 : decode cX6_readsPart 59 = .ok (.ifCond .ne 7, 3) := by decide +kernel
theorem dX6_readsPart_62 : decode cX6_readsPart 62 = .ok (.iconst 1, 1) := by decide +kernel
theorem dX6_readsPart_63 : decode cX6_readsPart 63 = .ok (.goto 4, 3) := by decide +kernel
theorem dX6_readsPart_66 : decode cX6_readsPart 66 = .ok (.iconst 0, 1) := by decide +kernel
theorem dX6_readsPart_67 : decode cX6_readsPart 67 = .ok (.putfield 143, 3) := by decide +kernel
theorem dX6_readsPart_70 : decode cX6_readsPart 70 = .ok (.aload_n 0, 1) := by decide +kernel
theorem dX6_readsPart_71 : decode cX6_readsPart 71 = .ok (.dup, 1) := by decide +kernel
theorem dX6_readsPart_72 : decode cX6_readsPart 72 = .ok (.getfield 147, 3) := by decide +kernel
theorem dX6_readsPart_75 : decode cX6_readsPart 75 = .ok (.aload_n 0, 1) := by decide +kernel
theorem dX6_readsPart_76 : decode cX6_readsPart 76 = .ok (.getfield 143, 3) := by decide +kernel
theorem dX6_readsPart_79 : decode cX6_readsPart 79 = .ok (.ifCond .eq 7, 3) := by decide +kernel
theorem dX6_readsPart_82 : decode cX6_readsPart 82 = .ok (.iconst 0, 1) := by decide +kernel
theorem dX6_readsPart_83 : decode cX6_readsPart 83 = .ok (.goto 4, 3) := by decide +kernel
theorem dX6_readsPart_86 : decode cX6_readsPart 86 = .ok (.iconst 1, 1) := by decide +kernel
theorem dX6_readsPart_87 : decode cX6_readsPart 87 = .ok (.iadd, 1) := by decide +kernel
theorem dX6_readsPart_88 : decode cX6_readsPart 88 = .ok (.putfield 147, 3) := by decide +kernel
theorem dX6_readsPart_91 : decode cX6_readsPart 91 = .ok (.aload_n 0, 1) := by decide +kernel
theorem dX6_readsPart_92 : decode cX6_readsPart 92 = .ok (.iload_n 1, 1) := by decide +kernel
theorem dX6_readsPart_93 : decode cX6_readsPart 93 = .ok (.bipush 97, 2) := by decide +kernel
theorem dX6_readsPart_95 : decode cX6_readsPart 95 = .ok (.bipush 104, 2) := by decide +kernel
theorem dX6_readsPart_97 : decode cX6_readsPart 97 = .ok (.invokestatic 32, 3) := by decide +kernel
theorem dX6_readsPart_100 : decode cX6_readsPart 100 = .ok (.ifCond .eq 8, 3) := by decide +kernel
theorem dX6_readsPart_103 : decode cX6_readsPart 103 = .ok (.bipush 97, 2) := by decide +kernel
theorem dX6_readsPart_105 : decode cX6_readsPart 105 = .ok (.goto 4, 3) := by decide +kernel
theorem dX6_readsPart_108 : decode cX6_readsPart 108 = .ok (.iload_n 1, 1) := by decide +kernel
theorem dX6_readsPart_109 : decode cX6_readsPart 109 = .ok (.putfield 156, 3) := by decide +kernel
theorem dX6_readsPart_112 : decode cX6_readsPart 112 = .ok (.aload_n 0, 1) := by decide +kernel
theorem dX6_readsPart_113 : decode cX6_readsPart 113 = .ok (.iload_n 1, 1) := by decide +kernel
theorem dX6_readsPart_114 : decode cX6_readsPart 114 = .ok (.bipush 114, 2) := by decide +kernel
theorem dX6_readsPart_116 : decode cX6_readsPart 116 = .ok (.if_icmp .ne 13, 3) := by decide +kernel
theorem dX6_readsPart_119 : decode cX6_readsPart 119 = .ok (.aload_n 0, 1) := by decide +kernel
theorem dX6_readsPart_120 : decode cX6_readsPart 120 = .ok (.iconst 1, 1) := by decide +kernel
theorem dX6_readsPart_121 : decode cX6_readsPart 121 = .ok (.bipush 60, 2) := by decide +kernel
theorem dX6_readsPart_123 : decode cX6_readsPart 123 = .ok (.invokevirtual 159, 3) := by decide +kernel
theorem dX6_readsPart_126 : decode cX6_readsPart 126 = .ok (.goto 24, 3) := by decide +kernel
theorem dX6_readsPart_129 : decode cX6_readsPart 129 = .ok (.iload_n 1, 1) := by decide +kernel
theorem dX6_readsPart_130 : decode cX6_readsPart 130 = .ok (.bipush 45, 2) := by decide +kernel
theorem dX6_readsPart_132 : decode cX6_readsPart 132 = .ok (.if_icmp .ne 14, 3) := by decide +kernel
theorem dX6_readsPart_135 : decode cX6_readsPart 135 = .ok (.aload_n 0, 1) := by decide +kernel
theorem dX6_readsPart_136 : decode cX6_readsPart 136 = .ok (.bipush 97, 2) := by decide +kernel
theorem dX6_readsPart_138 : decode cX6_readsPart 138 = .ok (.bipush 104, 2) := by decide +kernel
theorem dX6_readsPart_140 : decode cX6_readsPart 140 = .ok (.invokevirtual 150, 3) := by decide +kernel
theorem dX6_readsPart_143 : decode cX6_readsPart 143 = .ok (.goto 7, 3) := by decide +kernel
theorem dX6_readsPart_146 : decode cX6_readsPart 146 = .ok (.iload_n 1, 1) := by decide +kernel
theorem dX6_readsPart_147 : decode cX6_readsPart 147 = .ok (.bipush 97, 2) := by decide +kernel
theorem dX6_readsPart_149 : decode cX6_readsPart 149 = .ok (.isub, 1) := by decide +kernel
theorem dX6_readsPart_150 : decode cX6_readsPart 150 = .ok (.putfield 162, 3) := by decide +kernel
theorem dX6_readsPart_153 : decode cX6_readsPart 153 = .ok (.aload_n 0, 1) := by decide +kernel
theorem dX6_readsPart_154 : decode cX6_readsPart 154 = .ok (.aload_n 0, 1) := by decide +kernel
theorem dX6_readsPart_155 : decode cX6_readsPart 155 = .ok (.getfield 156, 3) := by decide +kernel
theorem dX6_readsPart_158 : decode cX6_readsPart 158 = .ok (.bipush 97, 2) := by decide +kernel
theorem dX6_readsPart_160 : decode cX6_readsPart 160 = .ok (.if_icmp .ne 13, 3) := by decide +kernel
theorem dX6_readsPart_163 : decode cX6_readsPart 163 = .ok (.aload_n 0, 1) := by decide +kernel
theorem dX6_readsPart_164 : decode cX6_readsPart 164 = .ok (.iconst 0, 1) := by decide +kernel
theorem dX6_readsPart_165 : decode cX6_readsPart 165 = .ok (.bipush 19, 2) := by decide +kernel
theorem dX6_readsPart_167 : decode cX6_readsPart 167 = .ok (.invokevirtual 159, 3) := by decide +kernel
theorem dX6_readsPart_170 : decode cX6_readsPart 170 = .ok (.goto 4, 3) := by decide +kernel
theorem dX6_readsPart_173 : decode cX6_readsPart 173 = .ok (.iconst 0, 1) := by decide +kernel
theorem dX6_readsPart_174 : decode cX6_readsPart 174 = .ok (.putfield 165, 3) := by decide +kernel
theorem dX6_readsPart_177 : decode cX6_readsPart 177 = .ok (.return_, 1) := by decide +kernel
theorem dX6_does_0 : decode cX6_does 0 = .ok (.aload_n 0, 1) := by decide +kernel
theorem dX6_does_1 : decode cX6_does 1 = .ok (.getfield 7, 3) := by decide +kernel
theorem dX6_does_4 : decode cX6_does 4 = .ok (.bipush 8, 2) := by decide +kernel
theorem dX6_does_6 : decode cX6_does 6 = .ok (.iaload, 1) := by decide +kernel
theorem dX6_does_7 : decode cX6_does 7 = .ok (.iconst 1, 1) := by decide +kernel
theorem dX6_does_8 : decode cX6_does 8 = .ok (.isub, 1) := by decide +kernel
theorem dX6_does_9 : decode cX6_does 9 = .ok (.istore_n 1, 1) := by decide +kernel
theorem dX6_does_10 : decode cX6_does 10 = .ok (.aload_n 0, 1) := by decide +kernel
theorem dX6_does_11 : decode cX6_does 11 = .ok (.getfield 156, 3) := by decide +kernel
theorem dX6_does_14 : decode cX6_does 14 = .ok (.bipush 114, 2) := by decide +kernel
theorem dX6_does_16 : decode cX6_does 16 = .ok (.if_icmp .ne 17, 3) := by decide +kernel
theorem dX6_does_19 : decode cX6_does 19 = .ok (.aload_n 0, 1) := by decide +kernel
theorem dX6_does_20 : decode cX6_does 20 = .ok (.getfield 7, 3) := by decide +kernel
theorem dX6_does_23 : decode cX6_does 23 = .ok (.bipush 8, 2) := by decide +kernel
theorem dX6_does_25 : decode cX6_does 25 = .ok (.iaload, 1) := by decide +kernel
theorem dX6_does_26 : decode cX6_does 26 = .ok (.iconst 4, 1) := by decide +kernel
theorem dX6_does_27 : decode cX6_does 27 = .ok (.if_icmp .ne 12, 3) := by decide +kernel
theorem dX6_does_30 : decode cX6_does 30 = .ok (.goto 7, 3) := by decide +kernel
theorem dX6_does_33 : decode cX6_does 33 = .ok (.iload_n 1, 1) := by decide +kernel
theorem dX6_does_34 : decode cX6_does 34 = .ok (.ifCond .ge 5, 3) := by decide +kernel
theorem dX6_does_37 : decode cX6_does 37 = .ok (.iconst 0, 1) := by decide +kernel
theorem dX6_does_38 : decode cX6_does 38 = .ok (.ireturn, 1) := by decide +kernel
theorem dX6_does_39 : decode cX6_does 39 = .ok (.aload_n 0, 1) := by decide +kernel
theorem dX6_does_40 : decode cX6_does 40 = .ok (.getfield 156, 3) := by decide +kernel
theorem dX6_does_43 : decode cX6_does 43 = .ok (.lookupswitch 127 #[(45, 102), (97, 43), (114, 33)], 33) := by decide +kernel
theorem dX6_does_76 : decode cX6_does 76 = .ok (.aload_n 0, 1) := by decide +kernel
theorem dX6_does_77 : decode cX6_does 77 = .ok (.aload_n 0, 1) := by decide +kernel
theorem dX6_does_78 : decode cX6_does 78 = .ok (.getfield 162, 3) := by decide +kernel
theorem dX6_does_81 : decode cX6_does 81 = .ok (.invokevirtual 87, 3) := by decide +kernel
theorem dX6_does_84 : decode cX6_does 84 = .ok (.iconst 1, 1) := by decide +kernel
theorem dX6_does_85 : decode cX6_does 85 = .ok (.ireturn, 1) := by decide +kernel
theorem dX6_does_86 : decode cX6_does 86 = .ok (.aload_n 0, 1) := by decide +kernel
theorem dX6_does_87 : decode cX6_does 87 = .ok (.aload_n 0, 1) := by decide +kernel
theorem dX6_does_88 : decode cX6_does 88 = .ok (.getfield 162, 3) := by decide +kernel
theorem dX6_does_91 : decode cX6_does 91 = .ok (.aload_n 0, 1) := by decide +kernel
theorem dX6_does_92 : decode cX6_does 92 = .ok (.getfield 165, 3) := by decide +kernel
theorem dX6_does_95 : decode cX6_does 95 = .ok (.invokevirtual 99, 3) := by decide +kernel
theorem dX6_does_98 : decode cX6_does 98 = .ok (.ifCond .eq 19, 3) := by decide +kernel
theorem dX6_does_101 : decode cX6_does 101 = .ok (.aload_n 0, 1) := by decide +kernel
theorem dX6_does_102 : decode cX6_does 102 = .ok (.iload_n 1, 1) := by decide +kernel
theorem dX6_does_103 : decode cX6_does 103 = .ok (.aload_n 0, 1) := by decide +kernel
theorem dX6_does_104 : decode cX6_does 104 = .ok (.getfield 162, 3) := by decide +kernel
theorem dX6_does_107 : decode cX6_does 107 = .ok (.aload_n 0, 1) := by decide +kernel
theorem dX6_does_108 : decode cX6_does 108 = .ok (.getfield 165, 3) := by decide +kernel
theorem dX6_does_111 : decode cX6_does 111 = .ok (.invokevirtual 102, 3) := by decide +kernel
theorem dX6_does_114 : decode cX6_does 114 = .ok (.ifCond .le 5, 3) := by decide +kernel
theorem dX6_does_117 : decode cX6_does 117 = .ok (.iconst 0, 1) := by decide +kernel
theorem dX6_does_118 : decode cX6_does 118 = .ok (.ireturn, 1) := by decide +kernel
theorem dX6_does_119 : decode cX6_does 119 = .ok (.aload_n 0, 1) := by decide +kernel
theorem dX6_does_120 : decode cX6_does 120 = .ok (.iload_n 1, 1) := by decide +kernel
theorem dX6_does_121 : decode cX6_does 121 = .ok (.aload_n 0, 1) := by decide +kernel
theorem dX6_does_122 : decode cX6_does 122 = .ok (.getfield 162, 3) := by decide +kernel
theorem dX6_does_125 : decode cX6_does 125 = .ok (.aload_n 0, 1) := by decide +kernel
theorem dX6_does_126 : decode cX6_does 126 = .ok (.getfield 165, 3) := by decide +kernel
theorem dX6_does_129 : decode cX6_does 129 = .ok (.invokevirtual 52, 3) := by decide +kernel
theorem dX6_does_132 : decode cX6_does 132 = .ok (.aload_n 0, 1) := by decide +kernel
theorem dX6_does_133 : decode cX6_does 133 = .ok (.getfield 7, 3) := by decide +kernel
theorem dX6_does_136 : decode cX6_does 136 = .ok (.bipush 9, 2) := by decide +kernel
theorem dX6_does_138 : decode cX6_does 138 = .ok (.dup2, 1) := by decide +kernel
theorem dX6_does_139 : decode cX6_does 139 = .ok (.iaload, 1) := by decide +kernel
theorem dX6_does_140 : decode cX6_does 140 = .ok (.iconst 1, 1) := by decide +kernel
theorem dX6_does_141 : decode cX6_does 141 = .ok (.iadd, 1) := by decide +kernel
theorem dX6_does_142 : decode cX6_does 142 = .ok (.iastore, 1) := by decide +kernel
theorem dX6_does_143 : decode cX6_does 143 = .ok (.iconst 1, 1) := by decide +kernel
theorem dX6_does_144 : decode cX6_does 144 = .ok (.ireturn, 1) := by decide +kernel
theorem dX6_does_145 : decode cX6_does 145 = .ok (.aload_n 0, 1) := by decide +kernel
theorem dX6_does_146 : decode cX6_does 146 = .ok (.iload_n 1, 1) := by decide +kernel
theorem dX6_does_147 : decode cX6_does 147 = .ok (.aload_n 0, 1) := by decide +kernel
theorem dX6_does_148 : decode cX6_does 148 = .ok (.getfield 162, 3) := by decide +kernel
theorem dX6_does_151 : decode cX6_does 151 = .ok (.invokevirtual 70, 3) := by decide +kernel
theorem dX6_does_154 : decode cX6_does 154 = .ok (.ifCond .ne 5, 3) := by decide +kernel
theorem dX6_does_157 : decode cX6_does 157 = .ok (.iconst 0, 1) := by decide +kernel
theorem dX6_does_158 : decode cX6_does 158 = .ok (.ireturn, 1) := by decide +kernel
theorem dX6_does_159 : decode cX6_does 159 = .ok (.aload_n 0, 1) := by decide +kernel
theorem dX6_does_160 : decode cX6_does 160 = .ok (.iload_n 1, 1) := by decide +kernel
theorem dX6_does_161 : decode cX6_does 161 = .ok (.aload_n 0, 1) := by decide +kernel
theorem dX6_does_162 : decode cX6_does 162 = .ok (.getfield 162, 3) := by decide +kernel
theorem dX6_does_165 : decode cX6_does 165 = .ok (.invokevirtual 109, 3) := by decide +kernel
theorem dX6_does_168 : decode cX6_does 168 = .ok (.iconst 1, 1) := by decide +kernel
theorem dX6_does_169 : decode cX6_does 169 = .ok (.ireturn, 1) := by decide +kernel
theorem dX6_does_170 : decode cX6_does 170 = .ok (.aload_n 0, 1) := by decide +kernel
theorem dX6_does_171 : decode cX6_does 171 = .ok (.iload_n 1, 1) := by decide +kernel
theorem dX6_does_172 : decode cX6_does 172 = .ok (.invokevirtual 122, 3) := by decide +kernel
theorem dX6_does_175 : decode cX6_does 175 = .ok (.iconst 1, 1) := by decide +kernel
theorem dX6_does_176 : decode cX6_does 176 = .ok (.ireturn, 1) := by decide +kernel
theorem dX6_goes_0 : decode cX6_goes 0 = .ok (.aload_n 0, 1) := by decide +kernel
theorem dX6_goes_1 : decode cX6_goes 1 = .ok (.iconst 0, 1) := by decide +kernel
theorem dX6_goes_2 : decode cX6_goes 2 = .ok (.putfield 147, 3) := by decide +kernel
theorem dX6_goes_5 : decode cX6_goes 5 = .ok (.aload_n 0, 1) := by decide +kernel
theorem dX6_goes_6 : decode cX6_goes 6 = .ok (.iconst 0, 1) := by decide +kernel
theorem dX6_goes_7 : decode cX6_goes 7 = .ok (.putfield 143, 3) := by decide +kernel
theorem dX6_goes_10 : decode cX6_goes 10 = .ok (.iconst 0, 1) := by decide +kernel
theorem dX6_goes_11 : decode cX6_goes 11 = .ok (.istore_n 2, 1) := by decide +kernel
theorem dX6_goes_12 : decode cX6_goes 12 = .ok (.iconst 1, 1) := by decide +kernel
theorem dX6_goes_13 : decode cX6_goes 13 = .ok (.istore_n 3, 1) := by decide +kernel
theorem dX6_goes_14 : decode cX6_goes 14 = .ok (.iload_n 3, 1) := by decide +kernel
theorem dX6_goes_15 : decode cX6_goes 15 = .ok (.ifCond .eq 97, 3) := by decide +kernel
theorem dX6_goes_18 : decode cX6_goes 18 = .ok (.aload_n 0, 1) := by decide +kernel
theorem dX6_goes_19 : decode cX6_goes 19 = .ok (.invokevirtual 168, 3) := by decide +kernel
theorem dX6_goes_22 : decode cX6_goes 22 = .ok (.iload_n 1, 1) := by decide +kernel
theorem dX6_goes_23 : decode cX6_goes 23 = .ok (.ifCond .eq 10, 3) := by decide +kernel
theorem dX6_goes_26 : decode cX6_goes 26 = .ok (.aload_n 0, 1) := by decide +kernel
theorem dX6_goes_27 : decode cX6_goes 27 = .ok (.invokevirtual 171, 3) := by decide +kernel
theorem dX6_goes_30 : decode cX6_goes 30 = .ok (.ifCond .eq 7, 3) := by decide +kernel
theorem dX6_goes_33 : decode cX6_goes 33 = .ok (.iconst 1, 1) := by decide +kernel
theorem dX6_goes_34 : decode cX6_goes 34 = .ok (.goto 4, 3) := by decide +kernel
theorem dX6_goes_37 : decode cX6_goes 37 = .ok (.iconst 0, 1) := by decide +kernel
theorem dX6_goes_38 : decode cX6_goes 38 = .ok (.istore 4, 2) := by decide +kernel
theorem dX6_goes_40 : decode cX6_goes 40 = .ok (.iload_n 2, 1) := by decide +kernel
theorem dX6_goes_41 : decode cX6_goes 41 = .ok (.iload 4, 2) := by decide +kernel
theorem dX6_goes_43 : decode cX6_goes 43 = .ok (.ifCond .eq 7, 3) := by decide +kernel
theorem dX6_goes_46 : decode cX6_goes 46 = .ok (.iconst 1, 1) := by decide +kernel
theorem dX6_goes_47 : decode cX6_goes 47 = .ok (.goto 4, 3) := by decide +kernel
theorem dX6_goes_50 : decode cX6_goes 50 = .ok (.iconst 0, 1) := by decide +kernel
theorem dX6_goes_51 : decode cX6_goes 51 = .ok (.iadd, 1) := by decide +kernel
theorem dX6_goes_52 : decode cX6_goes 52 = .ok (.istore_n 2, 1) := by decide +kernel
theorem dX6_goes_53 : decode cX6_goes 53 = .ok (.iload 4, 2) := by decide +kernel
theorem dX6_goes_55 : decode cX6_goes 55 = .ok (.ifCond .eq 25, 3) := by decide +kernel
theorem dX6_goes_58 : decode cX6_goes 58 = .ok (.aload_n 0, 1) := by decide +kernel
theorem dX6_goes_59 : decode cX6_goes 59 = .ok (.getfield 143, 3) := by decide +kernel
theorem dX6_goes_62 : decode cX6_goes 62 = .ok (.ifCond .ne 18, 3) := by decide +kernel
theorem dX6_goes_65 : decode cX6_goes 65 = .ok (.aload_n 0, 1) := by decide +kernel
theorem dX6_goes_66 : decode cX6_goes 66 = .ok (.getfield 147, 3) := by decide +kernel
theorem dX6_goes_69 : decode cX6_goes 69 = .ok (.aload_n 0, 1) := by decide +kernel
theorem dX6_goes_70 : decode cX6_goes 70 = .ok (.getfield 140, 3) := by decide +kernel
theorem dX6_goes_73 : decode cX6_goes 73 = .ok (.if_icmp .ge 7, 3) := by decide +kernel
theorem dX6_goes_76 : decode cX6_goes 76 = .ok (.iconst 1, 1) := by decide +kernel
theorem dX6_goes_77 : decode cX6_goes 77 = .ok (.goto 4, 3) := by decide +kernel
theorem dX6_goes_80 : decode cX6_goes 80 = .ok (.iconst 0, 1) := by decide +kernel
theorem dX6_goes_81 : decode cX6_goes 81 = .ok (.istore_n 3, 1) := by decide +kernel
theorem dX6_goes_82 : decode cX6_goes 82 = .ok (.iload_n 3, 1) := by decide +kernel
theorem dX6_goes_83 : decode cX6_goes 83 = .ok (.ifCond .eq 26, 3) := by decide +kernel
theorem dX6_goes_86 : decode cX6_goes 86 = .ok (.aload_n 0, 1) := by decide +kernel
theorem dX6_goes_87 : decode cX6_goes 87 = .ok (.bipush 44, 2) := by decide +kernel
theorem dX6_goes_89 : decode cX6_goes 89 = .ok (.bipush 44, 2) := by decide +kernel
theorem dX6_goes_91 : decode cX6_goes 91 = .ok (.invokevirtual 150, 3) := by decide +kernel
theorem dX6_goes_94 : decode cX6_goes 94 = .ok (.istore 5, 2) := by decide +kernel
theorem dX6_goes_96 : decode cX6_goes 96 = .ok (.aload_n 0, 1) := by decide +kernel
theorem dX6_goes_97 : decode cX6_goes 97 = .ok (.getfield 143, 3) := by decide +kernel
theorem dX6_goes_100 : decode cX6_goes 100 = .ok (.ifCond .ne 7, 3) := by decide +kernel
theorem dX6_goes_103 : decode cX6_goes 103 = .ok (.iconst 1, 1) := by decide +kernel
theorem dX6_goes_104 : decode cX6_goes 104 = .ok (.goto 4, 3) := by decide +kernel
theorem dX6_goes_107 : decode cX6_goes 107 = .ok (.iconst 0, 1) := by decide +kernel
theorem dX6_goes_108 : decode cX6_goes 108 = .ok (.istore_n 3, 1) := by decide +kernel
theorem dX6_goes_109 : decode cX6_goes 109 = .ok (.goto (-95), 3) := by decide +kernel
theorem dX6_goes_112 : decode cX6_goes 112 = .ok (.iload_n 2, 1) := by decide +kernel
theorem dX6_goes_113 : decode cX6_goes 113 = .ok (.ireturn, 1) := by decide +kernel
theorem dX6_firstError_0 : decode cX6_firstError 0 = .ok (.aload_n 0, 1) := by decide +kernel
theorem dX6_firstError_1 : decode cX6_firstError 1 = .ok (.iconst 0, 1) := by decide +kernel
theorem dX6_firstError_2 : decode cX6_firstError 2 = .ok (.putfield 28, 3) := by decide +kernel
theorem dX6_firstError_5 : decode cX6_firstError 5 = .ok (.aload_n 0, 1) := by decide +kernel
theorem dX6_firstError_6 : decode cX6_firstError 6 = .ok (.iconst 0, 1) := by decide +kernel
theorem dX6_firstError_7 : decode cX6_firstError 7 = .ok (.invokevirtual 175, 3) := by decide +kernel
theorem dX6_firstError_10 : decode cX6_firstError 10 = .ok (.istore_n 1, 1) := by decide +kernel
theorem dX6_firstError_11 : decode cX6_firstError 11 = .ok (.aload_n 0, 1) := by decide +kernel
theorem dX6_firstError_12 : decode cX6_firstError 12 = .ok (.getfield 143, 3) := by decide +kernel
theorem dX6_firstError_15 : decode cX6_firstError 15 = .ok (.ifCond .eq 10, 3) := by decide +kernel
theorem dX6_firstError_18 : decode cX6_firstError 18 = .ok (.aload_n 0, 1) := by decide +kernel
theorem dX6_firstError_19 : decode cX6_firstError 19 = .ok (.getfield 147, 3) := by decide +kernel
theorem dX6_firstError_22 : decode cX6_firstError 22 = .ok (.goto 7, 3) := by decide +kernel
theorem dX6_firstError_25 : decode cX6_firstError 25 = .ok (.aload_n 0, 1) := by decide +kernel
theorem dX6_firstError_26 : decode cX6_firstError 26 = .ok (.getfield 140, 3) := by decide +kernel
theorem dX6_firstError_29 : decode cX6_firstError 29 = .ok (.ireturn, 1) := by decide +kernel
theorem dX6_play_0 : decode cX6_play 0 = .ok (.aload_n 0, 1) := by decide +kernel
theorem dX6_play_1 : decode cX6_play 1 = .ok (.iconst 0, 1) := by decide +kernel
theorem dX6_play_2 : decode cX6_play 2 = .ok (.invokevirtual 175, 3) := by decide +kernel
theorem dX6_play_5 : decode cX6_play 5 = .ok (.istore_n 1, 1) := by decide +kernel
theorem dX6_play_6 : decode cX6_play 6 = .ok (.aload_n 0, 1) := by decide +kernel
theorem dX6_play_7 : decode cX6_play 7 = .ok (.aload_n 0, 1) := by decide +kernel
theorem dX6_play_8 : decode cX6_play 8 = .ok (.getfield 143, 3) := by decide +kernel
theorem dX6_play_11 : decode cX6_play 11 = .ok (.ifCond .eq 7, 3) := by decide +kernel
theorem dX6_play_14 : decode cX6_play 14 = .ok (.iconst 1, 1) := by decide +kernel
theorem dX6_play_15 : decode cX6_play 15 = .ok (.goto 4, 3) := by decide +kernel
theorem dX6_play_18 : decode cX6_play 18 = .ok (.iconst 0, 1) := by decide +kernel
theorem dX6_play_19 : decode cX6_play 19 = .ok (.invokevirtual 81, 3) := by decide +kernel
theorem dX6_play_22 : decode cX6_play 22 = .ok (.ifCond .ne 5, 3) := by decide +kernel
theorem dX6_play_25 : decode cX6_play 25 = .ok (.iconst 0, 1) := by decide +kernel
theorem dX6_play_26 : decode cX6_play 26 = .ok (.ireturn, 1) := by decide +kernel
theorem dX6_play_27 : decode cX6_play 27 = .ok (.aload_n 0, 1) := by decide +kernel
theorem dX6_play_28 : decode cX6_play 28 = .ok (.invokevirtual 84, 3) := by decide +kernel
theorem dX6_play_31 : decode cX6_play 31 = .ok (.aload_n 0, 1) := by decide +kernel
theorem dX6_play_32 : decode cX6_play 32 = .ok (.iconst 1, 1) := by decide +kernel
theorem dX6_play_33 : decode cX6_play 33 = .ok (.invokevirtual 175, 3) := by decide +kernel
theorem dX6_play_36 : decode cX6_play 36 = .ok (.istore_n 2, 1) := by decide +kernel
theorem dX6_play_37 : decode cX6_play 37 = .ok (.aload_n 0, 1) := by decide +kernel
theorem dX6_play_38 : decode cX6_play 38 = .ok (.iconst 0, 1) := by decide +kernel
theorem dX6_play_39 : decode cX6_play 39 = .ok (.putfield 140, 3) := by decide +kernel
theorem dX6_play_42 : decode cX6_play 42 = .ok (.iload_n 2, 1) := by decide +kernel
theorem dX6_play_43 : decode cX6_play 43 = .ok (.ireturn, 1) := by decide +kernel
theorem dX6_undo_0 : decode cX6_undo 0 = .ok (.aload_n 0, 1) := by decide +kernel
theorem dX6_undo_1 : decode cX6_undo 1 = .ok (.aload_n 0, 1) := by decide +kernel
theorem dX6_undo_2 : decode cX6_undo 2 = .ok (.getfield 43, 3) := by decide +kernel
theorem dX6_undo_5 : decode cX6_undo 5 = .ok (.ifCond .le 7, 3) := by decide +kernel
theorem dX6_undo_8 : decode cX6_undo 8 = .ok (.iconst 0, 1) := by decide +kernel
theorem dX6_undo_9 : decode cX6_undo 9 = .ok (.goto 4, 3) := by decide +kernel
theorem dX6_undo_12 : decode cX6_undo 12 = .ok (.iconst 1, 1) := by decide +kernel
theorem dX6_undo_13 : decode cX6_undo 13 = .ok (.invokevirtual 81, 3) := by decide +kernel
theorem dX6_undo_16 : decode cX6_undo 16 = .ok (.ifCond .ne 5, 3) := by decide +kernel
theorem dX6_undo_19 : decode cX6_undo 19 = .ok (.iconst 0, 1) := by decide +kernel
theorem dX6_undo_20 : decode cX6_undo 20 = .ok (.ireturn, 1) := by decide +kernel
theorem dX6_undo_21 : decode cX6_undo 21 = .ok (.aload_n 0, 1) := by decide +kernel
theorem dX6_undo_22 : decode cX6_undo 22 = .ok (.dup, 1) := by decide +kernel
theorem dX6_undo_23 : decode cX6_undo 23 = .ok (.getfield 43, 3) := by decide +kernel
theorem dX6_undo_26 : decode cX6_undo 26 = .ok (.iconst 1, 1) := by decide +kernel
theorem dX6_undo_27 : decode cX6_undo 27 = .ok (.isub, 1) := by decide +kernel
theorem dX6_undo_28 : decode cX6_undo 28 = .ok (.putfield 43, 3) := by decide +kernel
theorem dX6_undo_31 : decode cX6_undo 31 = .ok (.iconst 0, 1) := by decide +kernel
theorem dX6_undo_32 : decode cX6_undo 32 = .ok (.istore_n 1, 1) := by decide +kernel
theorem dX6_undo_33 : decode cX6_undo 33 = .ok (.iload_n 1, 1) := by decide +kernel
theorem dX6_undo_34 : decode cX6_undo 34 = .ok (.bipush 84, 2) := by decide +kernel
theorem dX6_undo_36 : decode cX6_undo 36 = .ok (.if_icmp .ge 29, 3) := by decide +kernel
theorem dX6_undo_39 : decode cX6_undo 39 = .ok (.aload_n 0, 1) := by decide +kernel
theorem dX6_undo_40 : decode cX6_undo 40 = .ok (.getfield 7, 3) := by decide +kernel
theorem dX6_undo_43 : decode cX6_undo 43 = .ok (.iload_n 1, 1) := by decide +kernel
theorem dX6_undo_44 : decode cX6_undo 44 = .ok (.aload_n 0, 1) := by decide +kernel
theorem dX6_undo_45 : decode cX6_undo 45 = .ok (.getfield 19, 3) := by decide +kernel
theorem dX6_undo_48 : decode cX6_undo 48 = .ok (.bipush 84, 2) := by decide +kernel
theorem dX6_undo_50 : decode cX6_undo 50 = .ok (.aload_n 0, 1) := by decide +kernel
theorem dX6_undo_51 : decode cX6_undo 51 = .ok (.getfield 43, 3) := by decide +kernel
theorem dX6_undo_54 : decode cX6_undo 54 = .ok (.imul, 1) := by decide +kernel
theorem dX6_undo_55 : decode cX6_undo 55 = .ok (.iload_n 1, 1) := by decide +kernel
theorem dX6_undo_56 : decode cX6_undo 56 = .ok (.iadd, 1) := by decide +kernel
theorem dX6_undo_57 : decode cX6_undo 57 = .ok (.iaload, 1) := by decide +kernel
theorem dX6_undo_58 : decode cX6_undo 58 = .ok (.iastore, 1) := by decide +kernel
theorem dX6_undo_59 : decode cX6_undo 59 = .ok (.iinc 1 1, 3) := by decide +kernel
theorem dX6_undo_62 : decode cX6_undo 62 = .ok (.goto (-29), 3) := by decide +kernel
theorem dX6_undo_65 : decode cX6_undo 65 = .ok (.aload_n 0, 1) := by decide +kernel
theorem dX6_undo_66 : decode cX6_undo 66 = .ok (.getfield 43, 3) := by decide +kernel
theorem dX6_undo_69 : decode cX6_undo 69 = .ok (.ireturn, 1) := by decide +kernel
theorem dX6_keep_0 : decode cX6_keep 0 = .ok (.aload_n 0, 1) := by decide +kernel
theorem dX6_keep_1 : decode cX6_keep 1 = .ok (.iconst 0, 1) := by decide +kernel
theorem dX6_keep_2 : decode cX6_keep 2 = .ok (.putfield 28, 3) := by decide +kernel
theorem dX6_keep_5 : decode cX6_keep 5 = .ok (.iconst 0, 1) := by decide +kernel
theorem dX6_keep_6 : decode cX6_keep 6 = .ok (.istore_n 1, 1) := by decide +kernel
theorem dX6_keep_7 : decode cX6_keep 7 = .ok (.iload_n 1, 1) := by decide +kernel
theorem dX6_keep_8 : decode cX6_keep 8 = .ok (.bipush 84, 2) := by decide +kernel
theorem dX6_keep_10 : decode cX6_keep 10 = .ok (.if_icmp .ge 21, 3) := by decide +kernel
theorem dX6_keep_13 : decode cX6_keep 13 = .ok (.aload_n 0, 1) := by decide +kernel
theorem dX6_keep_14 : decode cX6_keep 14 = .ok (.getfield 16, 3) := by decide +kernel
theorem dX6_keep_17 : decode cX6_keep 17 = .ok (.iload_n 1, 1) := by decide +kernel
theorem dX6_keep_18 : decode cX6_keep 18 = .ok (.aload_n 0, 1) := by decide +kernel
theorem dX6_keep_19 : decode cX6_keep 19 = .ok (.getfield 7, 3) := by decide +kernel
theorem dX6_keep_22 : decode cX6_keep 22 = .ok (.iload_n 1, 1) := by decide +kernel
theorem dX6_keep_23 : decode cX6_keep 23 = .ok (.iaload, 1) := by decide +kernel
theorem dX6_keep_24 : decode cX6_keep 24 = .ok (.iastore, 1) := by decide +kernel
theorem dX6_keep_25 : decode cX6_keep 25 = .ok (.iinc 1 1, 3) := by decide +kernel
theorem dX6_keep_28 : decode cX6_keep 28 = .ok (.goto (-21), 3) := by decide +kernel
theorem dX6_keep_31 : decode cX6_keep 31 = .ok (.aload_n 0, 1) := by decide +kernel
theorem dX6_keep_32 : decode cX6_keep 32 = .ok (.iconst 1, 1) := by decide +kernel
theorem dX6_keep_33 : decode cX6_keep 33 = .ok (.putfield 179, 3) := by decide +kernel
theorem dX6_keep_36 : decode cX6_keep 36 = .ok (.aload_n 0, 1) := by decide +kernel
theorem dX6_keep_37 : decode cX6_keep 37 = .ok (.getfield 7, 3) := by decide +kernel
theorem dX6_keep_40 : decode cX6_keep 40 = .ok (.bipush 8, 2) := by decide +kernel
theorem dX6_keep_42 : decode cX6_keep 42 = .ok (.iaload, 1) := by decide +kernel
theorem dX6_keep_43 : decode cX6_keep 43 = .ok (.ireturn, 1) := by decide +kernel
theorem dX6_restore_0 : decode cX6_restore 0 = .ok (.aload_n 0, 1) := by decide +kernel
theorem dX6_restore_1 : decode cX6_restore 1 = .ok (.aload_n 0, 1) := by decide +kernel
theorem dX6_restore_2 : decode cX6_restore 2 = .ok (.getfield 179, 3) := by decide +kernel
theorem dX6_restore_5 : decode cX6_restore 5 = .ok (.ifCond .eq 7, 3) := by decide +kernel
theorem dX6_restore_8 : decode cX6_restore 8 = .ok (.iconst 0, 1) := by decide +kernel
theorem dX6_restore_9 : decode cX6_restore 9 = .ok (.goto 4, 3) := by decide +kernel
theorem dX6_restore_12 : decode cX6_restore 12 = .ok (.iconst 1, 1) := by decide +kernel
theorem dX6_restore_13 : decode cX6_restore 13 = .ok (.invokevirtual 81, 3) := by decide +kernel
theorem dX6_restore_16 : decode cX6_restore 16 = .ok (.ifCond .ne 5, 3) := by decide +kernel
theorem dX6_restore_19 : decode cX6_restore 19 = .ok (.iconst 0, 1) := by decide +kernel
theorem dX6_restore_20 : decode cX6_restore 20 = .ok (.ireturn, 1) := by decide +kernel
theorem dX6_restore_21 : decode cX6_restore 21 = .ok (.aload_n 0, 1) := by decide +kernel
theorem dX6_restore_22 : decode cX6_restore 22 = .ok (.invokevirtual 84, 3) := by decide +kernel
theorem dX6_restore_25 : decode cX6_restore 25 = .ok (.iconst 0, 1) := by decide +kernel
theorem dX6_restore_26 : decode cX6_restore 26 = .ok (.istore_n 1, 1) := by decide +kernel
theorem dX6_restore_27 : decode cX6_restore 27 = .ok (.iload_n 1, 1) := by decide +kernel
theorem dX6_restore_28 : decode cX6_restore 28 = .ok (.bipush 84, 2) := by decide +kernel
theorem dX6_restore_30 : decode cX6_restore 30 = .ok (.if_icmp .ge 21, 3) := by decide +kernel
theorem dX6_restore_33 : decode cX6_restore 33 = .ok (.aload_n 0, 1) := by decide +kernel
theorem dX6_restore_34 : decode cX6_restore 34 = .ok (.getfield 7, 3) := by decide +kernel
theorem dX6_restore_37 : decode cX6_restore 37 = .ok (.iload_n 1, 1) := by decide +kernel
theorem dX6_restore_38 : decode cX6_restore 38 = .ok (.aload_n 0, 1) := by decide +kernel
theorem dX6_restore_39 : decode cX6_restore 39 = .ok (.getfield 16, 3) := by decide +kernel
theorem dX6_restore_42 : decode cX6_restore 42 = .ok (.iload_n 1, 1) := by decide +kernel
theorem dX6_restore_43 : decode cX6_restore 43 = .ok (.iaload, 1) := by decide +kernel
theorem dX6_restore_44 : decode cX6_restore 44 = .ok (.iastore, 1) := by decide +kernel
theorem dX6_restore_45 : decode cX6_restore 45 = .ok (.iinc 1 1, 3) := by decide +kernel
theorem dX6_restore_48 : decode cX6_restore 48 = .ok (.goto (-21), 3) := by decide +kernel
theorem dX6_restore_51 : decode cX6_restore 51 = .ok (.aload_n 0, 1) := by decide +kernel
theorem dX6_restore_52 : decode cX6_restore 52 = .ok (.getfield 7, 3) := by decide +kernel
theorem dX6_restore_55 : decode cX6_restore 55 = .ok (.bipush 8, 2) := by decide +kernel
theorem dX6_restore_57 : decode cX6_restore 57 = .ok (.iaload, 1) := by decide +kernel
theorem dX6_restore_58 : decode cX6_restore 58 = .ok (.ireturn, 1) := by decide +kernel
theorem dX6_place_0 : decode cX6_place 0 = .ok (.aload_n 0, 1) := by decide +kernel
theorem dX6_place_1 : decode cX6_place 1 = .ok (.aload_n 0, 1) := by decide +kernel
theorem dX6_place_2 : decode cX6_place 2 = .ok (.iload_n 1, 1) := by decide +kernel
theorem dX6_place_3 : decode cX6_place 3 = .ok (.invokevirtual 90, 3) := by decide +kernel
theorem dX6_place_6 : decode cX6_place 6 = .ok (.ifCond .eq 27, 3) := by decide +kernel
theorem dX6_place_9 : decode cX6_place 9 = .ok (.iload_n 2, 1) := by decide +kernel
theorem dX6_place_10 : decode cX6_place 10 = .ok (.iconst 0, 1) := by decide +kernel
theorem dX6_place_11 : decode cX6_place 11 = .ok (.aload_n 0, 1) := by decide +kernel
theorem dX6_place_12 : decode cX6_place 12 = .ok (.getfield 7, 3) := by decide +kernel
theorem dX6_place_15 : decode cX6_place 15 = .ok (.iload_n 1, 1) := by decide +kernel
theorem dX6_place_16 : decode cX6_place 16 = .ok (.iconst 0, 1) := by decide +kernel
theorem dX6_place_17 : decode cX6_place 17 = .ok (.invokestatic 36, 3) := by decide +kernel
theorem dX6_place_20 : decode cX6_place 20 = .ok (.iaload, 1) := by decide +kernel
theorem dX6_place_21 : decode cX6_place 21 = .ok (.iconst 1, 1) := by decide +kernel
theorem dX6_place_22 : decode cX6_place 22 = .ok (.isub, 1) := by decide +kernel
theorem dX6_place_23 : decode cX6_place 23 = .ok (.invokestatic 32, 3) := by decide +kernel
theorem dX6_place_26 : decode cX6_place 26 = .ok (.ifCond .eq 7, 3) := by decide +kernel
theorem dX6_place_29 : decode cX6_place 29 = .ok (.iconst 0, 1) := by decide +kernel
theorem dX6_place_30 : decode cX6_place 30 = .ok (.goto 4, 3) := by decide +kernel
theorem dX6_place_33 : decode cX6_place 33 = .ok (.iconst 1, 1) := by decide +kernel
theorem dX6_place_34 : decode cX6_place 34 = .ok (.invokevirtual 81, 3) := by decide +kernel
theorem dX6_place_37 : decode cX6_place 37 = .ok (.ifCond .eq 12, 3) := by decide +kernel
theorem dX6_place_40 : decode cX6_place 40 = .ok (.aload_n 0, 1) := by decide +kernel
theorem dX6_place_41 : decode cX6_place 41 = .ok (.iload_n 1, 1) := by decide +kernel
theorem dX6_place_42 : decode cX6_place 42 = .ok (.iload_n 2, 1) := by decide +kernel
theorem dX6_place_43 : decode cX6_place 43 = .ok (.invokevirtual 63, 3) := by decide +kernel
theorem dX6_place_46 : decode cX6_place 46 = .ok (.goto 4, 3) := by decide +kernel
theorem dX6_place_49 : decode cX6_place 49 = .ok (.iconst 0, 1) := by decide +kernel
theorem dX6_place_50 : decode cX6_place 50 = .ok (.ireturn, 1) := by decide +kernel
theorem dX6_holes_0 : decode cX6_holes 0 = .ok (.iconst 0, 1) := by decide +kernel
theorem dX6_holes_1 : decode cX6_holes 1 = .ok (.istore_n 2, 1) := by decide +kernel
theorem dX6_holes_2 : decode cX6_holes 2 = .ok (.iconst 0, 1) := by decide +kernel
theorem dX6_holes_3 : decode cX6_holes 3 = .ok (.istore_n 3, 1) := by decide +kernel
theorem dX6_holes_4 : decode cX6_holes 4 = .ok (.iload_n 3, 1) := by decide +kernel
theorem dX6_holes_5 : decode cX6_holes 5 = .ok (.aload_n 0, 1) := by decide +kernel
theorem dX6_holes_6 : decode cX6_holes 6 = .ok (.getfield 7, 3) := by decide +kernel
theorem dX6_holes_9 : decode cX6_holes 9 = .ok (.iload_n 1, 1) := by decide +kernel
theorem dX6_holes_10 : decode cX6_holes 10 = .ok (.iconst 0, 1) := by decide +kernel
theorem dX6_holes_11 : decode cX6_holes 11 = .ok (.invokestatic 36, 3) := by decide +kernel
theorem dX6_holes_14 : decode cX6_holes 14 = .ok (.iaload, 1) := by decide +kernel
theorem dX6_holes_15 : decode cX6_holes 15 = .ok (.if_icmp .ge 27, 3) := by decide +kernel
theorem dX6_holes_18 : decode cX6_holes 18 = .ok (.iload_n 2, 1) := by decide +kernel
theorem dX6_holes_19 : decode cX6_holes 19 = .ok (.aload_n 0, 1) := by decide +kernel
theorem dX6_holes_20 : decode cX6_holes 20 = .ok (.iload_n 1, 1) := by decide +kernel
theorem dX6_holes_21 : decode cX6_holes 21 = .ok (.iload_n 3, 1) := by decide +kernel
theorem dX6_holes_22 : decode cX6_holes 22 = .ok (.invokevirtual 63, 3) := by decide +kernel
theorem dX6_holes_25 : decode cX6_holes 25 = .ok (.iconst (-1), 1) := by decide +kernel
theorem dX6_holes_26 : decode cX6_holes 26 = .ok (.if_icmp .ne 7, 3) := by decide +kernel
theorem dX6_holes_29 : decode cX6_holes 29 = .ok (.iconst 1, 1) := by decide +kernel
theorem dX6_holes_30 : decode cX6_holes 30 = .ok (.goto 4, 3) := by decide +kernel
theorem dX6_holes_33 : decode cX6_holes 33 = .ok (.iconst 0, 1) := by decide +kernel
theorem dX6_holes_34 : decode cX6_holes 34 = .ok (.iadd, 1) := by decide +kernel
theorem dX6_holes_35 : decode cX6_holes 35 = .ok (.istore_n 2, 1) := by decide +kernel
theorem dX6_holes_36 : decode cX6_holes 36 = .ok (.iinc 3 1, 3) := by decide +kernel
theorem dX6_holes_39 : decode cX6_holes 39 = .ok (.goto (-35), 3) := by decide +kernel
theorem dX6_holes_42 : decode cX6_holes 42 = .ok (.iload_n 2, 1) := by decide +kernel
theorem dX6_holes_43 : decode cX6_holes 43 = .ok (.ireturn, 1) := by decide +kernel
theorem dX6_firstHole_0 : decode cX6_firstHole 0 = .ok (.iconst (-1), 1) := by decide +kernel
theorem dX6_firstHole_1 : decode cX6_firstHole 1 = .ok (.istore_n 2, 1) := by decide +kernel
theorem dX6_firstHole_2 : decode cX6_firstHole 2 = .ok (.aload_n 0, 1) := by decide +kernel
theorem dX6_firstHole_3 : decode cX6_firstHole 3 = .ok (.getfield 7, 3) := by decide +kernel
theorem dX6_firstHole_6 : decode cX6_firstHole 6 = .ok (.iload_n 1, 1) := by decide +kernel
theorem dX6_firstHole_7 : decode cX6_firstHole 7 = .ok (.iconst 0, 1) := by decide +kernel
theorem dX6_firstHole_8 : decode cX6_firstHole 8 = .ok (.invokestatic 36, 3) := by decide +kernel
theorem dX6_firstHole_11 : decode cX6_firstHole 11 = .ok (.iaload, 1) := by decide +kernel
theorem dX6_firstHole_12 : decode cX6_firstHole 12 = .ok (.iconst 1, 1) := by decide +kernel
theorem dX6_firstHole_13 : decode cX6_firstHole 13 = .ok (.isub, 1) := by decide +kernel
theorem dX6_firstHole_14 : decode cX6_firstHole 14 = .ok (.istore_n 3, 1) := by decide +kernel
theorem dX6_firstHole_15 : decode cX6_firstHole 15 = .ok (.iload_n 3, 1) := by decide +kernel
theorem dX6_firstHole_16 : decode cX6_firstHole 16 = .ok (.ifCond .lt 25, 3) := by decide +kernel
theorem dX6_firstHole_19 : decode cX6_firstHole 19 = .ok (.aload_n 0, 1) := by decide +kernel
theorem dX6_firstHole_20 : decode cX6_firstHole 20 = .ok (.iload_n 1, 1) := by decide +kernel
theorem dX6_firstHole_21 : decode cX6_firstHole 21 = .ok (.iload_n 3, 1) := by decide +kernel
theorem dX6_firstHole_22 : decode cX6_firstHole 22 = .ok (.invokevirtual 63, 3) := by decide +kernel
theorem dX6_firstHole_25 : decode cX6_firstHole 25 = .ok (.iconst (-1), 1) := by decide +kernel
theorem dX6_firstHole_26 : decode cX6_firstHole 26 = .ok (.if_icmp .ne 7, 3) := by decide +kernel
theorem dX6_firstHole_29 : decode cX6_firstHole 29 = .ok (.iload_n 3, 1) := by decide +kernel
theorem dX6_firstHole_30 : decode cX6_firstHole 30 = .ok (.goto 4, 3) := by decide +kernel
theorem dX6_firstHole_33 : decode cX6_firstHole 33 = .ok (.iload_n 2, 1) := by decide +kernel
theorem dX6_firstHole_34 : decode cX6_firstHole 34 = .ok (.istore_n 2, 1) := by decide +kernel
theorem dX6_firstHole_35 : decode cX6_firstHole 35 = .ok (.iinc 3 (-1), 3) := by decide +kernel
theorem dX6_firstHole_38 : decode cX6_firstHole 38 = .ok (.goto (-23), 3) := by decide +kernel
theorem dX6_firstHole_41 : decode cX6_firstHole 41 = .ok (.iload_n 2, 1) := by decide +kernel
theorem dX6_firstHole_42 : decode cX6_firstHole 42 = .ok (.ireturn, 1) := by decide +kernel
theorem dX6_holesSideBySide_0 : decode cX6_holesSideBySide 0 = .ok (.iconst 0, 1) := by decide +kernel
theorem dX6_holesSideBySide_1 : decode cX6_holesSideBySide 1 = .ok (.istore_n 2, 1) := by decide +kernel
theorem dX6_holesSideBySide_2 : decode cX6_holesSideBySide 2 = .ok (.iconst 0, 1) := by decide +kernel
theorem dX6_holesSideBySide_3 : decode cX6_holesSideBySide 3 = .ok (.istore_n 3, 1) := by decide +kernel
theorem dX6_holesSideBySide_4 : decode cX6_holesSideBySide 4 = .ok (.iconst 0, 1) := by decide +kernel
theorem dX6_holesSideBySide_5 : decode cX6_holesSideBySide 5 = .ok (.istore 4, 2) := by decide +kernel
theorem dX6_holesSideBySide_7 : decode cX6_holesSideBySide 7 = .ok (.iload 4, 2) := by decide +kernel
theorem dX6_holesSideBySide_9 : decode cX6_holesSideBySide 9 = .ok (.aload_n 0, 1) := by decide +kernel
theorem dX6_holesSideBySide_10 : decode cX6_holesSideBySide 10 = .ok (.getfield 7, 3) := by decide +kernel
theorem dX6_holesSideBySide_13 : decode cX6_holesSideBySide 13 = .ok (.iload_n 1, 1) := by decide +kernel
theorem dX6_holesSideBySide_14 : decode cX6_holesSideBySide 14 = .ok (.iconst 0, 1) := by decide +kernel
theorem dX6_holesSideBySide_15 : decode cX6_holesSideBySide 15 = .ok (.invokestatic 36, 3) := by decide +kernel
theorem dX6_holesSideBySide_18 : decode cX6_holesSideBySide 18 = .ok (.iaload, 1) := by decide +kernel
theorem dX6_holesSideBySide_19 : decode cX6_holesSideBySide 19 = .ok (.if_icmp .ge 39, 3) := by decide +kernel
theorem dX6_holesSideBySide_22 : decode cX6_holesSideBySide 22 = .ok (.aload_n 0, 1) := by decide +kernel
theorem dX6_holesSideBySide_23 : decode cX6_holesSideBySide 23 = .ok (.iload_n 1, 1) := by decide +kernel
theorem dX6_holesSideBySide_24 : decode cX6_holesSideBySide 24 = .ok (.iload 4, 2) := by decide +kernel
theorem dX6_holesSideBySide_26 : decode cX6_holesSideBySide 26 = .ok (.invokevirtual 63, 3) := by decide +kernel
theorem dX6_holesSideBySide_29 : decode cX6_holesSideBySide 29 = .ok (.iconst (-1), 1) := by decide +kernel
theorem dX6_holesSideBySide_30 : decode cX6_holesSideBySide 30 = .ok (.if_icmp .ne 9, 3) := by decide +kernel
theorem dX6_holesSideBySide_33 : decode cX6_holesSideBySide 33 = .ok (.iload_n 3, 1) := by decide +kernel
theorem dX6_holesSideBySide_34 : decode cX6_holesSideBySide 34 = .ok (.iconst 1, 1) := by decide +kernel
theorem dX6_holesSideBySide_35 : decode cX6_holesSideBySide 35 = .ok (.iadd, 1) := by decide +kernel
theorem dX6_holesSideBySide_36 : decode cX6_holesSideBySide 36 = .ok (.goto 4, 3) := by decide +kernel
theorem dX6_holesSideBySide_39 : decode cX6_holesSideBySide 39 = .ok (.iconst 0, 1) := by decide +kernel
theorem dX6_holesSideBySide_40 : decode cX6_holesSideBySide 40 = .ok (.istore_n 3, 1) := by decide +kernel
theorem dX6_holesSideBySide_41 : decode cX6_holesSideBySide 41 = .ok (.iload_n 3, 1) := by decide +kernel
theorem dX6_holesSideBySide_42 : decode cX6_holesSideBySide 42 = .ok (.iload_n 2, 1) := by decide +kernel
theorem dX6_holesSideBySide_43 : decode cX6_holesSideBySide 43 = .ok (.if_icmp .le 7, 3) := by decide +kernel
theorem dX6_holesSideBySide_46 : decode cX6_holesSideBySide 46 = .ok (.iload_n 3, 1) := by decide +kernel
theorem dX6_holesSideBySide_47 : decode cX6_holesSideBySide 47 = .ok (.goto 4, 3) := by decide +kernel
theorem dX6_holesSideBySide_50 : decode cX6_holesSideBySide 50 = .ok (.iload_n 2, 1) := by decide +kernel
theorem dX6_holesSideBySide_51 : decode cX6_holesSideBySide 51 = .ok (.istore_n 2, 1) := by decide +kernel
theorem dX6_holesSideBySide_52 : decode cX6_holesSideBySide 52 = .ok (.iinc 4 1, 3) := by decide +kernel
theorem dX6_holesSideBySide_55 : decode cX6_holesSideBySide 55 = .ok (.goto (-48), 3) := by decide +kernel
theorem dX6_holesSideBySide_58 : decode cX6_holesSideBySide 58 = .ok (.iload_n 2, 1) := by decide +kernel
theorem dX6_holesSideBySide_59 : decode cX6_holesSideBySide 59 = .ok (.ireturn, 1) := by decide +kernel
theorem dX6_divisor_0 : decode cX6_divisor 0 = .ok (.iload_n 0, 1) := by decide +kernel
theorem dX6_divisor_1 : decode cX6_divisor 1 = .ok (.istore_n 2, 1) := by decide +kernel
theorem dX6_divisor_2 : decode cX6_divisor 2 = .ok (.iload_n 1, 1) := by decide +kernel
theorem dX6_divisor_3 : decode cX6_divisor 3 = .ok (.istore_n 3, 1) := by decide +kernel
theorem dX6_divisor_4 : decode cX6_divisor 4 = .ok (.iload_n 3, 1) := by decide +kernel
theorem dX6_divisor_5 : decode cX6_divisor 5 = .ok (.ifCond .le 16, 3) := by decide +kernel
theorem dX6_divisor_8 : decode cX6_divisor 8 = .ok (.iload_n 2, 1) := by decide +kernel
theorem dX6_divisor_9 : decode cX6_divisor 9 = .ok (.iload_n 3, 1) := by decide +kernel
theorem dX6_divisor_10 : decode cX6_divisor 10 = .ok (.irem, 1) := by decide +kernel
theorem dX6_divisor_11 : decode cX6_divisor 11 = .ok (.istore 4, 2) := by decide +kernel
theorem dX6_divisor_13 : decode cX6_divisor 13 = .ok (.iload_n 3, 1) := by decide +kernel
theorem dX6_divisor_14 : decode cX6_divisor 14 = .ok (.istore_n 2, 1) := by decide +kernel
theorem dX6_divisor_15 : decode cX6_divisor 15 = .ok (.iload 4, 2) := by decide +kernel
theorem dX6_divisor_17 : decode cX6_divisor 17 = .ok (.istore_n 3, 1) := by decide +kernel
theorem dX6_divisor_18 : decode cX6_divisor 18 = .ok (.goto (-14), 3) := by decide +kernel
theorem dX6_divisor_21 : decode cX6_divisor 21 = .ok (.iload_n 2, 1) := by decide +kernel
theorem dX6_divisor_22 : decode cX6_divisor 22 = .ok (.ireturn, 1) := by decide +kernel
theorem dX6_period_0 : decode cX6_period 0 = .ok (.iconst 1, 1) := by decide +kernel
theorem dX6_period_1 : decode cX6_period 1 = .ok (.istore_n 2, 1) := by decide +kernel
theorem dX6_period_2 : decode cX6_period 2 = .ok (.iconst 0, 1) := by decide +kernel
theorem dX6_period_3 : decode cX6_period 3 = .ok (.istore_n 3, 1) := by decide +kernel
theorem dX6_period_4 : decode cX6_period 4 = .ok (.iload_n 3, 1) := by decide +kernel
theorem dX6_period_5 : decode cX6_period 5 = .ok (.bipush 8, 2) := by decide +kernel
theorem dX6_period_7 : decode cX6_period 7 = .ok (.if_icmp .ge 46, 3) := by decide +kernel
theorem dX6_period_10 : decode cX6_period 10 = .ok (.aload_n 0, 1) := by decide +kernel
theorem dX6_period_11 : decode cX6_period 11 = .ok (.iload_n 1, 1) := by decide +kernel
theorem dX6_period_12 : decode cX6_period 12 = .ok (.iload_n 3, 1) := by decide +kernel
theorem dX6_period_13 : decode cX6_period 13 = .ok (.invokevirtual 70, 3) := by decide +kernel
theorem dX6_period_16 : decode cX6_period 16 = .ok (.ifCond .eq 29, 3) := by decide +kernel
theorem dX6_period_19 : decode cX6_period 19 = .ok (.iload_n 2, 1) := by decide +kernel
theorem dX6_period_20 : decode cX6_period 20 = .ok (.iload_n 2, 1) := by decide +kernel
theorem dX6_period_21 : decode cX6_period 21 = .ok (.aload_n 0, 1) := by decide +kernel
theorem dX6_period_22 : decode cX6_period 22 = .ok (.getfield 7, 3) := by decide +kernel
theorem dX6_period_25 : decode cX6_period 25 = .ok (.iconst 0, 1) := by decide +kernel
theorem dX6_period_26 : decode cX6_period 26 = .ok (.iload_n 3, 1) := by decide +kernel
theorem dX6_period_27 : decode cX6_period 27 = .ok (.iadd, 1) := by decide +kernel
theorem dX6_period_28 : decode cX6_period 28 = .ok (.iaload, 1) := by decide +kernel
theorem dX6_period_29 : decode cX6_period 29 = .ok (.invokestatic 182, 3) := by decide +kernel
theorem dX6_period_32 : decode cX6_period 32 = .ok (.idiv, 1) := by decide +kernel
theorem dX6_period_33 : decode cX6_period 33 = .ok (.aload_n 0, 1) := by decide +kernel
theorem dX6_period_34 : decode cX6_period 34 = .ok (.getfield 7, 3) := by decide +kernel
theorem dX6_period_37 : decode cX6_period 37 = .ok (.iconst 0, 1) := by decide +kernel
theorem dX6_period_38 : decode cX6_period 38 = .ok (.iload_n 3, 1) := by decide +kernel
theorem dX6_period_39 : decode cX6_period 39 = .ok (.iadd, 1) := by decide +kernel
theorem dX6_period_40 : decode cX6_period 40 = .ok (.iaload, 1) := by decide +kernel
theorem dX6_period_41 : decode cX6_period 41 = .ok (.imul, 1) := by decide +kernel
theorem dX6_period_42 : decode cX6_period 42 = .ok (.goto 4, 3) := by decide +kernel
theorem dX6_period_45 : decode cX6_period 45 = .ok (.iload_n 2, 1) := by decide +kernel
theorem dX6_period_46 : decode cX6_period 46 = .ok (.istore_n 2, 1) := by decide +kernel
theorem dX6_period_47 : decode cX6_period 47 = .ok (.iinc 3 1, 3) := by decide +kernel
theorem dX6_period_50 : decode cX6_period 50 = .ok (.goto (-46), 3) := by decide +kernel
theorem dX6_period_53 : decode cX6_period 53 = .ok (.iload_n 2, 1) := by decide +kernel
theorem dX6_period_54 : decode cX6_period 54 = .ok (.ireturn, 1) := by decide +kernel
theorem dX6_toldOfRope_0 : decode cX6_toldOfRope 0 = .ok (.iload_n 2, 1) := by decide +kernel
theorem dX6_toldOfRope_1 : decode cX6_toldOfRope 1 = .ok (.tableswitch 64 0 4 #[35, 35, 46, 52, 58], 35) := by decide +kernel
theorem dX6_toldOfRope_36 : decode cX6_toldOfRope 36 = .ok (.aload_n 0, 1) := by decide +kernel
theorem dX6_toldOfRope_37 : decode cX6_toldOfRope 37 = .ok (.getfield 7, 3) := by decide +kernel
theorem dX6_toldOfRope_40 : decode cX6_toldOfRope 40 = .ok (.iload_n 1, 1) := by decide +kernel
theorem dX6_toldOfRope_41 : decode cX6_toldOfRope 41 = .ok (.iload_n 2, 1) := by decide +kernel
theorem dX6_toldOfRope_42 : decode cX6_toldOfRope 42 = .ok (.invokestatic 36, 3) := by decide +kernel
theorem dX6_toldOfRope_45 : decode cX6_toldOfRope 45 = .ok (.iaload, 1) := by decide +kernel
theorem dX6_toldOfRope_46 : decode cX6_toldOfRope 46 = .ok (.ireturn, 1) := by decide +kernel
theorem dX6_toldOfRope_47 : decode cX6_toldOfRope 47 = .ok (.aload_n 0, 1) := by decide +kernel
theorem dX6_toldOfRope_48 : decode cX6_toldOfRope 48 = .ok (.iload_n 1, 1) := by decide +kernel
theorem dX6_toldOfRope_49 : decode cX6_toldOfRope 49 = .ok (.invokevirtual 185, 3) := by decide +kernel
theorem dX6_toldOfRope_52 : decode cX6_toldOfRope 52 = .ok (.ireturn, 1) := by decide +kernel
theorem dX6_toldOfRope_53 : decode cX6_toldOfRope 53 = .ok (.aload_n 0, 1) := by decide +kernel
theorem dX6_toldOfRope_54 : decode cX6_toldOfRope 54 = .ok (.iload_n 1, 1) := by decide +kernel
theorem dX6_toldOfRope_55 : decode cX6_toldOfRope 55 = .ok (.invokevirtual 188, 3) := by decide +kernel
theorem dX6_toldOfRope_58 : decode cX6_toldOfRope 58 = .ok (.ireturn, 1) := by decide +kernel
theorem dX6_toldOfRope_59 : decode cX6_toldOfRope 59 = .ok (.aload_n 0, 1) := by decide +kernel
theorem dX6_toldOfRope_60 : decode cX6_toldOfRope 60 = .ok (.iload_n 1, 1) := by decide +kernel
theorem dX6_toldOfRope_61 : decode cX6_toldOfRope 61 = .ok (.invokevirtual 191, 3) := by decide +kernel
theorem dX6_toldOfRope_64 : decode cX6_toldOfRope 64 = .ok (.ireturn, 1) := by decide +kernel
theorem dX6_toldOfRope_65 : decode cX6_toldOfRope 65 = .ok (.aload_n 0, 1) := by decide +kernel
theorem dX6_toldOfRope_66 : decode cX6_toldOfRope 66 = .ok (.iload_n 1, 1) := by decide +kernel
theorem dX6_toldOfRope_67 : decode cX6_toldOfRope 67 = .ok (.invokevirtual 194, 3) := by decide +kernel
theorem dX6_toldOfRope_70 : decode cX6_toldOfRope 70 = .ok (.ireturn, 1) := by decide +kernel
theorem dX6_ropeOf_0 : decode cX6_ropeOf 0 = .ok (.aload_n 0, 1) := by decide +kernel
theorem dX6_ropeOf_1 : decode cX6_ropeOf 1 = .ok (.aload_n 0, 1) := by decide +kernel
theorem dX6_ropeOf_2 : decode cX6_ropeOf 2 = .ok (.iload_n 1, 1) := by decide +kernel
theorem dX6_ropeOf_3 : decode cX6_ropeOf 3 = .ok (.invokevirtual 90, 3) := by decide +kernel
theorem dX6_ropeOf_6 : decode cX6_ropeOf 6 = .ok (.ifCond .ne 7, 3) := by decide +kernel
theorem dX6_ropeOf_9 : decode cX6_ropeOf 9 = .ok (.iconst 1, 1) := by decide +kernel
theorem dX6_ropeOf_10 : decode cX6_ropeOf 10 = .ok (.goto 17, 3) := by decide +kernel
theorem dX6_ropeOf_13 : decode cX6_ropeOf 13 = .ok (.iload_n 2, 1) := by decide +kernel
theorem dX6_ropeOf_14 : decode cX6_ropeOf 14 = .ok (.iconst 0, 1) := by decide +kernel
theorem dX6_ropeOf_15 : decode cX6_ropeOf 15 = .ok (.iconst 5, 1) := by decide +kernel
theorem dX6_ropeOf_16 : decode cX6_ropeOf 16 = .ok (.invokestatic 32, 3) := by decide +kernel
theorem dX6_ropeOf_19 : decode cX6_ropeOf 19 = .ok (.ifCond .ne 7, 3) := by decide +kernel
theorem dX6_ropeOf_22 : decode cX6_ropeOf 22 = .ok (.iconst 2, 1) := by decide +kernel
theorem dX6_ropeOf_23 : decode cX6_ropeOf 23 = .ok (.goto 4, 3) := by decide +kernel
theorem dX6_ropeOf_26 : decode cX6_ropeOf 26 = .ok (.iconst 0, 1) := by decide +kernel
theorem dX6_ropeOf_27 : decode cX6_ropeOf 27 = .ok (.invokevirtual 81, 3) := by decide +kernel
theorem dX6_ropeOf_30 : decode cX6_ropeOf 30 = .ok (.ifCond .eq 12, 3) := by decide +kernel
theorem dX6_ropeOf_33 : decode cX6_ropeOf 33 = .ok (.aload_n 0, 1) := by decide +kernel
theorem dX6_ropeOf_34 : decode cX6_ropeOf 34 = .ok (.iload_n 1, 1) := by decide +kernel
theorem dX6_ropeOf_35 : decode cX6_ropeOf 35 = .ok (.iload_n 2, 1) := by decide +kernel
theorem dX6_ropeOf_36 : decode cX6_ropeOf 36 = .ok (.invokevirtual 197, 3) := by decide +kernel
theorem dX6_ropeOf_39 : decode cX6_ropeOf 39 = .ok (.goto 4, 3) := by decide +kernel
theorem dX6_ropeOf_42 : decode cX6_ropeOf 42 = .ok (.iconst 0, 1) := by decide +kernel
theorem dX6_ropeOf_43 : decode cX6_ropeOf 43 = .ok (.ireturn, 1) := by decide +kernel
theorem dX6_orderOf_0 : decode cX6_orderOf 0 = .ok (.iconst (-1), 1) := by decide +kernel
theorem dX6_orderOf_1 : decode cX6_orderOf 1 = .ok (.istore_n 3, 1) := by decide +kernel
theorem dX6_orderOf_2 : decode cX6_orderOf 2 = .ok (.iconst 0, 1) := by decide +kernel
theorem dX6_orderOf_3 : decode cX6_orderOf 3 = .ok (.istore 4, 2) := by decide +kernel
theorem dX6_orderOf_5 : decode cX6_orderOf 5 = .ok (.iload 4, 2) := by decide +kernel
theorem dX6_orderOf_7 : decode cX6_orderOf 7 = .ok (.aload_n 0, 1) := by decide +kernel
theorem dX6_orderOf_8 : decode cX6_orderOf 8 = .ok (.getfield 7, 3) := by decide +kernel
theorem dX6_orderOf_11 : decode cX6_orderOf 11 = .ok (.iload_n 1, 1) := by decide +kernel
theorem dX6_orderOf_12 : decode cX6_orderOf 12 = .ok (.iconst 1, 1) := by decide +kernel
theorem dX6_orderOf_13 : decode cX6_orderOf 13 = .ok (.invokestatic 36, 3) := by decide +kernel
theorem dX6_orderOf_16 : decode cX6_orderOf 16 = .ok (.iaload, 1) := by decide +kernel
theorem dX6_orderOf_17 : decode cX6_orderOf 17 = .ok (.if_icmp .ge 33, 3) := by decide +kernel
theorem dX6_orderOf_20 : decode cX6_orderOf 20 = .ok (.aload_n 0, 1) := by decide +kernel
theorem dX6_orderOf_21 : decode cX6_orderOf 21 = .ok (.getfield 7, 3) := by decide +kernel
theorem dX6_orderOf_24 : decode cX6_orderOf 24 = .ok (.iload_n 1, 1) := by decide +kernel
theorem dX6_orderOf_25 : decode cX6_orderOf 25 = .ok (.iconst 2, 1) := by decide +kernel
theorem dX6_orderOf_26 : decode cX6_orderOf 26 = .ok (.iload 4, 2) := by decide +kernel
theorem dX6_orderOf_28 : decode cX6_orderOf 28 = .ok (.iadd, 1) := by decide +kernel
theorem dX6_orderOf_29 : decode cX6_orderOf 29 = .ok (.invokestatic 36, 3) := by decide +kernel
theorem dX6_orderOf_32 : decode cX6_orderOf 32 = .ok (.iaload, 1) := by decide +kernel
theorem dX6_orderOf_33 : decode cX6_orderOf 33 = .ok (.iload_n 2, 1) := by decide +kernel
theorem dX6_orderOf_34 : decode cX6_orderOf 34 = .ok (.if_icmp .ne 8, 3) := by decide +kernel
theorem dX6_orderOf_37 : decode cX6_orderOf 37 = .ok (.iload 4, 2) := by decide +kernel
theorem dX6_orderOf_39 : decode cX6_orderOf 39 = .ok (.goto 4, 3) := by decide +kernel
theorem dX6_orderOf_42 : decode cX6_orderOf 42 = .ok (.iload_n 3, 1) := by decide +kernel
theorem dX6_orderOf_43 : decode cX6_orderOf 43 = .ok (.istore_n 3, 1) := by decide +kernel
theorem dX6_orderOf_44 : decode cX6_orderOf 44 = .ok (.iinc 4 1, 3) := by decide +kernel
theorem dX6_orderOf_47 : decode cX6_orderOf 47 = .ok (.goto (-42), 3) := by decide +kernel
theorem dX6_orderOf_50 : decode cX6_orderOf 50 = .ok (.iload_n 3, 1) := by decide +kernel
theorem dX6_orderOf_51 : decode cX6_orderOf 51 = .ok (.ireturn, 1) := by decide +kernel
theorem dX6_toldOfHue_0 : decode cX6_toldOfHue 0 = .ok (.aload_n 0, 1) := by decide +kernel
theorem dX6_toldOfHue_1 : decode cX6_toldOfHue 1 = .ok (.iload_n 1, 1) := by decide +kernel
theorem dX6_toldOfHue_2 : decode cX6_toldOfHue 2 = .ok (.iload_n 2, 1) := by decide +kernel
theorem dX6_toldOfHue_3 : decode cX6_toldOfHue 3 = .ok (.invokevirtual 70, 3) := by decide +kernel
theorem dX6_toldOfHue_6 : decode cX6_toldOfHue 6 = .ok (.ifCond .ne 5, 3) := by decide +kernel
theorem dX6_toldOfHue_9 : decode cX6_toldOfHue 9 = .ok (.iconst (-1), 1) := by decide +kernel
theorem dX6_toldOfHue_10 : decode cX6_toldOfHue 10 = .ok (.ireturn, 1) := by decide +kernel
theorem dX6_toldOfHue_11 : decode cX6_toldOfHue 11 = .ok (.iload_n 3, 1) := by decide +kernel
theorem dX6_toldOfHue_12 : decode cX6_toldOfHue 12 = .ok (.ifCond .ne 12, 3) := by decide +kernel
theorem dX6_toldOfHue_15 : decode cX6_toldOfHue 15 = .ok (.aload_n 0, 1) := by decide +kernel
theorem dX6_toldOfHue_16 : decode cX6_toldOfHue 16 = .ok (.iload_n 1, 1) := by decide +kernel
theorem dX6_toldOfHue_17 : decode cX6_toldOfHue 17 = .ok (.iload_n 2, 1) := by decide +kernel
theorem dX6_toldOfHue_18 : decode cX6_toldOfHue 18 = .ok (.invokevirtual 40, 3) := by decide +kernel
theorem dX6_toldOfHue_21 : decode cX6_toldOfHue 21 = .ok (.goto 37, 3) := by decide +kernel
theorem dX6_toldOfHue_24 : decode cX6_toldOfHue 24 = .ok (.iload_n 3, 1) := by decide +kernel
theorem dX6_toldOfHue_25 : decode cX6_toldOfHue 25 = .ok (.iconst 1, 1) := by decide +kernel
theorem dX6_toldOfHue_26 : decode cX6_toldOfHue 26 = .ok (.if_icmp .ne 12, 3) := by decide +kernel
theorem dX6_toldOfHue_29 : decode cX6_toldOfHue 29 = .ok (.aload_n 0, 1) := by decide +kernel
theorem dX6_toldOfHue_30 : decode cX6_toldOfHue 30 = .ok (.iload_n 1, 1) := by decide +kernel
theorem dX6_toldOfHue_31 : decode cX6_toldOfHue 31 = .ok (.iload_n 2, 1) := by decide +kernel
theorem dX6_toldOfHue_32 : decode cX6_toldOfHue 32 = .ok (.invokevirtual 106, 3) := by decide +kernel
theorem dX6_toldOfHue_35 : decode cX6_toldOfHue 35 = .ok (.goto 23, 3) := by decide +kernel
theorem dX6_toldOfHue_38 : decode cX6_toldOfHue 38 = .ok (.iload_n 3, 1) := by decide +kernel
theorem dX6_toldOfHue_39 : decode cX6_toldOfHue 39 = .ok (.iconst 2, 1) := by decide +kernel
theorem dX6_toldOfHue_40 : decode cX6_toldOfHue 40 = .ok (.if_icmp .ne 12, 3) := by decide +kernel
theorem dX6_toldOfHue_43 : decode cX6_toldOfHue 43 = .ok (.aload_n 0, 1) := by decide +kernel
theorem dX6_toldOfHue_44 : decode cX6_toldOfHue 44 = .ok (.iload_n 1, 1) := by decide +kernel
theorem dX6_toldOfHue_45 : decode cX6_toldOfHue 45 = .ok (.iload_n 2, 1) := by decide +kernel
theorem dX6_toldOfHue_46 : decode cX6_toldOfHue 46 = .ok (.invokevirtual 60, 3) := by decide +kernel
theorem dX6_toldOfHue_49 : decode cX6_toldOfHue 49 = .ok (.goto 9, 3) := by decide +kernel
theorem dX6_toldOfHue_52 : decode cX6_toldOfHue 52 = .ok (.aload_n 0, 1) := by decide +kernel
theorem dX6_toldOfHue_53 : decode cX6_toldOfHue 53 = .ok (.iload_n 1, 1) := by decide +kernel
theorem dX6_toldOfHue_54 : decode cX6_toldOfHue 54 = .ok (.iload_n 2, 1) := by decide +kernel
theorem dX6_toldOfHue_55 : decode cX6_toldOfHue 55 = .ok (.invokevirtual 200, 3) := by decide +kernel
theorem dX6_toldOfHue_58 : decode cX6_toldOfHue 58 = .ok (.ireturn, 1) := by decide +kernel
theorem dX6_hueOf_0 : decode cX6_hueOf 0 = .ok (.aload_n 0, 1) := by decide +kernel
theorem dX6_hueOf_1 : decode cX6_hueOf 1 = .ok (.aload_n 0, 1) := by decide +kernel
theorem dX6_hueOf_2 : decode cX6_hueOf 2 = .ok (.iload_n 1, 1) := by decide +kernel
theorem dX6_hueOf_3 : decode cX6_hueOf 3 = .ok (.iload_n 2, 1) := by decide +kernel
theorem dX6_hueOf_4 : decode cX6_hueOf 4 = .ok (.invokevirtual 96, 3) := by decide +kernel
theorem dX6_hueOf_7 : decode cX6_hueOf 7 = .ok (.ifCond .ne 7, 3) := by decide +kernel
theorem dX6_hueOf_10 : decode cX6_hueOf 10 = .ok (.iconst 1, 1) := by decide +kernel
theorem dX6_hueOf_11 : decode cX6_hueOf 11 = .ok (.goto 17, 3) := by decide +kernel
theorem dX6_hueOf_14 : decode cX6_hueOf 14 = .ok (.iload_n 3, 1) := by decide +kernel
theorem dX6_hueOf_15 : decode cX6_hueOf 15 = .ok (.iconst 0, 1) := by decide +kernel
theorem dX6_hueOf_16 : decode cX6_hueOf 16 = .ok (.iconst 3, 1) := by decide +kernel
theorem dX6_hueOf_17 : decode cX6_hueOf 17 = .ok (.invokestatic 32, 3) := by decide +kernel
theorem dX6_hueOf_20 : decode cX6_hueOf 20 = .ok (.ifCond .ne 7, 3) := by decide +kernel
theorem dX6_hueOf_23 : decode cX6_hueOf 23 = .ok (.iconst 2, 1) := by decide +kernel
theorem dX6_hueOf_24 : decode cX6_hueOf 24 = .ok (.goto 4, 3) := by decide +kernel
theorem dX6_hueOf_27 : decode cX6_hueOf 27 = .ok (.iconst 0, 1) := by decide +kernel
theorem dX6_hueOf_28 : decode cX6_hueOf 28 = .ok (.invokevirtual 81, 3) := by decide +kernel
theorem dX6_hueOf_31 : decode cX6_hueOf 31 = .ok (.ifCond .eq 13, 3) := by decide +kernel
theorem dX6_hueOf_34 : decode cX6_hueOf 34 = .ok (.aload_n 0, 1) := by decide +kernel
theorem dX6_hueOf_35 : decode cX6_hueOf 35 = .ok (.iload_n 1, 1) := by decide +kernel
theorem dX6_hueOf_36 : decode cX6_hueOf 36 = .ok (.iload_n 2, 1) := by decide +kernel
theorem dX6_hueOf_37 : decode cX6_hueOf 37 = .ok (.iload_n 3, 1) := by decide +kernel
theorem dX6_hueOf_38 : decode cX6_hueOf 38 = .ok (.invokevirtual 203, 3) := by decide +kernel
theorem dX6_hueOf_41 : decode cX6_hueOf 41 = .ok (.goto 4, 3) := by decide +kernel
theorem dX6_hueOf_44 : decode cX6_hueOf 44 = .ok (.iconst 0, 1) := by decide +kernel
theorem dX6_hueOf_45 : decode cX6_hueOf 45 = .ok (.ireturn, 1) := by decide +kernel
theorem dX6_gapOf_0 : decode cX6_gapOf 0 = .ok (.aload_n 0, 1) := by decide +kernel
theorem dX6_gapOf_1 : decode cX6_gapOf 1 = .ok (.iload_n 1, 1) := by decide +kernel
theorem dX6_gapOf_2 : decode cX6_gapOf 2 = .ok (.invokestatic 74, 3) := by decide +kernel
theorem dX6_gapOf_5 : decode cX6_gapOf 5 = .ok (.ifCond .eq 7, 3) := by decide +kernel
theorem dX6_gapOf_8 : decode cX6_gapOf 8 = .ok (.iconst 0, 1) := by decide +kernel
theorem dX6_gapOf_9 : decode cX6_gapOf 9 = .ok (.goto 4, 3) := by decide +kernel
theorem dX6_gapOf_12 : decode cX6_gapOf 12 = .ok (.iconst 1, 1) := by decide +kernel
theorem dX6_gapOf_13 : decode cX6_gapOf 13 = .ok (.invokevirtual 81, 3) := by decide +kernel
theorem dX6_gapOf_16 : decode cX6_gapOf 16 = .ok (.ifCond .eq 14, 3) := by decide +kernel
theorem dX6_gapOf_19 : decode cX6_gapOf 19 = .ok (.aload_n 0, 1) := by decide +kernel
theorem dX6_gapOf_20 : decode cX6_gapOf 20 = .ok (.getfield 7, 3) := by decide +kernel
theorem dX6_gapOf_23 : decode cX6_gapOf 23 = .ok (.iconst 0, 1) := by decide +kernel
theorem dX6_gapOf_24 : decode cX6_gapOf 24 = .ok (.iload_n 1, 1) := by decide +kernel
theorem dX6_gapOf_25 : decode cX6_gapOf 25 = .ok (.iadd, 1) := by decide +kernel
theorem dX6_gapOf_26 : decode cX6_gapOf 26 = .ok (.iaload, 1) := by decide +kernel
theorem dX6_gapOf_27 : decode cX6_gapOf 27 = .ok (.goto 4, 3) := by decide +kernel
theorem dX6_gapOf_30 : decode cX6_gapOf 30 = .ok (.iconst 0, 1) := by decide +kernel
theorem dX6_gapOf_31 : decode cX6_gapOf 31 = .ok (.ireturn, 1) := by decide +kernel
theorem dX6_sum_0 : decode cX6_sum 0 = .ok (.iconst 0, 1) := by decide +kernel
theorem dX6_sum_1 : decode cX6_sum 1 = .ok (.istore_n 2, 1) := by decide +kernel
theorem dX6_sum_2 : decode cX6_sum 2 = .ok (.iconst 0, 1) := by decide +kernel
theorem dX6_sum_3 : decode cX6_sum 3 = .ok (.istore_n 3, 1) := by decide +kernel
theorem dX6_sum_4 : decode cX6_sum 4 = .ok (.iload_n 3, 1) := by decide +kernel
theorem dX6_sum_5 : decode cX6_sum 5 = .ok (.aload_n 0, 1) := by decide +kernel
theorem dX6_sum_6 : decode cX6_sum 6 = .ok (.getfield 7, 3) := by decide +kernel
theorem dX6_sum_9 : decode cX6_sum 9 = .ok (.bipush 8, 2) := by decide +kernel
theorem dX6_sum_11 : decode cX6_sum 11 = .ok (.iaload, 1) := by decide +kernel
theorem dX6_sum_12 : decode cX6_sum 12 = .ok (.if_icmp .ge 34, 3) := by decide +kernel
theorem dX6_sum_15 : decode cX6_sum 15 = .ok (.iload_n 2, 1) := by decide +kernel
theorem dX6_sum_16 : decode cX6_sum 16 = .ok (.iload_n 1, 1) := by decide +kernel
theorem dX6_sum_17 : decode cX6_sum 17 = .ok (.ifCond .eq 11, 3) := by decide +kernel
theorem dX6_sum_20 : decode cX6_sum 20 = .ok (.aload_n 0, 1) := by decide +kernel
theorem dX6_sum_21 : decode cX6_sum 21 = .ok (.iload_n 3, 1) := by decide +kernel
theorem dX6_sum_22 : decode cX6_sum 22 = .ok (.invokevirtual 185, 3) := by decide +kernel
theorem dX6_sum_25 : decode cX6_sum 25 = .ok (.goto 13, 3) := by decide +kernel
theorem dX6_sum_28 : decode cX6_sum 28 = .ok (.aload_n 0, 1) := by decide +kernel
theorem dX6_sum_29 : decode cX6_sum 29 = .ok (.getfield 7, 3) := by decide +kernel
theorem dX6_sum_32 : decode cX6_sum 32 = .ok (.iload_n 3, 1) := by decide +kernel
theorem dX6_sum_33 : decode cX6_sum 33 = .ok (.iconst 0, 1) := by decide +kernel
theorem dX6_sum_34 : decode cX6_sum 34 = .ok (.invokestatic 36, 3) := by decide +kernel
theorem dX6_sum_37 : decode cX6_sum 37 = .ok (.iaload, 1) := by decide +kernel
theorem dX6_sum_38 : decode cX6_sum 38 = .ok (.iadd, 1) := by decide +kernel
theorem dX6_sum_39 : decode cX6_sum 39 = .ok (.istore_n 2, 1) := by decide +kernel
theorem dX6_sum_40 : decode cX6_sum 40 = .ok (.iinc 3 1, 3) := by decide +kernel
theorem dX6_sum_43 : decode cX6_sum 43 = .ok (.goto (-39), 3) := by decide +kernel
theorem dX6_sum_46 : decode cX6_sum 46 = .ok (.iload_n 2, 1) := by decide +kernel
theorem dX6_sum_47 : decode cX6_sum 47 = .ok (.ireturn, 1) := by decide +kernel
theorem dX6_huesLaid_0 : decode cX6_huesLaid 0 = .ok (.iconst 0, 1) := by decide +kernel
theorem dX6_huesLaid_1 : decode cX6_huesLaid 1 = .ok (.istore_n 1, 1) := by decide +kernel
theorem dX6_huesLaid_2 : decode cX6_huesLaid 2 = .ok (.iconst 0, 1) := by decide +kernel
theorem dX6_huesLaid_3 : decode cX6_huesLaid 3 = .ok (.istore_n 2, 1) := by decide +kernel
theorem dX6_huesLaid_4 : decode cX6_huesLaid 4 = .ok (.iload_n 2, 1) := by decide +kernel
theorem dX6_huesLaid_5 : decode cX6_huesLaid 5 = .ok (.bipush 8, 2) := by decide +kernel
theorem dX6_huesLaid_7 : decode cX6_huesLaid 7 = .ok (.if_icmp .ge 25, 3) := by decide +kernel
theorem dX6_huesLaid_10 : decode cX6_huesLaid 10 = .ok (.iload_n 1, 1) := by decide +kernel
theorem dX6_huesLaid_11 : decode cX6_huesLaid 11 = .ok (.aload_n 0, 1) := by decide +kernel
theorem dX6_huesLaid_12 : decode cX6_huesLaid 12 = .ok (.iload_n 2, 1) := by decide +kernel
theorem dX6_huesLaid_13 : decode cX6_huesLaid 13 = .ok (.invokevirtual 78, 3) := by decide +kernel
theorem dX6_huesLaid_16 : decode cX6_huesLaid 16 = .ok (.ifCond .eq 7, 3) := by decide +kernel
theorem dX6_huesLaid_19 : decode cX6_huesLaid 19 = .ok (.iconst 1, 1) := by decide +kernel
theorem dX6_huesLaid_20 : decode cX6_huesLaid 20 = .ok (.goto 4, 3) := by decide +kernel
theorem dX6_huesLaid_23 : decode cX6_huesLaid 23 = .ok (.iconst 0, 1) := by decide +kernel
theorem dX6_huesLaid_24 : decode cX6_huesLaid 24 = .ok (.iadd, 1) := by decide +kernel
theorem dX6_huesLaid_25 : decode cX6_huesLaid 25 = .ok (.istore_n 1, 1) := by decide +kernel
theorem dX6_huesLaid_26 : decode cX6_huesLaid 26 = .ok (.iinc 2 1, 3) := by decide +kernel
theorem dX6_huesLaid_29 : decode cX6_huesLaid 29 = .ok (.goto (-25), 3) := by decide +kernel
theorem dX6_huesLaid_32 : decode cX6_huesLaid 32 = .ok (.iload_n 1, 1) := by decide +kernel
theorem dX6_huesLaid_33 : decode cX6_huesLaid 33 = .ok (.ireturn, 1) := by decide +kernel
theorem dX6_counted_0 : decode cX6_counted 0 = .ok (.iload_n 1, 1) := by decide +kernel
theorem dX6_counted_1 : decode cX6_counted 1 = .ok (.tableswitch 83 0 6 #[43, 51, 51, 66, 71, 71, 71], 43) := by decide +kernel
theorem dX6_counted_44 : decode cX6_counted 44 = .ok (.aload_n 0, 1) := by decide +kernel
theorem dX6_counted_45 : decode cX6_counted 45 = .ok (.getfield 7, 3) := by decide +kernel
theorem dX6_counted_48 : decode cX6_counted 48 = .ok (.bipush 8, 2) := by decide +kernel
theorem dX6_counted_50 : decode cX6_counted 50 = .ok (.iaload, 1) := by decide +kernel
theorem dX6_counted_51 : decode cX6_counted 51 = .ok (.ireturn, 1) := by decide +kernel
theorem dX6_counted_52 : decode cX6_counted 52 = .ok (.aload_n 0, 1) := by decide +kernel
theorem dX6_counted_53 : decode cX6_counted 53 = .ok (.iload_n 1, 1) := by decide +kernel
theorem dX6_counted_54 : decode cX6_counted 54 = .ok (.iconst 2, 1) := by decide +kernel
theorem dX6_counted_55 : decode cX6_counted 55 = .ok (.if_icmp .ne 7, 3) := by decide +kernel
theorem dX6_counted_58 : decode cX6_counted 58 = .ok (.iconst 1, 1) := by decide +kernel
theorem dX6_counted_59 : decode cX6_counted 59 = .ok (.goto 4, 3) := by decide +kernel
theorem dX6_counted_62 : decode cX6_counted 62 = .ok (.iconst 0, 1) := by decide +kernel
theorem dX6_counted_63 : decode cX6_counted 63 = .ok (.invokevirtual 206, 3) := by decide +kernel
theorem dX6_counted_66 : decode cX6_counted 66 = .ok (.ireturn, 1) := by decide +kernel
theorem dX6_counted_67 : decode cX6_counted 67 = .ok (.aload_n 0, 1) := by decide +kernel
theorem dX6_counted_68 : decode cX6_counted 68 = .ok (.invokevirtual 209, 3) := by decide +kernel
theorem dX6_counted_71 : decode cX6_counted 71 = .ok (.ireturn, 1) := by decide +kernel
theorem dX6_counted_72 : decode cX6_counted 72 = .ok (.aload_n 0, 1) := by decide +kernel
theorem dX6_counted_73 : decode cX6_counted 73 = .ok (.getfield 7, 3) := by decide +kernel
theorem dX6_counted_76 : decode cX6_counted 76 = .ok (.bipush 9, 2) := by decide +kernel
theorem dX6_counted_78 : decode cX6_counted 78 = .ok (.iload_n 1, 1) := by decide +kernel
theorem dX6_counted_79 : decode cX6_counted 79 = .ok (.iadd, 1) := by decide +kernel
theorem dX6_counted_80 : decode cX6_counted 80 = .ok (.iconst 4, 1) := by decide +kernel
theorem dX6_counted_81 : decode cX6_counted 81 = .ok (.isub, 1) := by decide +kernel
theorem dX6_counted_82 : decode cX6_counted 82 = .ok (.iaload, 1) := by decide +kernel
theorem dX6_counted_83 : decode cX6_counted 83 = .ok (.ireturn, 1) := by decide +kernel
theorem dX6_counted_84 : decode cX6_counted 84 = .ok (.aload_n 0, 1) := by decide +kernel
theorem dX6_counted_85 : decode cX6_counted 85 = .ok (.getfield 43, 3) := by decide +kernel
theorem dX6_counted_88 : decode cX6_counted 88 = .ok (.ireturn, 1) := by decide +kernel
theorem dX6_count_0 : decode cX6_count 0 = .ok (.aload_n 0, 1) := by decide +kernel
theorem dX6_count_1 : decode cX6_count 1 = .ok (.iload_n 1, 1) := by decide +kernel
theorem dX6_count_2 : decode cX6_count 2 = .ok (.iconst 0, 1) := by decide +kernel
theorem dX6_count_3 : decode cX6_count 3 = .ok (.bipush 7, 2) := by decide +kernel
theorem dX6_count_5 : decode cX6_count 5 = .ok (.invokestatic 32, 3) := by decide +kernel
theorem dX6_count_8 : decode cX6_count 8 = .ok (.ifCond .eq 7, 3) := by decide +kernel
theorem dX6_count_11 : decode cX6_count 11 = .ok (.iconst 0, 1) := by decide +kernel
theorem dX6_count_12 : decode cX6_count 12 = .ok (.goto 4, 3) := by decide +kernel
theorem dX6_count_15 : decode cX6_count 15 = .ok (.iconst 1, 1) := by decide +kernel
theorem dX6_count_16 : decode cX6_count 16 = .ok (.invokevirtual 81, 3) := by decide +kernel
theorem dX6_count_19 : decode cX6_count 19 = .ok (.ifCond .eq 11, 3) := by decide +kernel
theorem dX6_count_22 : decode cX6_count 22 = .ok (.aload_n 0, 1) := by decide +kernel
theorem dX6_count_23 : decode cX6_count 23 = .ok (.iload_n 1, 1) := by decide +kernel
theorem dX6_count_24 : decode cX6_count 24 = .ok (.invokevirtual 213, 3) := by decide +kernel
theorem dX6_count_27 : decode cX6_count 27 = .ok (.goto 4, 3) := by decide +kernel
theorem dX6_count_30 : decode cX6_count 30 = .ok (.iconst 0, 1) := by decide +kernel
theorem dX6_count_31 : decode cX6_count 31 = .ok (.ireturn, 1) := by decide +kernel
theorem dX6_refusal_0 : decode cX6_refusal 0 = .ok (.aload_n 0, 1) := by decide +kernel
theorem dX6_refusal_1 : decode cX6_refusal 1 = .ok (.aload_n 0, 1) := by decide +kernel
theorem dX6_refusal_2 : decode cX6_refusal 2 = .ok (.iload_n 1, 1) := by decide +kernel
theorem dX6_refusal_3 : decode cX6_refusal 3 = .ok (.iload_n 2, 1) := by decide +kernel
theorem dX6_refusal_4 : decode cX6_refusal 4 = .ok (.invokevirtual 96, 3) := by decide +kernel
theorem dX6_refusal_7 : decode cX6_refusal 7 = .ok (.ifCond .ne 7, 3) := by decide +kernel
theorem dX6_refusal_10 : decode cX6_refusal 10 = .ok (.iconst 1, 1) := by decide +kernel
theorem dX6_refusal_11 : decode cX6_refusal 11 = .ok (.goto 17, 3) := by decide +kernel
theorem dX6_refusal_14 : decode cX6_refusal 14 = .ok (.aload_n 0, 1) := by decide +kernel
theorem dX6_refusal_15 : decode cX6_refusal 15 = .ok (.iload_n 2, 1) := by decide +kernel
theorem dX6_refusal_16 : decode cX6_refusal 16 = .ok (.iload_n 3, 1) := by decide +kernel
theorem dX6_refusal_17 : decode cX6_refusal 17 = .ok (.invokevirtual 99, 3) := by decide +kernel
theorem dX6_refusal_20 : decode cX6_refusal 20 = .ok (.ifCond .ne 7, 3) := by decide +kernel
theorem dX6_refusal_23 : decode cX6_refusal 23 = .ok (.iconst 2, 1) := by decide +kernel
theorem dX6_refusal_24 : decode cX6_refusal 24 = .ok (.goto 4, 3) := by decide +kernel
theorem dX6_refusal_27 : decode cX6_refusal 27 = .ok (.iconst 0, 1) := by decide +kernel
theorem dX6_refusal_28 : decode cX6_refusal 28 = .ok (.invokevirtual 81, 3) := by decide +kernel
theorem dX6_refusal_31 : decode cX6_refusal 31 = .ok (.ifCond .eq 13, 3) := by decide +kernel
theorem dX6_refusal_34 : decode cX6_refusal 34 = .ok (.aload_n 0, 1) := by decide +kernel
theorem dX6_refusal_35 : decode cX6_refusal 35 = .ok (.iload_n 1, 1) := by decide +kernel
theorem dX6_refusal_36 : decode cX6_refusal 36 = .ok (.iload_n 2, 1) := by decide +kernel
theorem dX6_refusal_37 : decode cX6_refusal 37 = .ok (.iload_n 3, 1) := by decide +kernel
theorem dX6_refusal_38 : decode cX6_refusal 38 = .ok (.invokevirtual 102, 3) := by decide +kernel
theorem dX6_refusal_41 : decode cX6_refusal 41 = .ok (.goto 4, 3) := by decide +kernel
theorem dX6_refusal_44 : decode cX6_refusal 44 = .ok (.iconst 0, 1) := by decide +kernel
theorem dX6_refusal_45 : decode cX6_refusal 45 = .ok (.ireturn, 1) := by decide +kernel
theorem dX6_meet_0 : decode cX6_meet 0 = .ok (.iload_n 2, 1) := by decide +kernel
theorem dX6_meet_1 : decode cX6_meet 1 = .ok (.iload 4, 2) := by decide +kernel
theorem dX6_meet_3 : decode cX6_meet 3 = .ok (.if_icmp .le 7, 3) := by decide +kernel
theorem dX6_meet_6 : decode cX6_meet 6 = .ok (.iload_n 2, 1) := by decide +kernel
theorem dX6_meet_7 : decode cX6_meet 7 = .ok (.goto 5, 3) := by decide +kernel
theorem dX6_meet_10 : decode cX6_meet 10 = .ok (.iload 4, 2) := by decide +kernel
theorem dX6_meet_12 : decode cX6_meet 12 = .ok (.istore 5, 2) := by decide +kernel
theorem dX6_meet_14 : decode cX6_meet 14 = .ok (.iload 5, 2) := by decide +kernel
theorem dX6_meet_16 : decode cX6_meet 16 = .ok (.sipush 800, 3) := by decide +kernel
theorem dX6_meet_19 : decode cX6_meet 19 = .ok (.if_icmp .ge 45, 3) := by decide +kernel
theorem dX6_meet_22 : decode cX6_meet 22 = .ok (.iload 5, 2) := by decide +kernel
theorem dX6_meet_24 : decode cX6_meet 24 = .ok (.iload_n 2, 1) := by decide +kernel
theorem dX6_meet_25 : decode cX6_meet 25 = .ok (.isub, 1) := by decide +kernel
theorem dX6_meet_26 : decode cX6_meet 26 = .ok (.aload_n 0, 1) := by decide +kernel
theorem dX6_meet_27 : decode cX6_meet 27 = .ok (.getfield 7, 3) := by decide +kernel
theorem dX6_meet_30 : decode cX6_meet 30 = .ok (.iconst 0, 1) := by decide +kernel
theorem dX6_meet_31 : decode cX6_meet 31 = .ok (.iload_n 1, 1) := by decide +kernel
theorem dX6_meet_32 : decode cX6_meet 32 = .ok (.iadd, 1) := by decide +kernel
theorem dX6_meet_33 : decode cX6_meet 33 = .ok (.iaload, 1) := by decide +kernel
theorem dX6_meet_34 : decode cX6_meet 34 = .ok (.irem, 1) := by decide +kernel
theorem dX6_meet_35 : decode cX6_meet 35 = .ok (.ifCond .ne 23, 3) := by decide +kernel
theorem dX6_meet_38 : decode cX6_meet 38 = .ok (.iload 5, 2) := by decide +kernel
theorem dX6_meet_40 : decode cX6_meet 40 = .ok (.iload 4, 2) := by decide +kernel
theorem dX6_meet_42 : decode cX6_meet 42 = .ok (.isub, 1) := by decide +kernel
theorem dX6_meet_43 : decode cX6_meet 43 = .ok (.aload_n 0, 1) := by decide +kernel
theorem dX6_meet_44 : decode cX6_meet 44 = .ok (.getfield 7, 3) := by decide +kernel
theorem dX6_meet_47 : decode cX6_meet 47 = .ok (.iconst 0, 1) := by decide +kernel
theorem dX6_meet_48 : decode cX6_meet 48 = .ok (.iload_n 3, 1) := by decide +kernel
theorem dX6_meet_49 : decode cX6_meet 49 = .ok (.iadd, 1) := by decide +kernel
theorem dX6_meet_50 : decode cX6_meet 50 = .ok (.iaload, 1) := by decide +kernel
theorem dX6_meet_51 : decode cX6_meet 51 = .ok (.irem, 1) := by decide +kernel
theorem dX6_meet_52 : decode cX6_meet 52 = .ok (.ifCond .ne 6, 3) := by decide +kernel
theorem dX6_meet_55 : decode cX6_meet 55 = .ok (.iload 5, 2) := by decide +kernel
theorem dX6_meet_57 : decode cX6_meet 57 = .ok (.ireturn, 1) := by decide +kernel
theorem dX6_meet_58 : decode cX6_meet 58 = .ok (.iinc 5 1, 3) := by decide +kernel
theorem dX6_meet_61 : decode cX6_meet 61 = .ok (.goto (-47), 3) := by decide +kernel
theorem dX6_meet_64 : decode cX6_meet 64 = .ok (.iconst (-1), 1) := by decide +kernel
theorem dX6_meet_65 : decode cX6_meet 65 = .ok (.ireturn, 1) := by decide +kernel
theorem dX6_canMeet_0 : decode cX6_canMeet 0 = .ok (.iload_n 1, 1) := by decide +kernel
theorem dX6_canMeet_1 : decode cX6_canMeet 1 = .ok (.invokestatic 74, 3) := by decide +kernel
theorem dX6_canMeet_4 : decode cX6_canMeet 4 = .ok (.ifCond .eq 14, 3) := by decide +kernel
theorem dX6_canMeet_7 : decode cX6_canMeet 7 = .ok (.iload_n 3, 1) := by decide +kernel
theorem dX6_canMeet_8 : decode cX6_canMeet 8 = .ok (.invokestatic 74, 3) := by decide +kernel
theorem dX6_canMeet_11 : decode cX6_canMeet 11 = .ok (.ifCond .eq 7, 3) := by decide +kernel
theorem dX6_canMeet_14 : decode cX6_canMeet 14 = .ok (.iconst 1, 1) := by decide +kernel
theorem dX6_canMeet_15 : decode cX6_canMeet 15 = .ok (.goto 4, 3) := by decide +kernel
theorem dX6_canMeet_18 : decode cX6_canMeet 18 = .ok (.iconst 0, 1) := by decide +kernel
theorem dX6_canMeet_19 : decode cX6_canMeet 19 = .ok (.istore 5, 2) := by decide +kernel
theorem dX6_canMeet_21 : decode cX6_canMeet 21 = .ok (.aload_n 0, 1) := by decide +kernel
theorem dX6_canMeet_22 : decode cX6_canMeet 22 = .ok (.iload 5, 2) := by decide +kernel
theorem dX6_canMeet_24 : decode cX6_canMeet 24 = .ok (.ifCond .ne 7, 3) := by decide +kernel
theorem dX6_canMeet_27 : decode cX6_canMeet 27 = .ok (.iconst 1, 1) := by decide +kernel
theorem dX6_canMeet_28 : decode cX6_canMeet 28 = .ok (.goto 27, 3) := by decide +kernel
theorem dX6_canMeet_31 : decode cX6_canMeet 31 = .ok (.aload_n 0, 1) := by decide +kernel
theorem dX6_canMeet_32 : decode cX6_canMeet 32 = .ok (.iload_n 1, 1) := by decide +kernel
theorem dX6_canMeet_33 : decode cX6_canMeet 33 = .ok (.iload_n 2, 1) := by decide +kernel
theorem dX6_canMeet_34 : decode cX6_canMeet 34 = .ok (.invokevirtual 99, 3) := by decide +kernel
theorem dX6_canMeet_37 : decode cX6_canMeet 37 = .ok (.ifCond .eq 13, 3) := by decide +kernel
theorem dX6_canMeet_40 : decode cX6_canMeet 40 = .ok (.aload_n 0, 1) := by decide +kernel
theorem dX6_canMeet_41 : decode cX6_canMeet 41 = .ok (.iload_n 3, 1) := by decide +kernel
theorem dX6_canMeet_42 : decode cX6_canMeet 42 = .ok (.iload 4, 2) := by decide +kernel
theorem dX6_canMeet_44 : decode cX6_canMeet 44 = .ok (.invokevirtual 99, 3) := by decide +kernel
theorem dX6_canMeet_47 : decode cX6_canMeet 47 = .ok (.ifCond .ne 7, 3) := by decide +kernel
theorem dX6_canMeet_50 : decode cX6_canMeet 50 = .ok (.iconst 2, 1) := by decide +kernel
theorem dX6_canMeet_51 : decode cX6_canMeet 51 = .ok (.goto 4, 3) := by decide +kernel
theorem dX6_canMeet_54 : decode cX6_canMeet 54 = .ok (.iconst 0, 1) := by decide +kernel
theorem dX6_canMeet_55 : decode cX6_canMeet 55 = .ok (.invokevirtual 81, 3) := by decide +kernel
theorem dX6_canMeet_58 : decode cX6_canMeet 58 = .ok (.ireturn, 1) := by decide +kernel
theorem dX6_meeting_0 : decode cX6_meeting 0 = .ok (.aload_n 0, 1) := by decide +kernel
theorem dX6_meeting_1 : decode cX6_meeting 1 = .ok (.iload_n 1, 1) := by decide +kernel
theorem dX6_meeting_2 : decode cX6_meeting 2 = .ok (.iload_n 2, 1) := by decide +kernel
theorem dX6_meeting_3 : decode cX6_meeting 3 = .ok (.iload_n 3, 1) := by decide +kernel
theorem dX6_meeting_4 : decode cX6_meeting 4 = .ok (.iload 4, 2) := by decide +kernel
theorem dX6_meeting_6 : decode cX6_meeting 6 = .ok (.invokevirtual 216, 3) := by decide +kernel
theorem dX6_meeting_9 : decode cX6_meeting 9 = .ok (.ifCond .eq 15, 3) := by decide +kernel
theorem dX6_meeting_12 : decode cX6_meeting 12 = .ok (.aload_n 0, 1) := by decide +kernel
theorem dX6_meeting_13 : decode cX6_meeting 13 = .ok (.iload_n 1, 1) := by decide +kernel
theorem dX6_meeting_14 : decode cX6_meeting 14 = .ok (.iload_n 2, 1) := by decide +kernel
theorem dX6_meeting_15 : decode cX6_meeting 15 = .ok (.iload_n 3, 1) := by decide +kernel
theorem dX6_meeting_16 : decode cX6_meeting 16 = .ok (.iload 4, 2) := by decide +kernel
theorem dX6_meeting_18 : decode cX6_meeting 18 = .ok (.invokevirtual 220, 3) := by decide +kernel
theorem dX6_meeting_21 : decode cX6_meeting 21 = .ok (.goto 4, 3) := by decide +kernel
theorem dX6_meeting_24 : decode cX6_meeting 24 = .ok (.iconst 0, 1) := by decide +kernel
theorem dX6_meeting_25 : decode cX6_meeting 25 = .ok (.ireturn, 1) := by decide +kernel
theorem dX6_walked_0 : decode cX6_walked 0 = .ok (.aload_n 0, 1) := by decide +kernel
theorem dX6_walked_1 : decode cX6_walked 1 = .ok (.iload_n 1, 1) := by decide +kernel
theorem dX6_walked_2 : decode cX6_walked 2 = .ok (.iload_n 2, 1) := by decide +kernel
theorem dX6_walked_3 : decode cX6_walked 3 = .ok (.iload_n 3, 1) := by decide +kernel
theorem dX6_walked_4 : decode cX6_walked 4 = .ok (.iload 4, 2) := by decide +kernel
theorem dX6_walked_6 : decode cX6_walked 6 = .ok (.invokevirtual 216, 3) := by decide +kernel
theorem dX6_walked_9 : decode cX6_walked 9 = .ok (.ifCond .eq 15, 3) := by decide +kernel
theorem dX6_walked_12 : decode cX6_walked 12 = .ok (.aload_n 0, 1) := by decide +kernel
theorem dX6_walked_13 : decode cX6_walked 13 = .ok (.iload_n 1, 1) := by decide +kernel
theorem dX6_walked_14 : decode cX6_walked 14 = .ok (.iload_n 2, 1) := by decide +kernel
theorem dX6_walked_15 : decode cX6_walked 15 = .ok (.iload_n 3, 1) := by decide +kernel
theorem dX6_walked_16 : decode cX6_walked 16 = .ok (.iload 4, 2) := by decide +kernel
theorem dX6_walked_18 : decode cX6_walked 18 = .ok (.invokevirtual 220, 3) := by decide +kernel
theorem dX6_walked_21 : decode cX6_walked 21 = .ok (.goto 4, 3) := by decide +kernel
theorem dX6_walked_24 : decode cX6_walked 24 = .ok (.iconst 0, 1) := by decide +kernel
theorem dX6_walked_25 : decode cX6_walked 25 = .ok (.ireturn, 1) := by decide +kernel
theorem dX6_wouldTake_0 : decode cX6_wouldTake 0 = .ok (.aload_n 0, 1) := by decide +kernel
theorem dX6_wouldTake_1 : decode cX6_wouldTake 1 = .ok (.getfield 7, 3) := by decide +kernel
theorem dX6_wouldTake_4 : decode cX6_wouldTake 4 = .ok (.iload_n 1, 1) := by decide +kernel
theorem dX6_wouldTake_5 : decode cX6_wouldTake 5 = .ok (.iconst 0, 1) := by decide +kernel
theorem dX6_wouldTake_6 : decode cX6_wouldTake 6 = .ok (.invokestatic 36, 3) := by decide +kernel
theorem dX6_wouldTake_9 : decode cX6_wouldTake 9 = .ok (.iaload, 1) := by decide +kernel
theorem dX6_wouldTake_10 : decode cX6_wouldTake 10 = .ok (.iload_n 3, 1) := by decide +kernel
theorem dX6_wouldTake_11 : decode cX6_wouldTake 11 = .ok (.isub, 1) := by decide +kernel
theorem dX6_wouldTake_12 : decode cX6_wouldTake 12 = .ok (.aload_n 0, 1) := by decide +kernel
theorem dX6_wouldTake_13 : decode cX6_wouldTake 13 = .ok (.getfield 7, 3) := by decide +kernel
theorem dX6_wouldTake_16 : decode cX6_wouldTake 16 = .ok (.iconst 0, 1) := by decide +kernel
theorem dX6_wouldTake_17 : decode cX6_wouldTake 17 = .ok (.iload_n 2, 1) := by decide +kernel
theorem dX6_wouldTake_18 : decode cX6_wouldTake 18 = .ok (.iadd, 1) := by decide +kernel
theorem dX6_wouldTake_19 : decode cX6_wouldTake 19 = .ok (.iaload, 1) := by decide +kernel
theorem dX6_wouldTake_20 : decode cX6_wouldTake 20 = .ok (.iadd, 1) := by decide +kernel
theorem dX6_wouldTake_21 : decode cX6_wouldTake 21 = .ok (.iconst 1, 1) := by decide +kernel
theorem dX6_wouldTake_22 : decode cX6_wouldTake 22 = .ok (.isub, 1) := by decide +kernel
theorem dX6_wouldTake_23 : decode cX6_wouldTake 23 = .ok (.aload_n 0, 1) := by decide +kernel
theorem dX6_wouldTake_24 : decode cX6_wouldTake 24 = .ok (.getfield 7, 3) := by decide +kernel
theorem dX6_wouldTake_27 : decode cX6_wouldTake 27 = .ok (.iconst 0, 1) := by decide +kernel
theorem dX6_wouldTake_28 : decode cX6_wouldTake 28 = .ok (.iload_n 2, 1) := by decide +kernel
theorem dX6_wouldTake_29 : decode cX6_wouldTake 29 = .ok (.iadd, 1) := by decide +kernel
theorem dX6_wouldTake_30 : decode cX6_wouldTake 30 = .ok (.iaload, 1) := by decide +kernel
theorem dX6_wouldTake_31 : decode cX6_wouldTake 31 = .ok (.idiv, 1) := by decide +kernel
theorem dX6_wouldTake_32 : decode cX6_wouldTake 32 = .ok (.ireturn, 1) := by decide +kernel
theorem dX6_toldOfPhases_0 : decode cX6_toldOfPhases 0 = .ok (.iconst 0, 1) := by decide +kernel
theorem dX6_toldOfPhases_1 : decode cX6_toldOfPhases 1 = .ok (.istore 4, 2) := by decide +kernel
theorem dX6_toldOfPhases_3 : decode cX6_toldOfPhases 3 = .ok (.iconst (-1), 1) := by decide +kernel
theorem dX6_toldOfPhases_4 : decode cX6_toldOfPhases 4 = .ok (.istore 5, 2) := by decide +kernel
theorem dX6_toldOfPhases_6 : decode cX6_toldOfPhases 6 = .ok (.iconst (-1), 1) := by decide +kernel
theorem dX6_toldOfPhases_7 : decode cX6_toldOfPhases 7 = .ok (.istore 6, 2) := by decide +kernel
theorem dX6_toldOfPhases_9 : decode cX6_toldOfPhases 9 = .ok (.aload_n 0, 1) := by decide +kernel
theorem dX6_toldOfPhases_10 : decode cX6_toldOfPhases 10 = .ok (.getfield 7, 3) := by decide +kernel
theorem dX6_toldOfPhases_13 : decode cX6_toldOfPhases 13 = .ok (.iconst 0, 1) := by decide +kernel
theorem dX6_toldOfPhases_14 : decode cX6_toldOfPhases 14 = .ok (.iload_n 2, 1) := by decide +kernel
theorem dX6_toldOfPhases_15 : decode cX6_toldOfPhases 15 = .ok (.iadd, 1) := by decide +kernel
theorem dX6_toldOfPhases_16 : decode cX6_toldOfPhases 16 = .ok (.iaload, 1) := by decide +kernel
theorem dX6_toldOfPhases_17 : decode cX6_toldOfPhases 17 = .ok (.iconst 1, 1) := by decide +kernel
theorem dX6_toldOfPhases_18 : decode cX6_toldOfPhases 18 = .ok (.isub, 1) := by decide +kernel
theorem dX6_toldOfPhases_19 : decode cX6_toldOfPhases 19 = .ok (.istore 7, 2) := by decide +kernel
theorem dX6_toldOfPhases_21 : decode cX6_toldOfPhases 21 = .ok (.iload 7, 2) := by decide +kernel
theorem dX6_toldOfPhases_23 : decode cX6_toldOfPhases 23 = .ok (.ifCond .lt 95, 3) := by decide +kernel
theorem dX6_toldOfPhases_26 : decode cX6_toldOfPhases 26 = .ok (.aload_n 0, 1) := by decide +kernel
theorem dX6_toldOfPhases_27 : decode cX6_toldOfPhases 27 = .ok (.iload_n 1, 1) := by decide +kernel
theorem dX6_toldOfPhases_28 : decode cX6_toldOfPhases 28 = .ok (.iload_n 2, 1) := by decide +kernel
theorem dX6_toldOfPhases_29 : decode cX6_toldOfPhases 29 = .ok (.iload 7, 2) := by decide +kernel
theorem dX6_toldOfPhases_31 : decode cX6_toldOfPhases 31 = .ok (.invokevirtual 102, 3) := by decide +kernel
theorem dX6_toldOfPhases_34 : decode cX6_toldOfPhases 34 = .ok (.ifCond .ne 7, 3) := by decide +kernel
theorem dX6_toldOfPhases_37 : decode cX6_toldOfPhases 37 = .ok (.iconst 1, 1) := by decide +kernel
theorem dX6_toldOfPhases_38 : decode cX6_toldOfPhases 38 = .ok (.goto 4, 3) := by decide +kernel
theorem dX6_toldOfPhases_41 : decode cX6_toldOfPhases 41 = .ok (.iconst 0, 1) := by decide +kernel
theorem dX6_toldOfPhases_42 : decode cX6_toldOfPhases 42 = .ok (.istore 8, 2) := by decide +kernel
theorem dX6_toldOfPhases_44 : decode cX6_toldOfPhases 44 = .ok (.iload 4, 2) := by decide +kernel
theorem dX6_toldOfPhases_46 : decode cX6_toldOfPhases 46 = .ok (.iload 8, 2) := by decide +kernel
theorem dX6_toldOfPhases_48 : decode cX6_toldOfPhases 48 = .ok (.ifCond .eq 7, 3) := by decide +kernel
theorem dX6_toldOfPhases_51 : decode cX6_toldOfPhases 51 = .ok (.iconst 1, 1) := by decide +kernel
theorem dX6_toldOfPhases_52 : decode cX6_toldOfPhases 52 = .ok (.goto 4, 3) := by decide +kernel
theorem dX6_toldOfPhases_55 : decode cX6_toldOfPhases 55 = .ok (.iconst 0, 1) := by decide +kernel
theorem dX6_toldOfPhases_56 : decode cX6_toldOfPhases 56 = .ok (.iadd, 1) := by decide +kernel
theorem dX6_toldOfPhases_57 : decode cX6_toldOfPhases 57 = .ok (.istore 4, 2) := by decide +kernel
theorem dX6_toldOfPhases_59 : decode cX6_toldOfPhases 59 = .ok (.iload 8, 2) := by decide +kernel
theorem dX6_toldOfPhases_61 : decode cX6_toldOfPhases 61 = .ok (.ifCond .eq 8, 3) := by decide +kernel
theorem dX6_toldOfPhases_64 : decode cX6_toldOfPhases 64 = .ok (.iload 7, 2) := by decide +kernel
theorem dX6_toldOfPhases_66 : decode cX6_toldOfPhases 66 = .ok (.goto 5, 3) := by decide +kernel
theorem dX6_toldOfPhases_69 : decode cX6_toldOfPhases 69 = .ok (.iload 5, 2) := by decide +kernel
theorem dX6_toldOfPhases_71 : decode cX6_toldOfPhases 71 = .ok (.istore 5, 2) := by decide +kernel
theorem dX6_toldOfPhases_73 : decode cX6_toldOfPhases 73 = .ok (.iload 8, 2) := by decide +kernel
theorem dX6_toldOfPhases_75 : decode cX6_toldOfPhases 75 = .ok (.ifCond .eq 33, 3) := by decide +kernel
theorem dX6_toldOfPhases_78 : decode cX6_toldOfPhases 78 = .ok (.iload 6, 2) := by decide +kernel
theorem dX6_toldOfPhases_80 : decode cX6_toldOfPhases 80 = .ok (.iconst (-1), 1) := by decide +kernel
theorem dX6_toldOfPhases_81 : decode cX6_toldOfPhases 81 = .ok (.if_icmp .eq 22, 3) := by decide +kernel
theorem dX6_toldOfPhases_84 : decode cX6_toldOfPhases 84 = .ok (.aload_n 0, 1) := by decide +kernel
theorem dX6_toldOfPhases_85 : decode cX6_toldOfPhases 85 = .ok (.iload_n 1, 1) := by decide +kernel
theorem dX6_toldOfPhases_86 : decode cX6_toldOfPhases 86 = .ok (.iload_n 2, 1) := by decide +kernel
theorem dX6_toldOfPhases_87 : decode cX6_toldOfPhases 87 = .ok (.iload 7, 2) := by decide +kernel
theorem dX6_toldOfPhases_89 : decode cX6_toldOfPhases 89 = .ok (.invokevirtual 224, 3) := by decide +kernel
theorem dX6_toldOfPhases_92 : decode cX6_toldOfPhases 92 = .ok (.aload_n 0, 1) := by decide +kernel
theorem dX6_toldOfPhases_93 : decode cX6_toldOfPhases 93 = .ok (.iload_n 1, 1) := by decide +kernel
theorem dX6_toldOfPhases_94 : decode cX6_toldOfPhases 94 = .ok (.iload_n 2, 1) := by decide +kernel
theorem dX6_toldOfPhases_95 : decode cX6_toldOfPhases 95 = .ok (.iload 6, 2) := by decide +kernel
theorem dX6_toldOfPhases_97 : decode cX6_toldOfPhases 97 = .ok (.invokevirtual 224, 3) := by decide +kernel
theorem dX6_toldOfPhases_100 : decode cX6_toldOfPhases 100 = .ok (.if_icmp .lt 8, 3) := by decide +kernel
theorem dX6_toldOfPhases_103 : decode cX6_toldOfPhases 103 = .ok (.iload 7, 2) := by decide +kernel
theorem dX6_toldOfPhases_105 : decode cX6_toldOfPhases 105 = .ok (.goto 5, 3) := by decide +kernel
theorem dX6_toldOfPhases_108 : decode cX6_toldOfPhases 108 = .ok (.iload 6, 2) := by decide +kernel
theorem dX6_toldOfPhases_110 : decode cX6_toldOfPhases 110 = .ok (.istore 6, 2) := by decide +kernel
theorem dX6_toldOfPhases_112 : decode cX6_toldOfPhases 112 = .ok (.iinc 7 (-1), 3) := by decide +kernel
theorem dX6_toldOfPhases_115 : decode cX6_toldOfPhases 115 = .ok (.goto (-94), 3) := by decide +kernel
theorem dX6_toldOfPhases_118 : decode cX6_toldOfPhases 118 = .ok (.iload_n 3, 1) := by decide +kernel
theorem dX6_toldOfPhases_119 : decode cX6_toldOfPhases 119 = .ok (.ifCond .ne 8, 3) := by decide +kernel
theorem dX6_toldOfPhases_122 : decode cX6_toldOfPhases 122 = .ok (.iload 4, 2) := by decide +kernel
theorem dX6_toldOfPhases_124 : decode cX6_toldOfPhases 124 = .ok (.goto 15, 3) := by decide +kernel
theorem dX6_toldOfPhases_127 : decode cX6_toldOfPhases 127 = .ok (.iload_n 3, 1) := by decide +kernel
theorem dX6_toldOfPhases_128 : decode cX6_toldOfPhases 128 = .ok (.iconst 1, 1) := by decide +kernel
theorem dX6_toldOfPhases_129 : decode cX6_toldOfPhases 129 = .ok (.if_icmp .ne 8, 3) := by decide +kernel
theorem dX6_toldOfPhases_132 : decode cX6_toldOfPhases 132 = .ok (.iload 5, 2) := by decide +kernel
theorem dX6_toldOfPhases_134 : decode cX6_toldOfPhases 134 = .ok (.goto 5, 3) := by decide +kernel
theorem dX6_toldOfPhases_137 : decode cX6_toldOfPhases 137 = .ok (.iload 6, 2) := by decide +kernel
theorem dX6_toldOfPhases_139 : decode cX6_toldOfPhases 139 = .ok (.ireturn, 1) := by decide +kernel
theorem dX6_phases_0 : decode cX6_phases 0 = .ok (.aload_n 0, 1) := by decide +kernel
theorem dX6_phases_1 : decode cX6_phases 1 = .ok (.aload_n 0, 1) := by decide +kernel
theorem dX6_phases_2 : decode cX6_phases 2 = .ok (.iload_n 1, 1) := by decide +kernel
theorem dX6_phases_3 : decode cX6_phases 3 = .ok (.iload_n 2, 1) := by decide +kernel
theorem dX6_phases_4 : decode cX6_phases 4 = .ok (.invokevirtual 96, 3) := by decide +kernel
theorem dX6_phases_7 : decode cX6_phases 7 = .ok (.ifCond .ne 7, 3) := by decide +kernel
theorem dX6_phases_10 : decode cX6_phases 10 = .ok (.iconst 1, 1) := by decide +kernel
theorem dX6_phases_11 : decode cX6_phases 11 = .ok (.goto 17, 3) := by decide +kernel
theorem dX6_phases_14 : decode cX6_phases 14 = .ok (.iload_n 3, 1) := by decide +kernel
theorem dX6_phases_15 : decode cX6_phases 15 = .ok (.iconst 0, 1) := by decide +kernel
theorem dX6_phases_16 : decode cX6_phases 16 = .ok (.iconst 2, 1) := by decide +kernel
theorem dX6_phases_17 : decode cX6_phases 17 = .ok (.invokestatic 32, 3) := by decide +kernel
theorem dX6_phases_20 : decode cX6_phases 20 = .ok (.ifCond .ne 7, 3) := by decide +kernel
theorem dX6_phases_23 : decode cX6_phases 23 = .ok (.iconst 2, 1) := by decide +kernel
theorem dX6_phases_24 : decode cX6_phases 24 = .ok (.goto 4, 3) := by decide +kernel
theorem dX6_phases_27 : decode cX6_phases 27 = .ok (.iconst 0, 1) := by decide +kernel
theorem dX6_phases_28 : decode cX6_phases 28 = .ok (.invokevirtual 81, 3) := by decide +kernel
theorem dX6_phases_31 : decode cX6_phases 31 = .ok (.ifCond .eq 13, 3) := by decide +kernel
theorem dX6_phases_34 : decode cX6_phases 34 = .ok (.aload_n 0, 1) := by decide +kernel
theorem dX6_phases_35 : decode cX6_phases 35 = .ok (.iload_n 1, 1) := by decide +kernel
theorem dX6_phases_36 : decode cX6_phases 36 = .ok (.iload_n 2, 1) := by decide +kernel
theorem dX6_phases_37 : decode cX6_phases 37 = .ok (.iload_n 3, 1) := by decide +kernel
theorem dX6_phases_38 : decode cX6_phases 38 = .ok (.invokevirtual 227, 3) := by decide +kernel
theorem dX6_phases_41 : decode cX6_phases 41 = .ok (.goto 4, 3) := by decide +kernel
theorem dX6_phases_44 : decode cX6_phases 44 = .ok (.iconst 0, 1) := by decide +kernel
theorem dX6_phases_45 : decode cX6_phases 45 = .ok (.ireturn, 1) := by decide +kernel
theorem dX6_best_0 : decode cX6_best 0 = .ok (.iconst (-1), 1) := by decide +kernel
theorem dX6_best_1 : decode cX6_best 1 = .ok (.istore_n 2, 1) := by decide +kernel
theorem dX6_best_2 : decode cX6_best 2 = .ok (.iconst 0, 1) := by decide +kernel
theorem dX6_best_3 : decode cX6_best 3 = .ok (.istore_n 3, 1) := by decide +kernel
theorem dX6_best_4 : decode cX6_best 4 = .ok (.iconst 0, 1) := by decide +kernel
theorem dX6_best_5 : decode cX6_best 5 = .ok (.istore 4, 2) := by decide +kernel
theorem dX6_best_7 : decode cX6_best 7 = .ok (.iload 4, 2) := by decide +kernel
theorem dX6_best_9 : decode cX6_best 9 = .ok (.bipush 8, 2) := by decide +kernel
theorem dX6_best_11 : decode cX6_best 11 = .ok (.if_icmp .ge 66, 3) := by decide +kernel
theorem dX6_best_14 : decode cX6_best 14 = .ok (.aload_n 0, 1) := by decide +kernel
theorem dX6_best_15 : decode cX6_best 15 = .ok (.iload_n 1, 1) := by decide +kernel
theorem dX6_best_16 : decode cX6_best 16 = .ok (.iload 4, 2) := by decide +kernel
theorem dX6_best_18 : decode cX6_best 18 = .ok (.iconst 2, 1) := by decide +kernel
theorem dX6_best_19 : decode cX6_best 19 = .ok (.invokevirtual 227, 3) := by decide +kernel
theorem dX6_best_22 : decode cX6_best 22 = .ok (.istore 5, 2) := by decide +kernel
theorem dX6_best_24 : decode cX6_best 24 = .ok (.iload 5, 2) := by decide +kernel
theorem dX6_best_26 : decode cX6_best 26 = .ok (.iconst (-1), 1) := by decide +kernel
theorem dX6_best_27 : decode cX6_best 27 = .ok (.if_icmp .ne 7, 3) := by decide +kernel
theorem dX6_best_30 : decode cX6_best 30 = .ok (.iconst 0, 1) := by decide +kernel
theorem dX6_best_31 : decode cX6_best 31 = .ok (.goto 12, 3) := by decide +kernel
theorem dX6_best_34 : decode cX6_best 34 = .ok (.aload_n 0, 1) := by decide +kernel
theorem dX6_best_35 : decode cX6_best 35 = .ok (.iload_n 1, 1) := by decide +kernel
theorem dX6_best_36 : decode cX6_best 36 = .ok (.iload 4, 2) := by decide +kernel
theorem dX6_best_38 : decode cX6_best 38 = .ok (.iload 5, 2) := by decide +kernel
theorem dX6_best_40 : decode cX6_best 40 = .ok (.invokevirtual 224, 3) := by decide +kernel
theorem dX6_best_43 : decode cX6_best 43 = .ok (.istore 6, 2) := by decide +kernel
theorem dX6_best_45 : decode cX6_best 45 = .ok (.iload 6, 2) := by decide +kernel
theorem dX6_best_47 : decode cX6_best 47 = .ok (.iload_n 3, 1) := by decide +kernel
theorem dX6_best_48 : decode cX6_best 48 = .ok (.if_icmp .le 8, 3) := by decide +kernel
theorem dX6_best_51 : decode cX6_best 51 = .ok (.iload 4, 2) := by decide +kernel
theorem dX6_best_53 : decode cX6_best 53 = .ok (.goto 4, 3) := by decide +kernel
theorem dX6_best_56 : decode cX6_best 56 = .ok (.iload_n 2, 1) := by decide +kernel
theorem dX6_best_57 : decode cX6_best 57 = .ok (.istore_n 2, 1) := by decide +kernel
theorem dX6_best_58 : decode cX6_best 58 = .ok (.iload 6, 2) := by decide +kernel
theorem dX6_best_60 : decode cX6_best 60 = .ok (.iload_n 3, 1) := by decide +kernel
theorem dX6_best_61 : decode cX6_best 61 = .ok (.if_icmp .le 8, 3) := by decide +kernel
theorem dX6_best_64 : decode cX6_best 64 = .ok (.iload 6, 2) := by decide +kernel
theorem dX6_best_66 : decode cX6_best 66 = .ok (.goto 4, 3) := by decide +kernel
theorem dX6_best_69 : decode cX6_best 69 = .ok (.iload_n 3, 1) := by decide +kernel
theorem dX6_best_70 : decode cX6_best 70 = .ok (.istore_n 3, 1) := by decide +kernel
theorem dX6_best_71 : decode cX6_best 71 = .ok (.iinc 4 1, 3) := by decide +kernel
theorem dX6_best_74 : decode cX6_best 74 = .ok (.goto (-67), 3) := by decide +kernel
theorem dX6_best_77 : decode cX6_best 77 = .ok (.iload_n 2, 1) := by decide +kernel
theorem dX6_best_78 : decode cX6_best 78 = .ok (.ireturn, 1) := by decide +kernel
theorem dX6_bestHue_0 : decode cX6_bestHue 0 = .ok (.aload_n 0, 1) := by decide +kernel
theorem dX6_bestHue_1 : decode cX6_bestHue 1 = .ok (.aload_n 0, 1) := by decide +kernel
theorem dX6_bestHue_2 : decode cX6_bestHue 2 = .ok (.iload_n 1, 1) := by decide +kernel
theorem dX6_bestHue_3 : decode cX6_bestHue 3 = .ok (.invokevirtual 90, 3) := by decide +kernel
theorem dX6_bestHue_6 : decode cX6_bestHue 6 = .ok (.ifCond .eq 7, 3) := by decide +kernel
theorem dX6_bestHue_9 : decode cX6_bestHue 9 = .ok (.iconst 0, 1) := by decide +kernel
theorem dX6_bestHue_10 : decode cX6_bestHue 10 = .ok (.goto 4, 3) := by decide +kernel
theorem dX6_bestHue_13 : decode cX6_bestHue 13 = .ok (.iconst 1, 1) := by decide +kernel
theorem dX6_bestHue_14 : decode cX6_bestHue 14 = .ok (.invokevirtual 81, 3) := by decide +kernel
theorem dX6_bestHue_17 : decode cX6_bestHue 17 = .ok (.ifCond .eq 11, 3) := by decide +kernel
theorem dX6_bestHue_20 : decode cX6_bestHue 20 = .ok (.aload_n 0, 1) := by decide +kernel
theorem dX6_bestHue_21 : decode cX6_bestHue 21 = .ok (.iload_n 1, 1) := by decide +kernel
theorem dX6_bestHue_22 : decode cX6_bestHue 22 = .ok (.invokevirtual 230, 3) := by decide +kernel
theorem dX6_bestHue_25 : decode cX6_bestHue 25 = .ok (.goto 4, 3) := by decide +kernel
theorem dX6_bestHue_28 : decode cX6_bestHue 28 = .ok (.iconst 0, 1) := by decide +kernel
theorem dX6_bestHue_29 : decode cX6_bestHue 29 = .ok (.ireturn, 1) := by decide +kernel
theorem dX6_joining_0 : decode cX6_joining 0 = .ok (.aload_n 0, 1) := by decide +kernel
theorem dX6_joining_1 : decode cX6_joining 1 = .ok (.aload_n 0, 1) := by decide +kernel
theorem dX6_joining_2 : decode cX6_joining 2 = .ok (.iload_n 1, 1) := by decide +kernel
theorem dX6_joining_3 : decode cX6_joining 3 = .ok (.invokevirtual 90, 3) := by decide +kernel
theorem dX6_joining_6 : decode cX6_joining 6 = .ok (.ifCond .eq 15, 3) := by decide +kernel
theorem dX6_joining_9 : decode cX6_joining 9 = .ok (.aload_n 0, 1) := by decide +kernel
theorem dX6_joining_10 : decode cX6_joining 10 = .ok (.iload_n 2, 1) := by decide +kernel
theorem dX6_joining_11 : decode cX6_joining 11 = .ok (.invokevirtual 90, 3) := by decide +kernel
theorem dX6_joining_14 : decode cX6_joining 14 = .ok (.ifCond .eq 7, 3) := by decide +kernel
theorem dX6_joining_17 : decode cX6_joining 17 = .ok (.iconst 0, 1) := by decide +kernel
theorem dX6_joining_18 : decode cX6_joining 18 = .ok (.goto 4, 3) := by decide +kernel
theorem dX6_joining_21 : decode cX6_joining 21 = .ok (.iconst 1, 1) := by decide +kernel
theorem dX6_joining_22 : decode cX6_joining 22 = .ok (.invokevirtual 81, 3) := by decide +kernel
theorem dX6_joining_25 : decode cX6_joining 25 = .ok (.ifCond .eq 12, 3) := by decide +kernel
theorem dX6_joining_28 : decode cX6_joining 28 = .ok (.aload_n 0, 1) := by decide +kernel
theorem dX6_joining_29 : decode cX6_joining 29 = .ok (.iload_n 1, 1) := by decide +kernel
theorem dX6_joining_30 : decode cX6_joining 30 = .ok (.iload_n 2, 1) := by decide +kernel
theorem dX6_joining_31 : decode cX6_joining 31 = .ok (.invokevirtual 137, 3) := by decide +kernel
theorem dX6_joining_34 : decode cX6_joining 34 = .ok (.goto 4, 3) := by decide +kernel
theorem dX6_joining_37 : decode cX6_joining 37 = .ok (.iconst 0, 1) := by decide +kernel
theorem dX6_joining_38 : decode cX6_joining 38 = .ok (.ireturn, 1) := by decide +kernel
theorem dX6_greatest_0 : decode cX6_greatest 0 = .ok (.aload_n 0, 1) := by decide +kernel
theorem dX6_greatest_1 : decode cX6_greatest 1 = .ok (.aload_n 0, 1) := by decide +kernel
theorem dX6_greatest_2 : decode cX6_greatest 2 = .ok (.iload_n 1, 1) := by decide +kernel
theorem dX6_greatest_3 : decode cX6_greatest 3 = .ok (.invokevirtual 90, 3) := by decide +kernel
theorem dX6_greatest_6 : decode cX6_greatest 6 = .ok (.ifCond .eq 7, 3) := by decide +kernel
theorem dX6_greatest_9 : decode cX6_greatest 9 = .ok (.iconst 0, 1) := by decide +kernel
theorem dX6_greatest_10 : decode cX6_greatest 10 = .ok (.goto 4, 3) := by decide +kernel
theorem dX6_greatest_13 : decode cX6_greatest 13 = .ok (.iconst 1, 1) := by decide +kernel
theorem dX6_greatest_14 : decode cX6_greatest 14 = .ok (.invokevirtual 81, 3) := by decide +kernel
theorem dX6_greatest_17 : decode cX6_greatest 17 = .ok (.ifCond .eq 11, 3) := by decide +kernel
theorem dX6_greatest_20 : decode cX6_greatest 20 = .ok (.aload_n 0, 1) := by decide +kernel
theorem dX6_greatest_21 : decode cX6_greatest 21 = .ok (.iload_n 1, 1) := by decide +kernel
theorem dX6_greatest_22 : decode cX6_greatest 22 = .ok (.invokevirtual 112, 3) := by decide +kernel
theorem dX6_greatest_25 : decode cX6_greatest 25 = .ok (.goto 4, 3) := by decide +kernel
theorem dX6_greatest_28 : decode cX6_greatest 28 = .ok (.iconst 0, 1) := by decide +kernel
theorem dX6_greatest_29 : decode cX6_greatest 29 = .ok (.ireturn, 1) := by decide +kernel
theorem dX6_share_0 : decode cX6_share 0 = .ok (.aload_n 0, 1) := by decide +kernel
theorem dX6_share_1 : decode cX6_share 1 = .ok (.getfield 7, 3) := by decide +kernel
theorem dX6_share_4 : decode cX6_share 4 = .ok (.bipush 8, 2) := by decide +kernel
theorem dX6_share_6 : decode cX6_share 6 = .ok (.iaload, 1) := by decide +kernel
theorem dX6_share_7 : decode cX6_share 7 = .ok (.ifCond .ne 7, 3) := by decide +kernel
theorem dX6_share_10 : decode cX6_share 10 = .ok (.dconst 1, 1) := by decide +kernel
theorem dX6_share_11 : decode cX6_share 11 = .ok (.goto 22, 3) := by decide +kernel
theorem dX6_share_14 : decode cX6_share 14 = .ok (.aload_n 0, 1) := by decide +kernel
theorem dX6_share_15 : decode cX6_share 15 = .ok (.iconst 0, 1) := by decide +kernel
theorem dX6_share_16 : decode cX6_share 16 = .ok (.invokevirtual 206, 3) := by decide +kernel
theorem dX6_share_19 : decode cX6_share 19 = .ok (.aload_n 0, 1) := by decide +kernel
theorem dX6_share_20 : decode cX6_share 20 = .ok (.iconst 1, 1) := by decide +kernel
theorem dX6_share_21 : decode cX6_share 21 = .ok (.invokevirtual 206, 3) := by decide +kernel
theorem dX6_share_24 : decode cX6_share 24 = .ok (.isub, 1) := by decide +kernel
theorem dX6_share_25 : decode cX6_share 25 = .ok (.i2d, 1) := by decide +kernel
theorem dX6_share_26 : decode cX6_share 26 = .ok (.aload_n 0, 1) := by decide +kernel
theorem dX6_share_27 : decode cX6_share 27 = .ok (.iconst 0, 1) := by decide +kernel
theorem dX6_share_28 : decode cX6_share 28 = .ok (.invokevirtual 206, 3) := by decide +kernel
theorem dX6_share_31 : decode cX6_share 31 = .ok (.i2d, 1) := by decide +kernel
theorem dX6_share_32 : decode cX6_share 32 = .ok (.ddiv, 1) := by decide +kernel
theorem dX6_share_33 : decode cX6_share 33 = .ok (.dreturn, 1) := by decide +kernel
theorem dX6_fullness_0 : decode cX6_fullness 0 = .ok (.aload_n 0, 1) := by decide +kernel
theorem dX6_fullness_1 : decode cX6_fullness 1 = .ok (.iconst 0, 1) := by decide +kernel
theorem dX6_fullness_2 : decode cX6_fullness 2 = .ok (.putfield 28, 3) := by decide +kernel
theorem dX6_fullness_5 : decode cX6_fullness 5 = .ok (.aload_n 0, 1) := by decide +kernel
theorem dX6_fullness_6 : decode cX6_fullness 6 = .ok (.invokevirtual 233, 3) := by decide +kernel
theorem dX6_fullness_9 : decode cX6_fullness 9 = .ok (.dreturn, 1) := by decide +kernel
theorem dX6_bitsOf_0 : decode cX6_bitsOf 0 = .ok (.dload_n 0, 1) := by decide +kernel
theorem dX6_bitsOf_1 : decode cX6_bitsOf 1 = .ok (.dconst 0, 1) := by decide +kernel
theorem dX6_bitsOf_2 : decode cX6_bitsOf 2 = .ok (.dcmp .l, 1) := by decide +kernel
theorem dX6_bitsOf_3 : decode cX6_bitsOf 3 = .ok (.ifCond .ne 5, 3) := by decide +kernel
theorem dX6_bitsOf_6 : decode cX6_bitsOf 6 = .ok (.lconst 0, 1) := by decide +kernel
theorem dX6_bitsOf_7 : decode cX6_bitsOf 7 = .ok (.lreturn, 1) := by decide +kernel
theorem dX6_bitsOf_8 : decode cX6_bitsOf 8 = .ok (.ldc2_w 237, 3) := by decide +kernel
theorem dX6_bitsOf_11 : decode cX6_bitsOf 11 = .ok (.lstore_n 2, 1) := by decide +kernel
theorem dX6_bitsOf_12 : decode cX6_bitsOf 12 = .ok (.dload_n 0, 1) := by decide +kernel
theorem dX6_bitsOf_13 : decode cX6_bitsOf 13 = .ok (.dstore 4, 2) := by decide +kernel
theorem dX6_bitsOf_15 : decode cX6_bitsOf 15 = .ok (.dload 4, 2) := by decide +kernel
theorem dX6_bitsOf_17 : decode cX6_bitsOf 17 = .ok (.dconst 1, 1) := by decide +kernel
theorem dX6_bitsOf_18 : decode cX6_bitsOf 18 = .ok (.dcmp .g, 1) := by decide +kernel
theorem dX6_bitsOf_19 : decode cX6_bitsOf 19 = .ok (.ifCond .ge 18, 3) := by decide +kernel
theorem dX6_bitsOf_22 : decode cX6_bitsOf 22 = .ok (.dload 4, 2) := by decide +kernel
theorem dX6_bitsOf_24 : decode cX6_bitsOf 24 = .ok (.ldc2_w 239, 3) := by decide +kernel
theorem dX6_bitsOf_27 : decode cX6_bitsOf 27 = .ok (.dmul, 1) := by decide +kernel
theorem dX6_bitsOf_28 : decode cX6_bitsOf 28 = .ok (.dstore 4, 2) := by decide +kernel
theorem dX6_bitsOf_30 : decode cX6_bitsOf 30 = .ok (.lload_n 2, 1) := by decide +kernel
theorem dX6_bitsOf_31 : decode cX6_bitsOf 31 = .ok (.lconst 1, 1) := by decide +kernel
theorem dX6_bitsOf_32 : decode cX6_bitsOf 32 = .ok (.lsub, 1) := by decide +kernel
theorem dX6_bitsOf_33 : decode cX6_bitsOf 33 = .ok (.lstore_n 2, 1) := by decide +kernel
theorem dX6_bitsOf_34 : decode cX6_bitsOf 34 = .ok (.goto (-19), 3) := by decide +kernel
theorem dX6_bitsOf_37 : decode cX6_bitsOf 37 = .ok (.lload_n 2, 1) := by decide +kernel
theorem dX6_bitsOf_38 : decode cX6_bitsOf 38 = .ok (.ldc2_w 241, 3) := by decide +kernel
theorem dX6_bitsOf_41 : decode cX6_bitsOf 41 = .ok (.lmul, 1) := by decide +kernel
theorem dX6_bitsOf_42 : decode cX6_bitsOf 42 = .ok (.dload 4, 2) := by decide +kernel
theorem dX6_bitsOf_44 : decode cX6_bitsOf 44 = .ok (.dconst 1, 1) := by decide +kernel
theorem dX6_bitsOf_45 : decode cX6_bitsOf 45 = .ok (.dsub, 1) := by decide +kernel
theorem dX6_bitsOf_46 : decode cX6_bitsOf 46 = .ok (.ldc2_w 243, 3) := by decide +kernel
theorem dX6_bitsOf_49 : decode cX6_bitsOf 49 = .ok (.dmul, 1) := by decide +kernel
theorem dX6_bitsOf_50 : decode cX6_bitsOf 50 = .ok (.d2l, 1) := by decide +kernel
theorem dX6_bitsOf_51 : decode cX6_bitsOf 51 = .ok (.ladd, 1) := by decide +kernel
theorem dX6_bitsOf_52 : decode cX6_bitsOf 52 = .ok (.lreturn, 1) := by decide +kernel
theorem dX6_digestOne_0 : decode cX6_digestOne 0 = .ok (.aload_n 0, 1) := by decide +kernel
theorem dX6_digestOne_1 : decode cX6_digestOne 1 = .ok (.ldc2_w 245, 3) := by decide +kernel
theorem dX6_digestOne_4 : decode cX6_digestOne 4 = .ok (.aload_n 0, 1) := by decide +kernel
theorem dX6_digestOne_5 : decode cX6_digestOne 5 = .ok (.getfield 247, 3) := by decide +kernel
theorem dX6_digestOne_8 : decode cX6_digestOne 8 = .ok (.lmul, 1) := by decide +kernel
theorem dX6_digestOne_9 : decode cX6_digestOne 9 = .ok (.lload_n 1, 1) := by decide +kernel
theorem dX6_digestOne_10 : decode cX6_digestOne 10 = .ok (.ladd, 1) := by decide +kernel
theorem dX6_digestOne_11 : decode cX6_digestOne 11 = .ok (.putfield 247, 3) := by decide +kernel
theorem dX6_digestOne_14 : decode cX6_digestOne 14 = .ok (.return_, 1) := by decide +kernel
theorem dX6_digestRope_0 : decode cX6_digestRope 0 = .ok (.iconst 0, 1) := by decide +kernel
theorem dX6_digestRope_1 : decode cX6_digestRope 1 = .ok (.istore_n 2, 1) := by decide +kernel
theorem dX6_digestRope_2 : decode cX6_digestRope 2 = .ok (.iload_n 2, 1) := by decide +kernel
theorem dX6_digestRope_3 : decode cX6_digestRope 3 = .ok (.bipush 6, 2) := by decide +kernel
theorem dX6_digestRope_5 : decode cX6_digestRope 5 = .ok (.if_icmp .ge 20, 3) := by decide +kernel
theorem dX6_digestRope_8 : decode cX6_digestRope 8 = .ok (.aload_n 0, 1) := by decide +kernel
theorem dX6_digestRope_9 : decode cX6_digestRope 9 = .ok (.aload_n 0, 1) := by decide +kernel
theorem dX6_digestRope_10 : decode cX6_digestRope 10 = .ok (.iload_n 1, 1) := by decide +kernel
theorem dX6_digestRope_11 : decode cX6_digestRope 11 = .ok (.iload_n 2, 1) := by decide +kernel
theorem dX6_digestRope_12 : decode cX6_digestRope 12 = .ok (.invokevirtual 197, 3) := by decide +kernel
theorem dX6_digestRope_15 : decode cX6_digestRope 15 = .ok (.i2l, 1) := by decide +kernel
theorem dX6_digestRope_16 : decode cX6_digestRope 16 = .ok (.invokevirtual 251, 3) := by decide +kernel
theorem dX6_digestRope_19 : decode cX6_digestRope 19 = .ok (.iinc 2 1, 3) := by decide +kernel
theorem dX6_digestRope_22 : decode cX6_digestRope 22 = .ok (.goto (-20), 3) := by decide +kernel
theorem dX6_digestRope_25 : decode cX6_digestRope 25 = .ok (.iconst 0, 1) := by decide +kernel
theorem dX6_digestRope_26 : decode cX6_digestRope 26 = .ok (.istore_n 2, 1) := by decide +kernel
theorem dX6_digestRope_27 : decode cX6_digestRope 27 = .ok (.iload_n 2, 1) := by decide +kernel
theorem dX6_digestRope_28 : decode cX6_digestRope 28 = .ok (.aload_n 0, 1) := by decide +kernel
theorem dX6_digestRope_29 : decode cX6_digestRope 29 = .ok (.getfield 7, 3) := by decide +kernel
theorem dX6_digestRope_32 : decode cX6_digestRope 32 = .ok (.iload_n 1, 1) := by decide +kernel
theorem dX6_digestRope_33 : decode cX6_digestRope 33 = .ok (.iconst 0, 1) := by decide +kernel
theorem dX6_digestRope_34 : decode cX6_digestRope 34 = .ok (.invokestatic 36, 3) := by decide +kernel
theorem dX6_digestRope_37 : decode cX6_digestRope 37 = .ok (.iaload, 1) := by decide +kernel
theorem dX6_digestRope_38 : decode cX6_digestRope 38 = .ok (.if_icmp .ge 20, 3) := by decide +kernel
theorem dX6_digestRope_41 : decode cX6_digestRope 41 = .ok (.aload_n 0, 1) := by decide +kernel
theorem dX6_digestRope_42 : decode cX6_digestRope 42 = .ok (.aload_n 0, 1) := by decide +kernel
theorem dX6_digestRope_43 : decode cX6_digestRope 43 = .ok (.iload_n 1, 1) := by decide +kernel
theorem dX6_digestRope_44 : decode cX6_digestRope 44 = .ok (.iload_n 2, 1) := by decide +kernel
theorem dX6_digestRope_45 : decode cX6_digestRope 45 = .ok (.invokevirtual 63, 3) := by decide +kernel
theorem dX6_digestRope_48 : decode cX6_digestRope 48 = .ok (.i2l, 1) := by decide +kernel
theorem dX6_digestRope_49 : decode cX6_digestRope 49 = .ok (.invokevirtual 251, 3) := by decide +kernel
theorem dX6_digestRope_52 : decode cX6_digestRope 52 = .ok (.iinc 2 1, 3) := by decide +kernel
theorem dX6_digestRope_55 : decode cX6_digestRope 55 = .ok (.goto (-28), 3) := by decide +kernel
theorem dX6_digestRope_58 : decode cX6_digestRope 58 = .ok (.iconst 0, 1) := by decide +kernel
theorem dX6_digestRope_59 : decode cX6_digestRope 59 = .ok (.istore_n 2, 1) := by decide +kernel
theorem dX6_digestRope_60 : decode cX6_digestRope 60 = .ok (.iload_n 2, 1) := by decide +kernel
theorem dX6_digestRope_61 : decode cX6_digestRope 61 = .ok (.bipush 8, 2) := by decide +kernel
theorem dX6_digestRope_63 : decode cX6_digestRope 63 = .ok (.if_icmp .ge 59, 3) := by decide +kernel
theorem dX6_digestRope_66 : decode cX6_digestRope 66 = .ok (.iconst 0, 1) := by decide +kernel
theorem dX6_digestRope_67 : decode cX6_digestRope 67 = .ok (.istore_n 3, 1) := by decide +kernel
theorem dX6_digestRope_68 : decode cX6_digestRope 68 = .ok (.iload_n 3, 1) := by decide +kernel
theorem dX6_digestRope_69 : decode cX6_digestRope 69 = .ok (.iconst 4, 1) := by decide +kernel
theorem dX6_digestRope_70 : decode cX6_digestRope 70 = .ok (.if_icmp .ge 21, 3) := by decide +kernel
theorem dX6_digestRope_73 : decode cX6_digestRope 73 = .ok (.aload_n 0, 1) := by decide +kernel
theorem dX6_digestRope_74 : decode cX6_digestRope 74 = .ok (.aload_n 0, 1) := by decide +kernel
theorem dX6_digestRope_75 : decode cX6_digestRope 75 = .ok (.iload_n 1, 1) := by decide +kernel
theorem dX6_digestRope_76 : decode cX6_digestRope 76 = .ok (.iload_n 2, 1) := by decide +kernel
theorem dX6_digestRope_77 : decode cX6_digestRope 77 = .ok (.iload_n 3, 1) := by decide +kernel
theorem dX6_digestRope_78 : decode cX6_digestRope 78 = .ok (.invokevirtual 203, 3) := by decide +kernel
theorem dX6_digestRope_81 : decode cX6_digestRope 81 = .ok (.i2l, 1) := by decide +kernel
theorem dX6_digestRope_82 : decode cX6_digestRope 82 = .ok (.invokevirtual 251, 3) := by decide +kernel
theorem dX6_digestRope_85 : decode cX6_digestRope 85 = .ok (.iinc 3 1, 3) := by decide +kernel
theorem dX6_digestRope_88 : decode cX6_digestRope 88 = .ok (.goto (-20), 3) := by decide +kernel
theorem dX6_digestRope_91 : decode cX6_digestRope 91 = .ok (.iconst 0, 1) := by decide +kernel
theorem dX6_digestRope_92 : decode cX6_digestRope 92 = .ok (.istore_n 3, 1) := by decide +kernel
theorem dX6_digestRope_93 : decode cX6_digestRope 93 = .ok (.iload_n 3, 1) := by decide +kernel
theorem dX6_digestRope_94 : decode cX6_digestRope 94 = .ok (.iconst 3, 1) := by decide +kernel
theorem dX6_digestRope_95 : decode cX6_digestRope 95 = .ok (.if_icmp .ge 21, 3) := by decide +kernel
theorem dX6_digestRope_98 : decode cX6_digestRope 98 = .ok (.aload_n 0, 1) := by decide +kernel
theorem dX6_digestRope_99 : decode cX6_digestRope 99 = .ok (.aload_n 0, 1) := by decide +kernel
theorem dX6_digestRope_100 : decode cX6_digestRope 100 = .ok (.iload_n 1, 1) := by decide +kernel
theorem dX6_digestRope_101 : decode cX6_digestRope 101 = .ok (.iload_n 2, 1) := by decide +kernel
theorem dX6_digestRope_102 : decode cX6_digestRope 102 = .ok (.iload_n 3, 1) := by decide +kernel
theorem dX6_digestRope_103 : decode cX6_digestRope 103 = .ok (.invokevirtual 227, 3) := by decide +kernel
theorem dX6_digestRope_106 : decode cX6_digestRope 106 = .ok (.i2l, 1) := by decide +kernel
theorem dX6_digestRope_107 : decode cX6_digestRope 107 = .ok (.invokevirtual 251, 3) := by decide +kernel
theorem dX6_digestRope_110 : decode cX6_digestRope 110 = .ok (.iinc 3 1, 3) := by decide +kernel
theorem dX6_digestRope_113 : decode cX6_digestRope 113 = .ok (.goto (-20), 3) := by decide +kernel
theorem dX6_digestRope_116 : decode cX6_digestRope 116 = .ok (.iinc 2 1, 3) := by decide +kernel
theorem dX6_digestRope_119 : decode cX6_digestRope 119 = .ok (.goto (-59), 3) := by decide +kernel
theorem dX6_digestRope_122 : decode cX6_digestRope 122 = .ok (.aload_n 0, 1) := by decide +kernel
theorem dX6_digestRope_123 : decode cX6_digestRope 123 = .ok (.aload_n 0, 1) := by decide +kernel
theorem dX6_digestRope_124 : decode cX6_digestRope 124 = .ok (.iload_n 1, 1) := by decide +kernel
theorem dX6_digestRope_125 : decode cX6_digestRope 125 = .ok (.invokevirtual 230, 3) := by decide +kernel
theorem dX6_digestRope_128 : decode cX6_digestRope 128 = .ok (.i2l, 1) := by decide +kernel
theorem dX6_digestRope_129 : decode cX6_digestRope 129 = .ok (.invokevirtual 251, 3) := by decide +kernel
theorem dX6_digestRope_132 : decode cX6_digestRope 132 = .ok (.aload_n 0, 1) := by decide +kernel
theorem dX6_digestRope_133 : decode cX6_digestRope 133 = .ok (.aload_n 0, 1) := by decide +kernel
theorem dX6_digestRope_134 : decode cX6_digestRope 134 = .ok (.iload_n 1, 1) := by decide +kernel
theorem dX6_digestRope_135 : decode cX6_digestRope 135 = .ok (.invokevirtual 112, 3) := by decide +kernel
theorem dX6_digestRope_138 : decode cX6_digestRope 138 = .ok (.i2l, 1) := by decide +kernel
theorem dX6_digestRope_139 : decode cX6_digestRope 139 = .ok (.invokevirtual 251, 3) := by decide +kernel
theorem dX6_digestRope_142 : decode cX6_digestRope 142 = .ok (.aload_n 0, 1) := by decide +kernel
theorem dX6_digestRope_143 : decode cX6_digestRope 143 = .ok (.aload_n 0, 1) := by decide +kernel
theorem dX6_digestRope_144 : decode cX6_digestRope 144 = .ok (.iload_n 1, 1) := by decide +kernel
theorem dX6_digestRope_145 : decode cX6_digestRope 145 = .ok (.iconst 0, 1) := by decide +kernel
theorem dX6_digestRope_146 : decode cX6_digestRope 146 = .ok (.invokevirtual 137, 3) := by decide +kernel
theorem dX6_digestRope_149 : decode cX6_digestRope 149 = .ok (.i2l, 1) := by decide +kernel
theorem dX6_digestRope_150 : decode cX6_digestRope 150 = .ok (.invokevirtual 251, 3) := by decide +kernel
theorem dX6_digestRope_153 : decode cX6_digestRope 153 = .ok (.return_, 1) := by decide +kernel
theorem dX6_digest_0 : decode cX6_digest 0 = .ok (.aload_n 0, 1) := by decide +kernel
theorem dX6_digest_1 : decode cX6_digest 1 = .ok (.iconst 0, 1) := by decide +kernel
theorem dX6_digest_2 : decode cX6_digest 2 = .ok (.putfield 28, 3) := by decide +kernel
theorem dX6_digest_5 : decode cX6_digest 5 = .ok (.aload_n 0, 1) := by decide +kernel
theorem dX6_digest_6 : decode cX6_digest 6 = .ok (.ldc2_w 255, 3) := by decide +kernel
theorem dX6_digest_9 : decode cX6_digest 9 = .ok (.putfield 247, 3) := by decide +kernel
theorem dX6_digest_12 : decode cX6_digest 12 = .ok (.iconst 0, 1) := by decide +kernel
theorem dX6_digest_13 : decode cX6_digest 13 = .ok (.istore_n 1, 1) := by decide +kernel
theorem dX6_digest_14 : decode cX6_digest 14 = .ok (.iload_n 1, 1) := by decide +kernel
theorem dX6_digest_15 : decode cX6_digest 15 = .ok (.bipush 8, 2) := by decide +kernel
theorem dX6_digest_17 : decode cX6_digest 17 = .ok (.if_icmp .ge 19, 3) := by decide +kernel
theorem dX6_digest_20 : decode cX6_digest 20 = .ok (.aload_n 0, 1) := by decide +kernel
theorem dX6_digest_21 : decode cX6_digest 21 = .ok (.aload_n 0, 1) := by decide +kernel
theorem dX6_digest_22 : decode cX6_digest 22 = .ok (.iload_n 1, 1) := by decide +kernel
theorem dX6_digest_23 : decode cX6_digest 23 = .ok (.invokevirtual 213, 3) := by decide +kernel
theorem dX6_digest_26 : decode cX6_digest 26 = .ok (.i2l, 1) := by decide +kernel
theorem dX6_digest_27 : decode cX6_digest 27 = .ok (.invokevirtual 251, 3) := by decide +kernel
theorem dX6_digest_30 : decode cX6_digest 30 = .ok (.iinc 1 1, 3) := by decide +kernel
theorem dX6_digest_33 : decode cX6_digest 33 = .ok (.goto (-19), 3) := by decide +kernel
theorem dX6_digest_36 : decode cX6_digest 36 = .ok (.iconst 0, 1) := by decide +kernel
theorem dX6_digest_37 : decode cX6_digest 37 = .ok (.istore_n 1, 1) := by decide +kernel
theorem dX6_digest_38 : decode cX6_digest 38 = .ok (.iload_n 1, 1) := by decide +kernel
theorem dX6_digest_39 : decode cX6_digest 39 = .ok (.bipush 8, 2) := by decide +kernel
theorem dX6_digest_41 : decode cX6_digest 41 = .ok (.if_icmp .ge 22, 3) := by decide +kernel
theorem dX6_digest_44 : decode cX6_digest 44 = .ok (.aload_n 0, 1) := by decide +kernel
theorem dX6_digest_45 : decode cX6_digest 45 = .ok (.aload_n 0, 1) := by decide +kernel
theorem dX6_digest_46 : decode cX6_digest 46 = .ok (.getfield 7, 3) := by decide +kernel
theorem dX6_digest_49 : decode cX6_digest 49 = .ok (.iconst 0, 1) := by decide +kernel
theorem dX6_digest_50 : decode cX6_digest 50 = .ok (.iload_n 1, 1) := by decide +kernel
theorem dX6_digest_51 : decode cX6_digest 51 = .ok (.iadd, 1) := by decide +kernel
theorem dX6_digest_52 : decode cX6_digest 52 = .ok (.iaload, 1) := by decide +kernel
theorem dX6_digest_53 : decode cX6_digest 53 = .ok (.i2l, 1) := by decide +kernel
theorem dX6_digest_54 : decode cX6_digest 54 = .ok (.invokevirtual 251, 3) := by decide +kernel
theorem dX6_digest_57 : decode cX6_digest 57 = .ok (.iinc 1 1, 3) := by decide +kernel
theorem dX6_digest_60 : decode cX6_digest 60 = .ok (.goto (-22), 3) := by decide +kernel
theorem dX6_digest_63 : decode cX6_digest 63 = .ok (.iconst 0, 1) := by decide +kernel
theorem dX6_digest_64 : decode cX6_digest 64 = .ok (.istore_n 1, 1) := by decide +kernel
theorem dX6_digest_65 : decode cX6_digest 65 = .ok (.iload_n 1, 1) := by decide +kernel
theorem dX6_digest_66 : decode cX6_digest 66 = .ok (.aload_n 0, 1) := by decide +kernel
theorem dX6_digest_67 : decode cX6_digest 67 = .ok (.getfield 7, 3) := by decide +kernel
theorem dX6_digest_70 : decode cX6_digest 70 = .ok (.bipush 8, 2) := by decide +kernel
theorem dX6_digest_72 : decode cX6_digest 72 = .ok (.iaload, 1) := by decide +kernel
theorem dX6_digest_73 : decode cX6_digest 73 = .ok (.if_icmp .ge 14, 3) := by decide +kernel
theorem dX6_digest_76 : decode cX6_digest 76 = .ok (.aload_n 0, 1) := by decide +kernel
theorem dX6_digest_77 : decode cX6_digest 77 = .ok (.iload_n 1, 1) := by decide +kernel
theorem dX6_digest_78 : decode cX6_digest 78 = .ok (.invokevirtual 257, 3) := by decide +kernel
theorem dX6_digest_81 : decode cX6_digest 81 = .ok (.iinc 1 1, 3) := by decide +kernel
theorem dX6_digest_84 : decode cX6_digest 84 = .ok (.goto (-19), 3) := by decide +kernel
theorem dX6_digest_87 : decode cX6_digest 87 = .ok (.iconst 0, 1) := by decide +kernel
theorem dX6_digest_88 : decode cX6_digest 88 = .ok (.istore_n 1, 1) := by decide +kernel
theorem dX6_digest_89 : decode cX6_digest 89 = .ok (.iload_n 1, 1) := by decide +kernel
theorem dX6_digest_90 : decode cX6_digest 90 = .ok (.bipush 8, 2) := by decide +kernel
theorem dX6_digest_92 : decode cX6_digest 92 = .ok (.if_icmp .ge 22, 3) := by decide +kernel
theorem dX6_digest_95 : decode cX6_digest 95 = .ok (.aload_n 0, 1) := by decide +kernel
theorem dX6_digest_96 : decode cX6_digest 96 = .ok (.aload_n 0, 1) := by decide +kernel
theorem dX6_digest_97 : decode cX6_digest 97 = .ok (.iconst 0, 1) := by decide +kernel
theorem dX6_digest_98 : decode cX6_digest 98 = .ok (.iconst 1, 1) := by decide +kernel
theorem dX6_digest_99 : decode cX6_digest 99 = .ok (.iload_n 1, 1) := by decide +kernel
theorem dX6_digest_100 : decode cX6_digest 100 = .ok (.iconst 0, 1) := by decide +kernel
theorem dX6_digest_101 : decode cX6_digest 101 = .ok (.invokevirtual 220, 3) := by decide +kernel
theorem dX6_digest_104 : decode cX6_digest 104 = .ok (.i2l, 1) := by decide +kernel
theorem dX6_digest_105 : decode cX6_digest 105 = .ok (.invokevirtual 251, 3) := by decide +kernel
theorem dX6_digest_108 : decode cX6_digest 108 = .ok (.iinc 1 1, 3) := by decide +kernel
theorem dX6_digest_111 : decode cX6_digest 111 = .ok (.goto (-22), 3) := by decide +kernel
theorem dX6_digest_114 : decode cX6_digest 114 = .ok (.aload_n 0, 1) := by decide +kernel
theorem dX6_digest_115 : decode cX6_digest 115 = .ok (.aload_n 0, 1) := by decide +kernel
theorem dX6_digest_116 : decode cX6_digest 116 = .ok (.invokevirtual 233, 3) := by decide +kernel
theorem dX6_digest_119 : decode cX6_digest 119 = .ok (.invokestatic 260, 3) := by decide +kernel
theorem dX6_digest_122 : decode cX6_digest 122 = .ok (.invokevirtual 251, 3) := by decide +kernel
theorem dX6_digest_125 : decode cX6_digest 125 = .ok (.aload_n 0, 1) := by decide +kernel
theorem dX6_digest_126 : decode cX6_digest 126 = .ok (.aload_n 0, 1) := by decide +kernel
theorem dX6_digest_127 : decode cX6_digest 127 = .ok (.getfield 140, 3) := by decide +kernel
theorem dX6_digest_130 : decode cX6_digest 130 = .ok (.i2l, 1) := by decide +kernel
theorem dX6_digest_131 : decode cX6_digest 131 = .ok (.invokevirtual 251, 3) := by decide +kernel
theorem dX6_digest_134 : decode cX6_digest 134 = .ok (.iconst 0, 1) := by decide +kernel
theorem dX6_digest_135 : decode cX6_digest 135 = .ok (.istore_n 1, 1) := by decide +kernel
theorem dX6_digest_136 : decode cX6_digest 136 = .ok (.iload_n 1, 1) := by decide +kernel
theorem dX6_digest_137 : decode cX6_digest 137 = .ok (.aload_n 0, 1) := by decide +kernel
theorem dX6_digest_138 : decode cX6_digest 138 = .ok (.getfield 140, 3) := by decide +kernel
theorem dX6_digest_141 : decode cX6_digest 141 = .ok (.if_icmp .ge 20, 3) := by decide +kernel
theorem dX6_digest_144 : decode cX6_digest 144 = .ok (.aload_n 0, 1) := by decide +kernel
theorem dX6_digest_145 : decode cX6_digest 145 = .ok (.aload_n 0, 1) := by decide +kernel
theorem dX6_digest_146 : decode cX6_digest 146 = .ok (.getfield 22, 3) := by decide +kernel
theorem dX6_digest_149 : decode cX6_digest 149 = .ok (.iload_n 1, 1) := by decide +kernel
theorem dX6_digest_150 : decode cX6_digest 150 = .ok (.iaload, 1) := by decide +kernel
theorem dX6_digest_151 : decode cX6_digest 151 = .ok (.i2l, 1) := by decide +kernel
theorem dX6_digest_152 : decode cX6_digest 152 = .ok (.invokevirtual 251, 3) := by decide +kernel
theorem dX6_digest_155 : decode cX6_digest 155 = .ok (.iinc 1 1, 3) := by decide +kernel
theorem dX6_digest_158 : decode cX6_digest 158 = .ok (.goto (-22), 3) := by decide +kernel
theorem dX6_digest_161 : decode cX6_digest 161 = .ok (.aload_n 0, 1) := by decide +kernel
theorem dX6_digest_162 : decode cX6_digest 162 = .ok (.getfield 247, 3) := by decide +kernel
theorem dX6_digest_165 : decode cX6_digest 165 = .ok (.lreturn, 1) := by decide +kernel
end
section
theorem dJ9_max_7cf53_0 : decode cJ9_max_7cf53 0 = .ok (.iload_n 0, 1) := by decide +kernel
theorem dJ9_max_7cf53_1 : decode cJ9_max_7cf53 1 = .ok (.iload_n 1, 1) := by decide +kernel
theorem dJ9_max_7cf53_2 : decode cJ9_max_7cf53 2 = .ok (.if_icmp .lt 7, 3) := by decide +kernel
theorem dJ9_max_7cf53_5 : decode cJ9_max_7cf53 5 = .ok (.iload_n 0, 1) := by decide +kernel
theorem dJ9_max_7cf53_6 : decode cJ9_max_7cf53 6 = .ok (.goto 4, 3) := by decide +kernel
theorem dJ9_max_7cf53_9 : decode cJ9_max_7cf53 9 = .ok (.iload_n 1, 1) := by decide +kernel
theorem dJ9_max_7cf53_10 : decode cJ9_max_7cf53 10 = .ok (.ireturn, 1) := by decide +kernel
theorem dJ9_min_7cf53_0 : decode cJ9_min_7cf53 0 = .ok (.iload_n 0, 1) := by decide +kernel
theorem dJ9_min_7cf53_1 : decode cJ9_min_7cf53 1 = .ok (.iload_n 1, 1) := by decide +kernel
theorem dJ9_min_7cf53_2 : decode cJ9_min_7cf53 2 = .ok (.if_icmp .gt 7, 3) := by decide +kernel
theorem dJ9_min_7cf53_5 : decode cJ9_min_7cf53 5 = .ok (.iload_n 0, 1) := by decide +kernel
theorem dJ9_min_7cf53_6 : decode cJ9_min_7cf53 6 = .ok (.goto 4, 3) := by decide +kernel
theorem dJ9_min_7cf53_9 : decode cJ9_min_7cf53 9 = .ok (.iload_n 1, 1) := by decide +kernel
theorem dJ9_min_7cf53_10 : decode cJ9_min_7cf53 10 = .ok (.ireturn, 1) := by decide +kernel
theorem dL_gap_0 : decode cL_gap 0 = .ok (.aload_n 3, 1) := by decide +kernel
theorem dL_gap_1 : decode cL_gap 1 = .ok (.iconst 0, 1) := by decide +kernel
theorem dL_gap_2 : decode cL_gap 2 = .ok (.aload_n 0, 1) := by decide +kernel
theorem dL_gap_3 : decode cL_gap 3 = .ok (.iload_n 1, 1) := by decide +kernel
theorem dL_gap_4 : decode cL_gap 4 = .ok (.iload_n 2, 1) := by decide +kernel
theorem dL_gap_5 : decode cL_gap 5 = .ok (.invokevirtual 7, 3) := by decide +kernel
theorem dL_gap_8 : decode cL_gap 8 = .ok (.i2l, 1) := by decide +kernel
theorem dL_gap_9 : decode cL_gap 9 = .ok (.lastore, 1) := by decide +kernel
theorem dL_gap_10 : decode cL_gap 10 = .ok (.goto 15, 3) := by decide +kernel
theorem dL_gap_13 : decode cL_gap 13 = .ok (.astore 4, 2) := by decide +kernel
theorem dL_gap_15 : decode cL_gap 15 = .ok (.iconst 1, 1) := by decide +kernel
theorem dL_gap_16 : decode cL_gap 16 = .ok (.ireturn, 1) := by decide +kernel
theorem dL_gap_17 : decode cL_gap 17 = .ok (.astore 4, 2) := by decide +kernel
theorem dL_gap_19 : decode cL_gap 19 = .ok (.iconst 2, 1) := by decide +kernel
theorem dL_gap_20 : decode cL_gap 20 = .ok (.ireturn, 1) := by decide +kernel
theorem dL_gap_21 : decode cL_gap 21 = .ok (.astore 4, 2) := by decide +kernel
theorem dL_gap_23 : decode cL_gap 23 = .ok (.iconst 3, 1) := by decide +kernel
theorem dL_gap_24 : decode cL_gap 24 = .ok (.ireturn, 1) := by decide +kernel
theorem dL_gap_25 : decode cL_gap 25 = .ok (.iconst 0, 1) := by decide +kernel
theorem dL_gap_26 : decode cL_gap 26 = .ok (.ireturn, 1) := by decide +kernel
theorem dL_rope_0 : decode cL_rope 0 = .ok (.aload_n 2, 1) := by decide +kernel
theorem dL_rope_1 : decode cL_rope 1 = .ok (.iconst 0, 1) := by decide +kernel
theorem dL_rope_2 : decode cL_rope 2 = .ok (.aload_n 0, 1) := by decide +kernel
theorem dL_rope_3 : decode cL_rope 3 = .ok (.iload_n 1, 1) := by decide +kernel
theorem dL_rope_4 : decode cL_rope 4 = .ok (.invokevirtual 19, 3) := by decide +kernel
theorem dL_rope_7 : decode cL_rope 7 = .ok (.i2l, 1) := by decide +kernel
theorem dL_rope_8 : decode cL_rope 8 = .ok (.lastore, 1) := by decide +kernel
theorem dL_rope_9 : decode cL_rope 9 = .ok (.goto 9, 3) := by decide +kernel
theorem dL_rope_12 : decode cL_rope 12 = .ok (.astore_n 3, 1) := by decide +kernel
theorem dL_rope_13 : decode cL_rope 13 = .ok (.iconst 1, 1) := by decide +kernel
theorem dL_rope_14 : decode cL_rope 14 = .ok (.ireturn, 1) := by decide +kernel
theorem dL_rope_15 : decode cL_rope 15 = .ok (.astore_n 3, 1) := by decide +kernel
theorem dL_rope_16 : decode cL_rope 16 = .ok (.iconst 2, 1) := by decide +kernel
theorem dL_rope_17 : decode cL_rope 17 = .ok (.ireturn, 1) := by decide +kernel
theorem dL_rope_18 : decode cL_rope 18 = .ok (.iconst 0, 1) := by decide +kernel
theorem dL_rope_19 : decode cL_rope 19 = .ok (.ireturn, 1) := by decide +kernel
theorem dL_drop_0 : decode cL_drop 0 = .ok (.aload_n 2, 1) := by decide +kernel
theorem dL_drop_1 : decode cL_drop 1 = .ok (.iconst 0, 1) := by decide +kernel
theorem dL_drop_2 : decode cL_drop 2 = .ok (.aload_n 0, 1) := by decide +kernel
theorem dL_drop_3 : decode cL_drop 3 = .ok (.iload_n 1, 1) := by decide +kernel
theorem dL_drop_4 : decode cL_drop 4 = .ok (.invokevirtual 23, 3) := by decide +kernel
theorem dL_drop_7 : decode cL_drop 7 = .ok (.i2l, 1) := by decide +kernel
theorem dL_drop_8 : decode cL_drop 8 = .ok (.lastore, 1) := by decide +kernel
theorem dL_drop_9 : decode cL_drop 9 = .ok (.goto 6, 3) := by decide +kernel
theorem dL_drop_12 : decode cL_drop 12 = .ok (.astore_n 3, 1) := by decide +kernel
theorem dL_drop_13 : decode cL_drop 13 = .ok (.iconst 1, 1) := by decide +kernel
theorem dL_drop_14 : decode cL_drop 14 = .ok (.ireturn, 1) := by decide +kernel
theorem dL_drop_15 : decode cL_drop 15 = .ok (.iconst 0, 1) := by decide +kernel
theorem dL_drop_16 : decode cL_drop 16 = .ok (.ireturn, 1) := by decide +kernel
theorem dL_lay_0 : decode cL_lay 0 = .ok (.aload 4, 2) := by decide +kernel
theorem dL_lay_2 : decode cL_lay 2 = .ok (.iconst 0, 1) := by decide +kernel
theorem dL_lay_3 : decode cL_lay 3 = .ok (.aload_n 0, 1) := by decide +kernel
theorem dL_lay_4 : decode cL_lay 4 = .ok (.iload_n 1, 1) := by decide +kernel
theorem dL_lay_5 : decode cL_lay 5 = .ok (.iload_n 2, 1) := by decide +kernel
theorem dL_lay_6 : decode cL_lay 6 = .ok (.iload_n 3, 1) := by decide +kernel
theorem dL_lay_7 : decode cL_lay 7 = .ok (.invokevirtual 26, 3) := by decide +kernel
theorem dL_lay_10 : decode cL_lay 10 = .ok (.i2l, 1) := by decide +kernel
theorem dL_lay_11 : decode cL_lay 11 = .ok (.lastore, 1) := by decide +kernel
theorem dL_lay_12 : decode cL_lay 12 = .ok (.goto 15, 3) := by decide +kernel
theorem dL_lay_15 : decode cL_lay 15 = .ok (.astore 5, 2) := by decide +kernel
theorem dL_lay_17 : decode cL_lay 17 = .ok (.iconst 1, 1) := by decide +kernel
theorem dL_lay_18 : decode cL_lay 18 = .ok (.ireturn, 1) := by decide +kernel
theorem dL_lay_19 : decode cL_lay 19 = .ok (.astore 5, 2) := by decide +kernel
theorem dL_lay_21 : decode cL_lay 21 = .ok (.iconst 2, 1) := by decide +kernel
theorem dL_lay_22 : decode cL_lay 22 = .ok (.ireturn, 1) := by decide +kernel
theorem dL_lay_23 : decode cL_lay 23 = .ok (.astore 5, 2) := by decide +kernel
theorem dL_lay_25 : decode cL_lay 25 = .ok (.iconst 3, 1) := by decide +kernel
theorem dL_lay_26 : decode cL_lay 26 = .ok (.ireturn, 1) := by decide +kernel
theorem dL_lay_27 : decode cL_lay 27 = .ok (.iconst 0, 1) := by decide +kernel
theorem dL_lay_28 : decode cL_lay 28 = .ok (.ireturn, 1) := by decide +kernel
theorem dL_take_0 : decode cL_take 0 = .ok (.aload_n 3, 1) := by decide +kernel
theorem dL_take_1 : decode cL_take 1 = .ok (.iconst 0, 1) := by decide +kernel
theorem dL_take_2 : decode cL_take 2 = .ok (.aload_n 0, 1) := by decide +kernel
theorem dL_take_3 : decode cL_take 3 = .ok (.iload_n 1, 1) := by decide +kernel
theorem dL_take_4 : decode cL_take 4 = .ok (.iload_n 2, 1) := by decide +kernel
theorem dL_take_5 : decode cL_take 5 = .ok (.invokevirtual 30, 3) := by decide +kernel
theorem dL_take_8 : decode cL_take 8 = .ok (.i2l, 1) := by decide +kernel
theorem dL_take_9 : decode cL_take 9 = .ok (.lastore, 1) := by decide +kernel
theorem dL_take_10 : decode cL_take 10 = .ok (.goto 11, 3) := by decide +kernel
theorem dL_take_13 : decode cL_take 13 = .ok (.astore 4, 2) := by decide +kernel
theorem dL_take_15 : decode cL_take 15 = .ok (.iconst 1, 1) := by decide +kernel
theorem dL_take_16 : decode cL_take 16 = .ok (.ireturn, 1) := by decide +kernel
theorem dL_take_17 : decode cL_take 17 = .ok (.astore 4, 2) := by decide +kernel
theorem dL_take_19 : decode cL_take 19 = .ok (.iconst 2, 1) := by decide +kernel
theorem dL_take_20 : decode cL_take 20 = .ok (.ireturn, 1) := by decide +kernel
theorem dL_take_21 : decode cL_take 21 = .ok (.iconst 0, 1) := by decide +kernel
theorem dL_take_22 : decode cL_take 22 = .ok (.ireturn, 1) := by decide +kernel
theorem dL_stretch_0 : decode cL_stretch 0 = .ok (.aload_n 3, 1) := by decide +kernel
theorem dL_stretch_1 : decode cL_stretch 1 = .ok (.iconst 0, 1) := by decide +kernel
theorem dL_stretch_2 : decode cL_stretch 2 = .ok (.aload_n 0, 1) := by decide +kernel
theorem dL_stretch_3 : decode cL_stretch 3 = .ok (.iload_n 1, 1) := by decide +kernel
theorem dL_stretch_4 : decode cL_stretch 4 = .ok (.iload_n 2, 1) := by decide +kernel
theorem dL_stretch_5 : decode cL_stretch 5 = .ok (.invokevirtual 33, 3) := by decide +kernel
theorem dL_stretch_8 : decode cL_stretch 8 = .ok (.i2l, 1) := by decide +kernel
theorem dL_stretch_9 : decode cL_stretch 9 = .ok (.lastore, 1) := by decide +kernel
theorem dL_stretch_10 : decode cL_stretch 10 = .ok (.goto 15, 3) := by decide +kernel
theorem dL_stretch_13 : decode cL_stretch 13 = .ok (.astore 4, 2) := by decide +kernel
theorem dL_stretch_15 : decode cL_stretch 15 = .ok (.iconst 1, 1) := by decide +kernel
theorem dL_stretch_16 : decode cL_stretch 16 = .ok (.ireturn, 1) := by decide +kernel
theorem dL_stretch_17 : decode cL_stretch 17 = .ok (.astore 4, 2) := by decide +kernel
theorem dL_stretch_19 : decode cL_stretch 19 = .ok (.iconst 2, 1) := by decide +kernel
theorem dL_stretch_20 : decode cL_stretch 20 = .ok (.ireturn, 1) := by decide +kernel
theorem dL_stretch_21 : decode cL_stretch 21 = .ok (.astore 4, 2) := by decide +kernel
theorem dL_stretch_23 : decode cL_stretch 23 = .ok (.iconst 3, 1) := by decide +kernel
theorem dL_stretch_24 : decode cL_stretch 24 = .ok (.ireturn, 1) := by decide +kernel
theorem dL_stretch_25 : decode cL_stretch 25 = .ok (.iconst 0, 1) := by decide +kernel
theorem dL_stretch_26 : decode cL_stretch 26 = .ok (.ireturn, 1) := by decide +kernel
theorem dL_cut_0 : decode cL_cut 0 = .ok (.aload_n 3, 1) := by decide +kernel
theorem dL_cut_1 : decode cL_cut 1 = .ok (.iconst 0, 1) := by decide +kernel
theorem dL_cut_2 : decode cL_cut 2 = .ok (.aload_n 0, 1) := by decide +kernel
theorem dL_cut_3 : decode cL_cut 3 = .ok (.iload_n 1, 1) := by decide +kernel
theorem dL_cut_4 : decode cL_cut 4 = .ok (.iload_n 2, 1) := by decide +kernel
theorem dL_cut_5 : decode cL_cut 5 = .ok (.invokevirtual 36, 3) := by decide +kernel
theorem dL_cut_8 : decode cL_cut 8 = .ok (.i2l, 1) := by decide +kernel
theorem dL_cut_9 : decode cL_cut 9 = .ok (.lastore, 1) := by decide +kernel
theorem dL_cut_10 : decode cL_cut 10 = .ok (.goto 15, 3) := by decide +kernel
theorem dL_cut_13 : decode cL_cut 13 = .ok (.astore 4, 2) := by decide +kernel
theorem dL_cut_15 : decode cL_cut 15 = .ok (.iconst 1, 1) := by decide +kernel
theorem dL_cut_16 : decode cL_cut 16 = .ok (.ireturn, 1) := by decide +kernel
theorem dL_cut_17 : decode cL_cut 17 = .ok (.astore 4, 2) := by decide +kernel
theorem dL_cut_19 : decode cL_cut 19 = .ok (.iconst 2, 1) := by decide +kernel
theorem dL_cut_20 : decode cL_cut 20 = .ok (.ireturn, 1) := by decide +kernel
theorem dL_cut_21 : decode cL_cut 21 = .ok (.astore 4, 2) := by decide +kernel
theorem dL_cut_23 : decode cL_cut 23 = .ok (.iconst 3, 1) := by decide +kernel
theorem dL_cut_24 : decode cL_cut 24 = .ok (.ireturn, 1) := by decide +kernel
theorem dL_cut_25 : decode cL_cut 25 = .ok (.iconst 0, 1) := by decide +kernel
theorem dL_cut_26 : decode cL_cut 26 = .ok (.ireturn, 1) := by decide +kernel
theorem dL_turn_0 : decode cL_turn 0 = .ok (.aload_n 2, 1) := by decide +kernel
theorem dL_turn_1 : decode cL_turn 1 = .ok (.iconst 0, 1) := by decide +kernel
theorem dL_turn_2 : decode cL_turn 2 = .ok (.aload_n 0, 1) := by decide +kernel
theorem dL_turn_3 : decode cL_turn 3 = .ok (.iload_n 1, 1) := by decide +kernel
theorem dL_turn_4 : decode cL_turn 4 = .ok (.invokevirtual 39, 3) := by decide +kernel
theorem dL_turn_7 : decode cL_turn 7 = .ok (.i2l, 1) := by decide +kernel
theorem dL_turn_8 : decode cL_turn 8 = .ok (.lastore, 1) := by decide +kernel
theorem dL_turn_9 : decode cL_turn 9 = .ok (.goto 6, 3) := by decide +kernel
theorem dL_turn_12 : decode cL_turn 12 = .ok (.astore_n 3, 1) := by decide +kernel
theorem dL_turn_13 : decode cL_turn 13 = .ok (.iconst 1, 1) := by decide +kernel
theorem dL_turn_14 : decode cL_turn 14 = .ok (.ireturn, 1) := by decide +kernel
theorem dL_turn_15 : decode cL_turn 15 = .ok (.iconst 0, 1) := by decide +kernel
theorem dL_turn_16 : decode cL_turn 16 = .ok (.ireturn, 1) := by decide +kernel
theorem dL_join_0 : decode cL_join 0 = .ok (.aload_n 3, 1) := by decide +kernel
theorem dL_join_1 : decode cL_join 1 = .ok (.iconst 0, 1) := by decide +kernel
theorem dL_join_2 : decode cL_join 2 = .ok (.aload_n 0, 1) := by decide +kernel
theorem dL_join_3 : decode cL_join 3 = .ok (.iload_n 1, 1) := by decide +kernel
theorem dL_join_4 : decode cL_join 4 = .ok (.iload_n 2, 1) := by decide +kernel
theorem dL_join_5 : decode cL_join 5 = .ok (.invokevirtual 42, 3) := by decide +kernel
theorem dL_join_8 : decode cL_join 8 = .ok (.i2l, 1) := by decide +kernel
theorem dL_join_9 : decode cL_join 9 = .ok (.lastore, 1) := by decide +kernel
theorem dL_join_10 : decode cL_join 10 = .ok (.goto 11, 3) := by decide +kernel
theorem dL_join_13 : decode cL_join 13 = .ok (.astore 4, 2) := by decide +kernel
theorem dL_join_15 : decode cL_join 15 = .ok (.iconst 1, 1) := by decide +kernel
theorem dL_join_16 : decode cL_join 16 = .ok (.ireturn, 1) := by decide +kernel
theorem dL_join_17 : decode cL_join 17 = .ok (.astore 4, 2) := by decide +kernel
theorem dL_join_19 : decode cL_join 19 = .ok (.iconst 2, 1) := by decide +kernel
theorem dL_join_20 : decode cL_join 20 = .ok (.ireturn, 1) := by decide +kernel
theorem dL_join_21 : decode cL_join 21 = .ok (.iconst 0, 1) := by decide +kernel
theorem dL_join_22 : decode cL_join 22 = .ok (.ireturn, 1) := by decide +kernel
theorem dL_append_0 : decode cL_append 0 = .ok (.aload_n 2, 1) := by decide +kernel
theorem dL_append_1 : decode cL_append 1 = .ok (.iconst 0, 1) := by decide +kernel
theorem dL_append_2 : decode cL_append 2 = .ok (.aload_n 0, 1) := by decide +kernel
theorem dL_append_3 : decode cL_append 3 = .ok (.iload_n 1, 1) := by decide +kernel
theorem dL_append_4 : decode cL_append 4 = .ok (.invokevirtual 45, 3) := by decide +kernel
theorem dL_append_7 : decode cL_append 7 = .ok (.i2l, 1) := by decide +kernel
theorem dL_append_8 : decode cL_append 8 = .ok (.lastore, 1) := by decide +kernel
theorem dL_append_9 : decode cL_append 9 = .ok (.goto 9, 3) := by decide +kernel
theorem dL_append_12 : decode cL_append 12 = .ok (.astore_n 3, 1) := by decide +kernel
theorem dL_append_13 : decode cL_append 13 = .ok (.iconst 1, 1) := by decide +kernel
theorem dL_append_14 : decode cL_append 14 = .ok (.ireturn, 1) := by decide +kernel
theorem dL_append_15 : decode cL_append 15 = .ok (.astore_n 3, 1) := by decide +kernel
theorem dL_append_16 : decode cL_append 16 = .ok (.iconst 2, 1) := by decide +kernel
theorem dL_append_17 : decode cL_append 17 = .ok (.ireturn, 1) := by decide +kernel
theorem dL_append_18 : decode cL_append 18 = .ok (.iconst 0, 1) := by decide +kernel
theorem dL_append_19 : decode cL_append 19 = .ok (.ireturn, 1) := by decide +kernel
theorem dL_play_0 : decode cL_play 0 = .ok (.aload_n 1, 1) := by decide +kernel
theorem dL_play_1 : decode cL_play 1 = .ok (.iconst 0, 1) := by decide +kernel
theorem dL_play_2 : decode cL_play 2 = .ok (.aload_n 0, 1) := by decide +kernel
theorem dL_play_3 : decode cL_play 3 = .ok (.invokevirtual 48, 3) := by decide +kernel
theorem dL_play_6 : decode cL_play 6 = .ok (.i2l, 1) := by decide +kernel
theorem dL_play_7 : decode cL_play 7 = .ok (.lastore, 1) := by decide +kernel
theorem dL_play_8 : decode cL_play 8 = .ok (.goto 6, 3) := by decide +kernel
theorem dL_play_11 : decode cL_play 11 = .ok (.astore_n 2, 1) := by decide +kernel
theorem dL_play_12 : decode cL_play 12 = .ok (.iconst 1, 1) := by decide +kernel
theorem dL_play_13 : decode cL_play 13 = .ok (.ireturn, 1) := by decide +kernel
theorem dL_play_14 : decode cL_play 14 = .ok (.iconst 0, 1) := by decide +kernel
theorem dL_play_15 : decode cL_play 15 = .ok (.ireturn, 1) := by decide +kernel
theorem dL_undo_0 : decode cL_undo 0 = .ok (.aload_n 1, 1) := by decide +kernel
theorem dL_undo_1 : decode cL_undo 1 = .ok (.iconst 0, 1) := by decide +kernel
theorem dL_undo_2 : decode cL_undo 2 = .ok (.aload_n 0, 1) := by decide +kernel
theorem dL_undo_3 : decode cL_undo 3 = .ok (.invokevirtual 52, 3) := by decide +kernel
theorem dL_undo_6 : decode cL_undo 6 = .ok (.i2l, 1) := by decide +kernel
theorem dL_undo_7 : decode cL_undo 7 = .ok (.lastore, 1) := by decide +kernel
theorem dL_undo_8 : decode cL_undo 8 = .ok (.goto 6, 3) := by decide +kernel
theorem dL_undo_11 : decode cL_undo 11 = .ok (.astore_n 2, 1) := by decide +kernel
theorem dL_undo_12 : decode cL_undo 12 = .ok (.iconst 1, 1) := by decide +kernel
theorem dL_undo_13 : decode cL_undo 13 = .ok (.ireturn, 1) := by decide +kernel
theorem dL_undo_14 : decode cL_undo 14 = .ok (.iconst 0, 1) := by decide +kernel
theorem dL_undo_15 : decode cL_undo 15 = .ok (.ireturn, 1) := by decide +kernel
theorem dL_restore_0 : decode cL_restore 0 = .ok (.aload_n 1, 1) := by decide +kernel
theorem dL_restore_1 : decode cL_restore 1 = .ok (.iconst 0, 1) := by decide +kernel
theorem dL_restore_2 : decode cL_restore 2 = .ok (.aload_n 0, 1) := by decide +kernel
theorem dL_restore_3 : decode cL_restore 3 = .ok (.invokevirtual 55, 3) := by decide +kernel
theorem dL_restore_6 : decode cL_restore 6 = .ok (.i2l, 1) := by decide +kernel
theorem dL_restore_7 : decode cL_restore 7 = .ok (.lastore, 1) := by decide +kernel
theorem dL_restore_8 : decode cL_restore 8 = .ok (.goto 6, 3) := by decide +kernel
theorem dL_restore_11 : decode cL_restore 11 = .ok (.astore_n 2, 1) := by decide +kernel
theorem dL_restore_12 : decode cL_restore 12 = .ok (.iconst 1, 1) := by decide +kernel
theorem dL_restore_13 : decode cL_restore 13 = .ok (.ireturn, 1) := by decide +kernel
theorem dL_restore_14 : decode cL_restore 14 = .ok (.iconst 0, 1) := by decide +kernel
theorem dL_restore_15 : decode cL_restore 15 = .ok (.ireturn, 1) := by decide +kernel
theorem dL_place_0 : decode cL_place 0 = .ok (.aload_n 3, 1) := by decide +kernel
theorem dL_place_1 : decode cL_place 1 = .ok (.iconst 0, 1) := by decide +kernel
theorem dL_place_2 : decode cL_place 2 = .ok (.aload_n 0, 1) := by decide +kernel
theorem dL_place_3 : decode cL_place 3 = .ok (.iload_n 1, 1) := by decide +kernel
theorem dL_place_4 : decode cL_place 4 = .ok (.iload_n 2, 1) := by decide +kernel
theorem dL_place_5 : decode cL_place 5 = .ok (.invokevirtual 58, 3) := by decide +kernel
theorem dL_place_8 : decode cL_place 8 = .ok (.i2l, 1) := by decide +kernel
theorem dL_place_9 : decode cL_place 9 = .ok (.lastore, 1) := by decide +kernel
theorem dL_place_10 : decode cL_place 10 = .ok (.goto 7, 3) := by decide +kernel
theorem dL_place_13 : decode cL_place 13 = .ok (.astore 4, 2) := by decide +kernel
theorem dL_place_15 : decode cL_place 15 = .ok (.iconst 1, 1) := by decide +kernel
theorem dL_place_16 : decode cL_place 16 = .ok (.ireturn, 1) := by decide +kernel
theorem dL_place_17 : decode cL_place 17 = .ok (.iconst 0, 1) := by decide +kernel
theorem dL_place_18 : decode cL_place 18 = .ok (.ireturn, 1) := by decide +kernel
theorem dL_ropeOf_0 : decode cL_ropeOf 0 = .ok (.aload_n 3, 1) := by decide +kernel
theorem dL_ropeOf_1 : decode cL_ropeOf 1 = .ok (.iconst 0, 1) := by decide +kernel
theorem dL_ropeOf_2 : decode cL_ropeOf 2 = .ok (.aload_n 0, 1) := by decide +kernel
theorem dL_ropeOf_3 : decode cL_ropeOf 3 = .ok (.iload_n 1, 1) := by decide +kernel
theorem dL_ropeOf_4 : decode cL_ropeOf 4 = .ok (.iload_n 2, 1) := by decide +kernel
theorem dL_ropeOf_5 : decode cL_ropeOf 5 = .ok (.invokevirtual 61, 3) := by decide +kernel
theorem dL_ropeOf_8 : decode cL_ropeOf 8 = .ok (.i2l, 1) := by decide +kernel
theorem dL_ropeOf_9 : decode cL_ropeOf 9 = .ok (.lastore, 1) := by decide +kernel
theorem dL_ropeOf_10 : decode cL_ropeOf 10 = .ok (.goto 11, 3) := by decide +kernel
theorem dL_ropeOf_13 : decode cL_ropeOf 13 = .ok (.astore 4, 2) := by decide +kernel
theorem dL_ropeOf_15 : decode cL_ropeOf 15 = .ok (.iconst 1, 1) := by decide +kernel
theorem dL_ropeOf_16 : decode cL_ropeOf 16 = .ok (.ireturn, 1) := by decide +kernel
theorem dL_ropeOf_17 : decode cL_ropeOf 17 = .ok (.astore 4, 2) := by decide +kernel
theorem dL_ropeOf_19 : decode cL_ropeOf 19 = .ok (.iconst 2, 1) := by decide +kernel
theorem dL_ropeOf_20 : decode cL_ropeOf 20 = .ok (.ireturn, 1) := by decide +kernel
theorem dL_ropeOf_21 : decode cL_ropeOf 21 = .ok (.iconst 0, 1) := by decide +kernel
theorem dL_ropeOf_22 : decode cL_ropeOf 22 = .ok (.ireturn, 1) := by decide +kernel
theorem dL_hueOf_0 : decode cL_hueOf 0 = .ok (.aload 4, 2) := by decide +kernel
theorem dL_hueOf_2 : decode cL_hueOf 2 = .ok (.iconst 0, 1) := by decide +kernel
theorem dL_hueOf_3 : decode cL_hueOf 3 = .ok (.aload_n 0, 1) := by decide +kernel
theorem dL_hueOf_4 : decode cL_hueOf 4 = .ok (.iload_n 1, 1) := by decide +kernel
theorem dL_hueOf_5 : decode cL_hueOf 5 = .ok (.iload_n 2, 1) := by decide +kernel
theorem dL_hueOf_6 : decode cL_hueOf 6 = .ok (.iload_n 3, 1) := by decide +kernel
theorem dL_hueOf_7 : decode cL_hueOf 7 = .ok (.invokevirtual 64, 3) := by decide +kernel
theorem dL_hueOf_10 : decode cL_hueOf 10 = .ok (.i2l, 1) := by decide +kernel
theorem dL_hueOf_11 : decode cL_hueOf 11 = .ok (.lastore, 1) := by decide +kernel
theorem dL_hueOf_12 : decode cL_hueOf 12 = .ok (.goto 11, 3) := by decide +kernel
theorem dL_hueOf_15 : decode cL_hueOf 15 = .ok (.astore 5, 2) := by decide +kernel
theorem dL_hueOf_17 : decode cL_hueOf 17 = .ok (.iconst 1, 1) := by decide +kernel
theorem dL_hueOf_18 : decode cL_hueOf 18 = .ok (.ireturn, 1) := by decide +kernel
theorem dL_hueOf_19 : decode cL_hueOf 19 = .ok (.astore 5, 2) := by decide +kernel
theorem dL_hueOf_21 : decode cL_hueOf 21 = .ok (.iconst 2, 1) := by decide +kernel
theorem dL_hueOf_22 : decode cL_hueOf 22 = .ok (.ireturn, 1) := by decide +kernel
theorem dL_hueOf_23 : decode cL_hueOf 23 = .ok (.iconst 0, 1) := by decide +kernel
theorem dL_hueOf_24 : decode cL_hueOf 24 = .ok (.ireturn, 1) := by decide +kernel
theorem dL_gapOf_0 : decode cL_gapOf 0 = .ok (.aload_n 2, 1) := by decide +kernel
theorem dL_gapOf_1 : decode cL_gapOf 1 = .ok (.iconst 0, 1) := by decide +kernel
theorem dL_gapOf_2 : decode cL_gapOf 2 = .ok (.aload_n 0, 1) := by decide +kernel
theorem dL_gapOf_3 : decode cL_gapOf 3 = .ok (.iload_n 1, 1) := by decide +kernel
theorem dL_gapOf_4 : decode cL_gapOf 4 = .ok (.invokevirtual 67, 3) := by decide +kernel
theorem dL_gapOf_7 : decode cL_gapOf 7 = .ok (.i2l, 1) := by decide +kernel
theorem dL_gapOf_8 : decode cL_gapOf 8 = .ok (.lastore, 1) := by decide +kernel
theorem dL_gapOf_9 : decode cL_gapOf 9 = .ok (.goto 6, 3) := by decide +kernel
theorem dL_gapOf_12 : decode cL_gapOf 12 = .ok (.astore_n 3, 1) := by decide +kernel
theorem dL_gapOf_13 : decode cL_gapOf 13 = .ok (.iconst 1, 1) := by decide +kernel
theorem dL_gapOf_14 : decode cL_gapOf 14 = .ok (.ireturn, 1) := by decide +kernel
theorem dL_gapOf_15 : decode cL_gapOf 15 = .ok (.iconst 0, 1) := by decide +kernel
theorem dL_gapOf_16 : decode cL_gapOf 16 = .ok (.ireturn, 1) := by decide +kernel
theorem dL_count_0 : decode cL_count 0 = .ok (.aload_n 2, 1) := by decide +kernel
theorem dL_count_1 : decode cL_count 1 = .ok (.iconst 0, 1) := by decide +kernel
theorem dL_count_2 : decode cL_count 2 = .ok (.aload_n 0, 1) := by decide +kernel
theorem dL_count_3 : decode cL_count 3 = .ok (.iload_n 1, 1) := by decide +kernel
theorem dL_count_4 : decode cL_count 4 = .ok (.invokevirtual 70, 3) := by decide +kernel
theorem dL_count_7 : decode cL_count 7 = .ok (.i2l, 1) := by decide +kernel
theorem dL_count_8 : decode cL_count 8 = .ok (.lastore, 1) := by decide +kernel
theorem dL_count_9 : decode cL_count 9 = .ok (.goto 6, 3) := by decide +kernel
theorem dL_count_12 : decode cL_count 12 = .ok (.astore_n 3, 1) := by decide +kernel
theorem dL_count_13 : decode cL_count 13 = .ok (.iconst 1, 1) := by decide +kernel
theorem dL_count_14 : decode cL_count 14 = .ok (.ireturn, 1) := by decide +kernel
theorem dL_count_15 : decode cL_count 15 = .ok (.iconst 0, 1) := by decide +kernel
theorem dL_count_16 : decode cL_count 16 = .ok (.ireturn, 1) := by decide +kernel
theorem dL_refusal_0 : decode cL_refusal 0 = .ok (.aload 4, 2) := by decide +kernel
theorem dL_refusal_2 : decode cL_refusal 2 = .ok (.iconst 0, 1) := by decide +kernel
theorem dL_refusal_3 : decode cL_refusal 3 = .ok (.aload_n 0, 1) := by decide +kernel
theorem dL_refusal_4 : decode cL_refusal 4 = .ok (.iload_n 1, 1) := by decide +kernel
theorem dL_refusal_5 : decode cL_refusal 5 = .ok (.iload_n 2, 1) := by decide +kernel
theorem dL_refusal_6 : decode cL_refusal 6 = .ok (.iload_n 3, 1) := by decide +kernel
theorem dL_refusal_7 : decode cL_refusal 7 = .ok (.invokevirtual 73, 3) := by decide +kernel
theorem dL_refusal_10 : decode cL_refusal 10 = .ok (.i2l, 1) := by decide +kernel
theorem dL_refusal_11 : decode cL_refusal 11 = .ok (.lastore, 1) := by decide +kernel
theorem dL_refusal_12 : decode cL_refusal 12 = .ok (.goto 11, 3) := by decide +kernel
theorem dL_refusal_15 : decode cL_refusal 15 = .ok (.astore 5, 2) := by decide +kernel
theorem dL_refusal_17 : decode cL_refusal 17 = .ok (.iconst 1, 1) := by decide +kernel
theorem dL_refusal_18 : decode cL_refusal 18 = .ok (.ireturn, 1) := by decide +kernel
theorem dL_refusal_19 : decode cL_refusal 19 = .ok (.astore 5, 2) := by decide +kernel
theorem dL_refusal_21 : decode cL_refusal 21 = .ok (.iconst 2, 1) := by decide +kernel
theorem dL_refusal_22 : decode cL_refusal 22 = .ok (.ireturn, 1) := by decide +kernel
theorem dL_refusal_23 : decode cL_refusal 23 = .ok (.iconst 0, 1) := by decide +kernel
theorem dL_refusal_24 : decode cL_refusal 24 = .ok (.ireturn, 1) := by decide +kernel
theorem dL_meeting_0 : decode cL_meeting 0 = .ok (.aload 5, 2) := by decide +kernel
theorem dL_meeting_2 : decode cL_meeting 2 = .ok (.iconst 0, 1) := by decide +kernel
theorem dL_meeting_3 : decode cL_meeting 3 = .ok (.aload_n 0, 1) := by decide +kernel
theorem dL_meeting_4 : decode cL_meeting 4 = .ok (.iload_n 1, 1) := by decide +kernel
theorem dL_meeting_5 : decode cL_meeting 5 = .ok (.iload_n 2, 1) := by decide +kernel
theorem dL_meeting_6 : decode cL_meeting 6 = .ok (.iload_n 3, 1) := by decide +kernel
theorem dL_meeting_7 : decode cL_meeting 7 = .ok (.iload 4, 2) := by decide +kernel
theorem dL_meeting_9 : decode cL_meeting 9 = .ok (.invokevirtual 76, 3) := by decide +kernel
theorem dL_meeting_12 : decode cL_meeting 12 = .ok (.i2l, 1) := by decide +kernel
theorem dL_meeting_13 : decode cL_meeting 13 = .ok (.lastore, 1) := by decide +kernel
theorem dL_meeting_14 : decode cL_meeting 14 = .ok (.goto 11, 3) := by decide +kernel
theorem dL_meeting_17 : decode cL_meeting 17 = .ok (.astore 6, 2) := by decide +kernel
theorem dL_meeting_19 : decode cL_meeting 19 = .ok (.iconst 1, 1) := by decide +kernel
theorem dL_meeting_20 : decode cL_meeting 20 = .ok (.ireturn, 1) := by decide +kernel
theorem dL_meeting_21 : decode cL_meeting 21 = .ok (.astore 6, 2) := by decide +kernel
theorem dL_meeting_23 : decode cL_meeting 23 = .ok (.iconst 2, 1) := by decide +kernel
theorem dL_meeting_24 : decode cL_meeting 24 = .ok (.ireturn, 1) := by decide +kernel
theorem dL_meeting_25 : decode cL_meeting 25 = .ok (.iconst 0, 1) := by decide +kernel
theorem dL_meeting_26 : decode cL_meeting 26 = .ok (.ireturn, 1) := by decide +kernel
theorem dL_walked_0 : decode cL_walked 0 = .ok (.aload 5, 2) := by decide +kernel
theorem dL_walked_2 : decode cL_walked 2 = .ok (.iconst 0, 1) := by decide +kernel
theorem dL_walked_3 : decode cL_walked 3 = .ok (.aload_n 0, 1) := by decide +kernel
theorem dL_walked_4 : decode cL_walked 4 = .ok (.iload_n 1, 1) := by decide +kernel
theorem dL_walked_5 : decode cL_walked 5 = .ok (.iload_n 2, 1) := by decide +kernel
theorem dL_walked_6 : decode cL_walked 6 = .ok (.iload_n 3, 1) := by decide +kernel
theorem dL_walked_7 : decode cL_walked 7 = .ok (.iload 4, 2) := by decide +kernel
theorem dL_walked_9 : decode cL_walked 9 = .ok (.invokevirtual 80, 3) := by decide +kernel
theorem dL_walked_12 : decode cL_walked 12 = .ok (.i2l, 1) := by decide +kernel
theorem dL_walked_13 : decode cL_walked 13 = .ok (.lastore, 1) := by decide +kernel
theorem dL_walked_14 : decode cL_walked 14 = .ok (.goto 11, 3) := by decide +kernel
theorem dL_walked_17 : decode cL_walked 17 = .ok (.astore 6, 2) := by decide +kernel
theorem dL_walked_19 : decode cL_walked 19 = .ok (.iconst 1, 1) := by decide +kernel
theorem dL_walked_20 : decode cL_walked 20 = .ok (.ireturn, 1) := by decide +kernel
theorem dL_walked_21 : decode cL_walked 21 = .ok (.astore 6, 2) := by decide +kernel
theorem dL_walked_23 : decode cL_walked 23 = .ok (.iconst 2, 1) := by decide +kernel
theorem dL_walked_24 : decode cL_walked 24 = .ok (.ireturn, 1) := by decide +kernel
theorem dL_walked_25 : decode cL_walked 25 = .ok (.iconst 0, 1) := by decide +kernel
theorem dL_walked_26 : decode cL_walked 26 = .ok (.ireturn, 1) := by decide +kernel
theorem dL_phases_0 : decode cL_phases 0 = .ok (.aload 4, 2) := by decide +kernel
theorem dL_phases_2 : decode cL_phases 2 = .ok (.iconst 0, 1) := by decide +kernel
theorem dL_phases_3 : decode cL_phases 3 = .ok (.aload_n 0, 1) := by decide +kernel
theorem dL_phases_4 : decode cL_phases 4 = .ok (.iload_n 1, 1) := by decide +kernel
theorem dL_phases_5 : decode cL_phases 5 = .ok (.iload_n 2, 1) := by decide +kernel
theorem dL_phases_6 : decode cL_phases 6 = .ok (.iload_n 3, 1) := by decide +kernel
theorem dL_phases_7 : decode cL_phases 7 = .ok (.invokevirtual 83, 3) := by decide +kernel
theorem dL_phases_10 : decode cL_phases 10 = .ok (.i2l, 1) := by decide +kernel
theorem dL_phases_11 : decode cL_phases 11 = .ok (.lastore, 1) := by decide +kernel
theorem dL_phases_12 : decode cL_phases 12 = .ok (.goto 11, 3) := by decide +kernel
theorem dL_phases_15 : decode cL_phases 15 = .ok (.astore 5, 2) := by decide +kernel
theorem dL_phases_17 : decode cL_phases 17 = .ok (.iconst 1, 1) := by decide +kernel
theorem dL_phases_18 : decode cL_phases 18 = .ok (.ireturn, 1) := by decide +kernel
theorem dL_phases_19 : decode cL_phases 19 = .ok (.astore 5, 2) := by decide +kernel
theorem dL_phases_21 : decode cL_phases 21 = .ok (.iconst 2, 1) := by decide +kernel
theorem dL_phases_22 : decode cL_phases 22 = .ok (.ireturn, 1) := by decide +kernel
theorem dL_phases_23 : decode cL_phases 23 = .ok (.iconst 0, 1) := by decide +kernel
theorem dL_phases_24 : decode cL_phases 24 = .ok (.ireturn, 1) := by decide +kernel
theorem dL_bestHue_0 : decode cL_bestHue 0 = .ok (.aload_n 2, 1) := by decide +kernel
theorem dL_bestHue_1 : decode cL_bestHue 1 = .ok (.iconst 0, 1) := by decide +kernel
theorem dL_bestHue_2 : decode cL_bestHue 2 = .ok (.aload_n 0, 1) := by decide +kernel
theorem dL_bestHue_3 : decode cL_bestHue 3 = .ok (.iload_n 1, 1) := by decide +kernel
theorem dL_bestHue_4 : decode cL_bestHue 4 = .ok (.invokevirtual 86, 3) := by decide +kernel
theorem dL_bestHue_7 : decode cL_bestHue 7 = .ok (.i2l, 1) := by decide +kernel
theorem dL_bestHue_8 : decode cL_bestHue 8 = .ok (.lastore, 1) := by decide +kernel
theorem dL_bestHue_9 : decode cL_bestHue 9 = .ok (.goto 6, 3) := by decide +kernel
theorem dL_bestHue_12 : decode cL_bestHue 12 = .ok (.astore_n 3, 1) := by decide +kernel
theorem dL_bestHue_13 : decode cL_bestHue 13 = .ok (.iconst 1, 1) := by decide +kernel
theorem dL_bestHue_14 : decode cL_bestHue 14 = .ok (.ireturn, 1) := by decide +kernel
theorem dL_bestHue_15 : decode cL_bestHue 15 = .ok (.iconst 0, 1) := by decide +kernel
theorem dL_bestHue_16 : decode cL_bestHue 16 = .ok (.ireturn, 1) := by decide +kernel
theorem dL_joining_0 : decode cL_joining 0 = .ok (.aload_n 3, 1) := by decide +kernel
theorem dL_joining_1 : decode cL_joining 1 = .ok (.iconst 0, 1) := by decide +kernel
theorem dL_joining_2 : decode cL_joining 2 = .ok (.aload_n 0, 1) := by decide +kernel
theorem dL_joining_3 : decode cL_joining 3 = .ok (.iload_n 1, 1) := by decide +kernel
theorem dL_joining_4 : decode cL_joining 4 = .ok (.iload_n 2, 1) := by decide +kernel
theorem dL_joining_5 : decode cL_joining 5 = .ok (.invokevirtual 89, 3) := by decide +kernel
theorem dL_joining_8 : decode cL_joining 8 = .ok (.i2l, 1) := by decide +kernel
theorem dL_joining_9 : decode cL_joining 9 = .ok (.lastore, 1) := by decide +kernel
theorem dL_joining_10 : decode cL_joining 10 = .ok (.goto 7, 3) := by decide +kernel
theorem dL_joining_13 : decode cL_joining 13 = .ok (.astore 4, 2) := by decide +kernel
theorem dL_joining_15 : decode cL_joining 15 = .ok (.iconst 1, 1) := by decide +kernel
theorem dL_joining_16 : decode cL_joining 16 = .ok (.ireturn, 1) := by decide +kernel
theorem dL_joining_17 : decode cL_joining 17 = .ok (.iconst 0, 1) := by decide +kernel
theorem dL_joining_18 : decode cL_joining 18 = .ok (.ireturn, 1) := by decide +kernel
theorem dL_greatest_0 : decode cL_greatest 0 = .ok (.aload_n 2, 1) := by decide +kernel
theorem dL_greatest_1 : decode cL_greatest 1 = .ok (.iconst 0, 1) := by decide +kernel
theorem dL_greatest_2 : decode cL_greatest 2 = .ok (.aload_n 0, 1) := by decide +kernel
theorem dL_greatest_3 : decode cL_greatest 3 = .ok (.iload_n 1, 1) := by decide +kernel
theorem dL_greatest_4 : decode cL_greatest 4 = .ok (.invokevirtual 92, 3) := by decide +kernel
theorem dL_greatest_7 : decode cL_greatest 7 = .ok (.i2l, 1) := by decide +kernel
theorem dL_greatest_8 : decode cL_greatest 8 = .ok (.lastore, 1) := by decide +kernel
theorem dL_greatest_9 : decode cL_greatest 9 = .ok (.goto 6, 3) := by decide +kernel
theorem dL_greatest_12 : decode cL_greatest 12 = .ok (.astore_n 3, 1) := by decide +kernel
theorem dL_greatest_13 : decode cL_greatest 13 = .ok (.iconst 1, 1) := by decide +kernel
theorem dL_greatest_14 : decode cL_greatest 14 = .ok (.ireturn, 1) := by decide +kernel
theorem dL_greatest_15 : decode cL_greatest 15 = .ok (.iconst 0, 1) := by decide +kernel
theorem dL_greatest_16 : decode cL_greatest 16 = .ok (.ireturn, 1) := by decide +kernel
theorem dL_law_0 : decode cL_law 0 = .ok (.new 8, 3) := by decide +kernel
theorem dL_law_3 : decode cL_law 3 = .ok (.dup, 1) := by decide +kernel
theorem dL_law_4 : decode cL_law 4 = .ok (.invokespecial 95, 3) := by decide +kernel
theorem dL_law_7 : decode cL_law 7 = .ok (.astore_n 1, 1) := by decide +kernel
theorem dL_law_8 : decode cL_law 8 = .ok (.new 96, 3) := by decide +kernel
theorem dL_law_11 : decode cL_law 11 = .ok (.dup, 1) := by decide +kernel
theorem dL_law_12 : decode cL_law 12 = .ok (.invokespecial 98, 3) := by decide +kernel
theorem dL_law_15 : decode cL_law 15 = .ok (.astore_n 2, 1) := by decide +kernel
theorem dL_law_16 : decode cL_law 16 = .ok (.iconst 1, 1) := by decide +kernel
theorem dL_law_17 : decode cL_law 17 = .ok (.newarray .long, 2) := by decide +kernel
theorem dL_law_19 : decode cL_law 19 = .ok (.astore_n 3, 1) := by decide +kernel
theorem dL_law_20 : decode cL_law 20 = .ok (.iconst 0, 1) := by decide +kernel
theorem dL_law_21 : decode cL_law 21 = .ok (.istore 4, 2) := by decide +kernel
theorem dL_law_23 : decode cL_law 23 = .ok (.iload 4, 2) := by decide +kernel
theorem dL_law_25 : decode cL_law 25 = .ok (.aload_n 0, 1) := by decide +kernel
theorem dL_law_26 : decode cL_law 26 = .ok (.arraylength, 1) := by decide +kernel
theorem dL_law_27 : decode cL_law 27 = .ok (.iconst 5, 1) := by decide +kernel
theorem dL_law_28 : decode cL_law 28 = .ok (.isub, 1) := by decide +kernel
theorem dL_law_29 : decode cL_law 29 = .ok (.if_icmp .gt 1871, 3) := by decide +kernel
theorem dL_law_32 : decode cL_law 32 = .ok (.aload_n 0, 1) := by decide +kernel
theorem dL_law_33 : decode cL_law 33 = .ok (.iload 4, 2) := by decide +kernel
theorem dL_law_35 : decode cL_law 35 = .ok (.iaload, 1) := by decide +kernel
theorem dL_law_36 : decode cL_law 36 = .ok (.bipush 31, 2) := by decide +kernel
theorem dL_law_38 : decode cL_law 38 = .ok (.iand, 1) := by decide +kernel
theorem dL_law_39 : decode cL_law 39 = .ok (.tableswitch 1855 0 29 #[133, 201, 257, 313, 393, 461, 529, 597, 653, 721, 777, 790, 803, 847, 891, 904, 948, 1016, 1084, 1164, 1220, 1276, 1356, 1448, 1540, 1620, 1676, 1744, 1800, 1841], 133) := by decide +kernel
theorem dL_law_172 : decode cL_law 172 = .ok (.aload_n 1, 1) := by decide +kernel
theorem dL_law_173 : decode cL_law 173 = .ok (.aload_n 0, 1) := by decide +kernel
theorem dL_law_174 : decode cL_law 174 = .ok (.iload 4, 2) := by decide +kernel
theorem dL_law_176 : decode cL_law 176 = .ok (.iconst 1, 1) := by decide +kernel
theorem dL_law_177 : decode cL_law 177 = .ok (.iadd, 1) := by decide +kernel
theorem dL_law_178 : decode cL_law 178 = .ok (.iaload, 1) := by decide +kernel
theorem dL_law_179 : decode cL_law 179 = .ok (.aload_n 0, 1) := by decide +kernel
theorem dL_law_180 : decode cL_law 180 = .ok (.iload 4, 2) := by decide +kernel
theorem dL_law_182 : decode cL_law 182 = .ok (.iconst 2, 1) := by decide +kernel
theorem dL_law_183 : decode cL_law 183 = .ok (.iadd, 1) := by decide +kernel
theorem dL_law_184 : decode cL_law 184 = .ok (.iaload, 1) := by decide +kernel
theorem dL_law_185 : decode cL_law 185 = .ok (.aload_n 3, 1) := by decide +kernel
theorem dL_law_186 : decode cL_law 186 = .ok (.invokestatic 99, 3) := by decide +kernel
theorem dL_law_189 : decode cL_law 189 = .ok (.istore 5, 2) := by decide +kernel
theorem dL_law_191 : decode cL_law 191 = .ok (.aload_n 2, 1) := by decide +kernel
theorem dL_law_192 : decode cL_law 192 = .ok (.aload_n 0, 1) := by decide +kernel
theorem dL_law_193 : decode cL_law 193 = .ok (.iload 4, 2) := by decide +kernel
theorem dL_law_195 : decode cL_law 195 = .ok (.iconst 1, 1) := by decide +kernel
theorem dL_law_196 : decode cL_law 196 = .ok (.iadd, 1) := by decide +kernel
theorem dL_law_197 : decode cL_law 197 = .ok (.iaload, 1) := by decide +kernel
theorem dL_law_198 : decode cL_law 198 = .ok (.aload_n 0, 1) := by decide +kernel
theorem dL_law_199 : decode cL_law 199 = .ok (.iload 4, 2) := by decide +kernel
theorem dL_law_201 : decode cL_law 201 = .ok (.iconst 2, 1) := by decide +kernel
theorem dL_law_202 : decode cL_law 202 = .ok (.iadd, 1) := by decide +kernel
theorem dL_law_203 : decode cL_law 203 = .ok (.iaload, 1) := by decide +kernel
theorem dL_law_204 : decode cL_law 204 = .ok (.invokevirtual 104, 3) := by decide +kernel
theorem dL_law_207 : decode cL_law 207 = .ok (.istore 6, 2) := by decide +kernel
theorem dL_law_209 : decode cL_law 209 = .ok (.aload_n 2, 1) := by decide +kernel
theorem dL_law_210 : decode cL_law 210 = .ok (.invokevirtual 105, 3) := by decide +kernel
theorem dL_law_213 : decode cL_law 213 = .ok (.iload 5, 2) := by decide +kernel
theorem dL_law_215 : decode cL_law 215 = .ok (.if_icmp .eq 5, 3) := by decide +kernel
theorem dL_law_218 : decode cL_law 218 = .ok (.iconst 0, 1) := by decide +kernel
theorem dL_law_219 : decode cL_law 219 = .ok (.ireturn, 1) := by decide +kernel
theorem dL_law_220 : decode cL_law 220 = .ok (.iload 5, 2) := by decide +kernel
theorem dL_law_222 : decode cL_law 222 = .ok (.ifCond .ne 15, 3) := by decide +kernel
theorem dL_law_225 : decode cL_law 225 = .ok (.aload_n 3, 1) := by decide +kernel
theorem dL_law_226 : decode cL_law 226 = .ok (.iconst 0, 1) := by decide +kernel
theorem dL_law_227 : decode cL_law 227 = .ok (.laload, 1) := by decide +kernel
theorem dL_law_228 : decode cL_law 228 = .ok (.iload 6, 2) := by decide +kernel
theorem dL_law_230 : decode cL_law 230 = .ok (.i2l, 1) := by decide +kernel
theorem dL_law_231 : decode cL_law 231 = .ok (.lcmp, 1) := by decide +kernel
theorem dL_law_232 : decode cL_law 232 = .ok (.ifCond .eq 5, 3) := by decide +kernel
theorem dL_law_235 : decode cL_law 235 = .ok (.iconst 0, 1) := by decide +kernel
theorem dL_law_236 : decode cL_law 236 = .ok (.ireturn, 1) := by decide +kernel
theorem dL_law_237 : decode cL_law 237 = .ok (.goto 1657, 3) := by decide +kernel
theorem dL_law_240 : decode cL_law 240 = .ok (.aload_n 1, 1) := by decide +kernel
theorem dL_law_241 : decode cL_law 241 = .ok (.aload_n 0, 1) := by decide +kernel
theorem dL_law_242 : decode cL_law 242 = .ok (.iload 4, 2) := by decide +kernel
theorem dL_law_244 : decode cL_law 244 = .ok (.iconst 1, 1) := by decide +kernel
theorem dL_law_245 : decode cL_law 245 = .ok (.iadd, 1) := by decide +kernel
theorem dL_law_246 : decode cL_law 246 = .ok (.iaload, 1) := by decide +kernel
theorem dL_law_247 : decode cL_law 247 = .ok (.aload_n 3, 1) := by decide +kernel
theorem dL_law_248 : decode cL_law 248 = .ok (.invokestatic 108, 3) := by decide +kernel
theorem dL_law_251 : decode cL_law 251 = .ok (.istore 5, 2) := by decide +kernel
theorem dL_law_253 : decode cL_law 253 = .ok (.aload_n 2, 1) := by decide +kernel
theorem dL_law_254 : decode cL_law 254 = .ok (.aload_n 0, 1) := by decide +kernel
theorem dL_law_255 : decode cL_law 255 = .ok (.iload 4, 2) := by decide +kernel
theorem dL_law_257 : decode cL_law 257 = .ok (.iconst 1, 1) := by decide +kernel
theorem dL_law_258 : decode cL_law 258 = .ok (.iadd, 1) := by decide +kernel
theorem dL_law_259 : decode cL_law 259 = .ok (.iaload, 1) := by decide +kernel
theorem dL_law_260 : decode cL_law 260 = .ok (.invokevirtual 111, 3) := by decide +kernel
theorem dL_law_263 : decode cL_law 263 = .ok (.istore 6, 2) := by decide +kernel
theorem dL_law_265 : decode cL_law 265 = .ok (.aload_n 2, 1) := by decide +kernel
theorem dL_law_266 : decode cL_law 266 = .ok (.invokevirtual 105, 3) := by decide +kernel
theorem dL_law_269 : decode cL_law 269 = .ok (.iload 5, 2) := by decide +kernel
theorem dL_law_271 : decode cL_law 271 = .ok (.if_icmp .eq 5, 3) := by decide +kernel
theorem dL_law_274 : decode cL_law 274 = .ok (.iconst 0, 1) := by decide +kernel
theorem dL_law_275 : decode cL_law 275 = .ok (.ireturn, 1) := by decide +kernel
theorem dL_law_276 : decode cL_law 276 = .ok (.iload 5, 2) := by decide +kernel
theorem dL_law_278 : decode cL_law 278 = .ok (.ifCond .ne 15, 3) := by decide +kernel
theorem dL_law_281 : decode cL_law 281 = .ok (.aload_n 3, 1) := by decide +kernel
theorem dL_law_282 : decode cL_law 282 = .ok (.iconst 0, 1) := by decide +kernel
theorem dL_law_283 : decode cL_law 283 = .ok (.laload, 1) := by decide +kernel
theorem dL_law_284 : decode cL_law 284 = .ok (.iload 6, 2) := by decide +kernel
theorem dL_law_286 : decode cL_law 286 = .ok (.i2l, 1) := by decide +kernel
theorem dL_law_287 : decode cL_law 287 = .ok (.lcmp, 1) := by decide +kernel
theorem dL_law_288 : decode cL_law 288 = .ok (.ifCond .eq 5, 3) := by decide +kernel
theorem dL_law_291 : decode cL_law 291 = .ok (.iconst 0, 1) := by decide +kernel
theorem dL_law_292 : decode cL_law 292 = .ok (.ireturn, 1) := by decide +kernel
theorem dL_law_293 : decode cL_law 293 = .ok (.goto 1601, 3) := by decide +kernel
theorem dL_law_296 : decode cL_law 296 = .ok (.aload_n 1, 1) := by decide +kernel
theorem dL_law_297 : decode cL_law 297 = .ok (.aload_n 0, 1) := by decide +kernel
theorem dL_law_298 : decode cL_law 298 = .ok (.iload 4, 2) := by decide +kernel
theorem dL_law_300 : decode cL_law 300 = .ok (.iconst 1, 1) := by decide +kernel
theorem dL_law_301 : decode cL_law 301 = .ok (.iadd, 1) := by decide +kernel
theorem dL_law_302 : decode cL_law 302 = .ok (.iaload, 1) := by decide +kernel
theorem dL_law_303 : decode cL_law 303 = .ok (.aload_n 3, 1) := by decide +kernel
theorem dL_law_304 : decode cL_law 304 = .ok (.invokestatic 112, 3) := by decide +kernel
theorem dL_law_307 : decode cL_law 307 = .ok (.istore 5, 2) := by decide +kernel
theorem dL_law_309 : decode cL_law 309 = .ok (.aload_n 2, 1) := by decide +kernel
theorem dL_law_310 : decode cL_law 310 = .ok (.aload_n 0, 1) := by decide +kernel
theorem dL_law_311 : decode cL_law 311 = .ok (.iload 4, 2) := by decide +kernel
theorem dL_law_313 : decode cL_law 313 = .ok (.iconst 1, 1) := by decide +kernel
theorem dL_law_314 : decode cL_law 314 = .ok (.iadd, 1) := by decide +kernel
theorem dL_law_315 : decode cL_law 315 = .ok (.iaload, 1) := by decide +kernel
theorem dL_law_316 : decode cL_law 316 = .ok (.invokevirtual 114, 3) := by decide +kernel
theorem dL_law_319 : decode cL_law 319 = .ok (.istore 6, 2) := by decide +kernel
theorem dL_law_321 : decode cL_law 321 = .ok (.aload_n 2, 1) := by decide +kernel
theorem dL_law_322 : decode cL_law 322 = .ok (.invokevirtual 105, 3) := by decide +kernel
theorem dL_law_325 : decode cL_law 325 = .ok (.iload 5, 2) := by decide +kernel
theorem dL_law_327 : decode cL_law 327 = .ok (.if_icmp .eq 5, 3) := by decide +kernel
theorem dL_law_330 : decode cL_law 330 = .ok (.iconst 0, 1) := by decide +kernel
theorem dL_law_331 : decode cL_law 331 = .ok (.ireturn, 1) := by decide +kernel
theorem dL_law_332 : decode cL_law 332 = .ok (.iload 5, 2) := by decide +kernel
theorem dL_law_334 : decode cL_law 334 = .ok (.ifCond .ne 15, 3) := by decide +kernel
theorem dL_law_337 : decode cL_law 337 = .ok (.aload_n 3, 1) := by decide +kernel
theorem dL_law_338 : decode cL_law 338 = .ok (.iconst 0, 1) := by decide +kernel
theorem dL_law_339 : decode cL_law 339 = .ok (.laload, 1) := by decide +kernel
theorem dL_law_340 : decode cL_law 340 = .ok (.iload 6, 2) := by decide +kernel
theorem dL_law_342 : decode cL_law 342 = .ok (.i2l, 1) := by decide +kernel
theorem dL_law_343 : decode cL_law 343 = .ok (.lcmp, 1) := by decide +kernel
theorem dL_law_344 : decode cL_law 344 = .ok (.ifCond .eq 5, 3) := by decide +kernel
theorem dL_law_347 : decode cL_law 347 = .ok (.iconst 0, 1) := by decide +kernel
theorem dL_law_348 : decode cL_law 348 = .ok (.ireturn, 1) := by decide +kernel
theorem dL_law_349 : decode cL_law 349 = .ok (.goto 1545, 3) := by decide +kernel
theorem dL_law_352 : decode cL_law 352 = .ok (.aload_n 1, 1) := by decide +kernel
theorem dL_law_353 : decode cL_law 353 = .ok (.aload_n 0, 1) := by decide +kernel
theorem dL_law_354 : decode cL_law 354 = .ok (.iload 4, 2) := by decide +kernel
theorem dL_law_356 : decode cL_law 356 = .ok (.iconst 1, 1) := by decide +kernel
theorem dL_law_357 : decode cL_law 357 = .ok (.iadd, 1) := by decide +kernel
theorem dL_law_358 : decode cL_law 358 = .ok (.iaload, 1) := by decide +kernel
theorem dL_law_359 : decode cL_law 359 = .ok (.aload_n 0, 1) := by decide +kernel
theorem dL_law_360 : decode cL_law 360 = .ok (.iload 4, 2) := by decide +kernel
theorem dL_law_362 : decode cL_law 362 = .ok (.iconst 2, 1) := by decide +kernel
theorem dL_law_363 : decode cL_law 363 = .ok (.iadd, 1) := by decide +kernel
theorem dL_law_364 : decode cL_law 364 = .ok (.iaload, 1) := by decide +kernel
theorem dL_law_365 : decode cL_law 365 = .ok (.aload_n 0, 1) := by decide +kernel
theorem dL_law_366 : decode cL_law 366 = .ok (.iload 4, 2) := by decide +kernel
theorem dL_law_368 : decode cL_law 368 = .ok (.iconst 3, 1) := by decide +kernel
theorem dL_law_369 : decode cL_law 369 = .ok (.iadd, 1) := by decide +kernel
theorem dL_law_370 : decode cL_law 370 = .ok (.iaload, 1) := by decide +kernel
theorem dL_law_371 : decode cL_law 371 = .ok (.aload_n 3, 1) := by decide +kernel
theorem dL_law_372 : decode cL_law 372 = .ok (.invokestatic 115, 3) := by decide +kernel
theorem dL_law_375 : decode cL_law 375 = .ok (.istore 5, 2) := by decide +kernel
theorem dL_law_377 : decode cL_law 377 = .ok (.aload_n 2, 1) := by decide +kernel
theorem dL_law_378 : decode cL_law 378 = .ok (.aload_n 0, 1) := by decide +kernel
theorem dL_law_379 : decode cL_law 379 = .ok (.iload 4, 2) := by decide +kernel
theorem dL_law_381 : decode cL_law 381 = .ok (.iconst 1, 1) := by decide +kernel
theorem dL_law_382 : decode cL_law 382 = .ok (.iadd, 1) := by decide +kernel
theorem dL_law_383 : decode cL_law 383 = .ok (.iaload, 1) := by decide +kernel
theorem dL_law_384 : decode cL_law 384 = .ok (.aload_n 0, 1) := by decide +kernel
theorem dL_law_385 : decode cL_law 385 = .ok (.iload 4, 2) := by decide +kernel
theorem dL_law_387 : decode cL_law 387 = .ok (.iconst 2, 1) := by decide +kernel
theorem dL_law_388 : decode cL_law 388 = .ok (.iadd, 1) := by decide +kernel
theorem dL_law_389 : decode cL_law 389 = .ok (.iaload, 1) := by decide +kernel
theorem dL_law_390 : decode cL_law 390 = .ok (.aload_n 0, 1) := by decide +kernel
theorem dL_law_391 : decode cL_law 391 = .ok (.iload 4, 2) := by decide +kernel
theorem dL_law_393 : decode cL_law 393 = .ok (.iconst 3, 1) := by decide +kernel
theorem dL_law_394 : decode cL_law 394 = .ok (.iadd, 1) := by decide +kernel
theorem dL_law_395 : decode cL_law 395 = .ok (.iaload, 1) := by decide +kernel
theorem dL_law_396 : decode cL_law 396 = .ok (.invokevirtual 118, 3) := by decide +kernel
theorem dL_law_399 : decode cL_law 399 = .ok (.istore 6, 2) := by decide +kernel
theorem dL_law_401 : decode cL_law 401 = .ok (.aload_n 2, 1) := by decide +kernel
theorem dL_law_402 : decode cL_law 402 = .ok (.invokevirtual 105, 3) := by decide +kernel
theorem dL_law_405 : decode cL_law 405 = .ok (.iload 5, 2) := by decide +kernel
theorem dL_law_407 : decode cL_law 407 = .ok (.if_icmp .eq 5, 3) := by decide +kernel
theorem dL_law_410 : decode cL_law 410 = .ok (.iconst 0, 1) := by decide +kernel
theorem dL_law_411 : decode cL_law 411 = .ok (.ireturn, 1) := by decide +kernel
theorem dL_law_412 : decode cL_law 412 = .ok (.iload 5, 2) := by decide +kernel
theorem dL_law_414 : decode cL_law 414 = .ok (.ifCond .ne 15, 3) := by decide +kernel
theorem dL_law_417 : decode cL_law 417 = .ok (.aload_n 3, 1) := by decide +kernel
theorem dL_law_418 : decode cL_law 418 = .ok (.iconst 0, 1) := by decide +kernel
theorem dL_law_419 : decode cL_law 419 = .ok (.laload, 1) := by decide +kernel
theorem dL_law_420 : decode cL_law 420 = .ok (.iload 6, 2) := by decide +kernel
theorem dL_law_422 : decode cL_law 422 = .ok (.i2l, 1) := by decide +kernel
theorem dL_law_423 : decode cL_law 423 = .ok (.lcmp, 1) := by decide +kernel
theorem dL_law_424 : decode cL_law 424 = .ok (.ifCond .eq 5, 3) := by decide +kernel
theorem dL_law_427 : decode cL_law 427 = .ok (.iconst 0, 1) := by decide +kernel
theorem dL_law_428 : decode cL_law 428 = .ok (.ireturn, 1) := by decide +kernel
theorem dL_law_429 : decode cL_law 429 = .ok (.goto 1465, 3) := by decide +kernel
theorem dL_law_432 : decode cL_law 432 = .ok (.aload_n 1, 1) := by decide +kernel
theorem dL_law_433 : decode cL_law 433 = .ok (.aload_n 0, 1) := by decide +kernel
theorem dL_law_434 : decode cL_law 434 = .ok (.iload 4, 2) := by decide +kernel
theorem dL_law_436 : decode cL_law 436 = .ok (.iconst 1, 1) := by decide +kernel
theorem dL_law_437 : decode cL_law 437 = .ok (.iadd, 1) := by decide +kernel
theorem dL_law_438 : decode cL_law 438 = .ok (.iaload, 1) := by decide +kernel
theorem dL_law_439 : decode cL_law 439 = .ok (.aload_n 0, 1) := by decide +kernel
theorem dL_law_440 : decode cL_law 440 = .ok (.iload 4, 2) := by decide +kernel
theorem dL_law_442 : decode cL_law 442 = .ok (.iconst 2, 1) := by decide +kernel
theorem dL_law_443 : decode cL_law 443 = .ok (.iadd, 1) := by decide +kernel
theorem dL_law_444 : decode cL_law 444 = .ok (.iaload, 1) := by decide +kernel
theorem dL_law_445 : decode cL_law 445 = .ok (.aload_n 3, 1) := by decide +kernel
theorem dL_law_446 : decode cL_law 446 = .ok (.invokestatic 119, 3) := by decide +kernel
theorem dL_law_449 : decode cL_law 449 = .ok (.istore 5, 2) := by decide +kernel
theorem dL_law_451 : decode cL_law 451 = .ok (.aload_n 2, 1) := by decide +kernel
theorem dL_law_452 : decode cL_law 452 = .ok (.aload_n 0, 1) := by decide +kernel
theorem dL_law_453 : decode cL_law 453 = .ok (.iload 4, 2) := by decide +kernel
theorem dL_law_455 : decode cL_law 455 = .ok (.iconst 1, 1) := by decide +kernel
theorem dL_law_456 : decode cL_law 456 = .ok (.iadd, 1) := by decide +kernel
theorem dL_law_457 : decode cL_law 457 = .ok (.iaload, 1) := by decide +kernel
theorem dL_law_458 : decode cL_law 458 = .ok (.aload_n 0, 1) := by decide +kernel
theorem dL_law_459 : decode cL_law 459 = .ok (.iload 4, 2) := by decide +kernel
theorem dL_law_461 : decode cL_law 461 = .ok (.iconst 2, 1) := by decide +kernel
theorem dL_law_462 : decode cL_law 462 = .ok (.iadd, 1) := by decide +kernel
theorem dL_law_463 : decode cL_law 463 = .ok (.iaload, 1) := by decide +kernel
theorem dL_law_464 : decode cL_law 464 = .ok (.invokevirtual 121, 3) := by decide +kernel
theorem dL_law_467 : decode cL_law 467 = .ok (.istore 6, 2) := by decide +kernel
theorem dL_law_469 : decode cL_law 469 = .ok (.aload_n 2, 1) := by decide +kernel
theorem dL_law_470 : decode cL_law 470 = .ok (.invokevirtual 105, 3) := by decide +kernel
theorem dL_law_473 : decode cL_law 473 = .ok (.iload 5, 2) := by decide +kernel
theorem dL_law_475 : decode cL_law 475 = .ok (.if_icmp .eq 5, 3) := by decide +kernel
theorem dL_law_478 : decode cL_law 478 = .ok (.iconst 0, 1) := by decide +kernel
theorem dL_law_479 : decode cL_law 479 = .ok (.ireturn, 1) := by decide +kernel
theorem dL_law_480 : decode cL_law 480 = .ok (.iload 5, 2) := by decide +kernel
theorem dL_law_482 : decode cL_law 482 = .ok (.ifCond .ne 15, 3) := by decide +kernel
theorem dL_law_485 : decode cL_law 485 = .ok (.aload_n 3, 1) := by decide +kernel
theorem dL_law_486 : decode cL_law 486 = .ok (.iconst 0, 1) := by decide +kernel
theorem dL_law_487 : decode cL_law 487 = .ok (.laload, 1) := by decide +kernel
theorem dL_law_488 : decode cL_law 488 = .ok (.iload 6, 2) := by decide +kernel
theorem dL_law_490 : decode cL_law 490 = .ok (.i2l, 1) := by decide +kernel
theorem dL_law_491 : decode cL_law 491 = .ok (.lcmp, 1) := by decide +kernel
theorem dL_law_492 : decode cL_law 492 = .ok (.ifCond .eq 5, 3) := by decide +kernel
theorem dL_law_495 : decode cL_law 495 = .ok (.iconst 0, 1) := by decide +kernel
theorem dL_law_496 : decode cL_law 496 = .ok (.ireturn, 1) := by decide +kernel
theorem dL_law_497 : decode cL_law 497 = .ok (.goto 1397, 3) := by decide +kernel
theorem dL_law_500 : decode cL_law 500 = .ok (.aload_n 1, 1) := by decide +kernel
theorem dL_law_501 : decode cL_law 501 = .ok (.aload_n 0, 1) := by decide +kernel
theorem dL_law_502 : decode cL_law 502 = .ok (.iload 4, 2) := by decide +kernel
theorem dL_law_504 : decode cL_law 504 = .ok (.iconst 1, 1) := by decide +kernel
theorem dL_law_505 : decode cL_law 505 = .ok (.iadd, 1) := by decide +kernel
theorem dL_law_506 : decode cL_law 506 = .ok (.iaload, 1) := by decide +kernel
theorem dL_law_507 : decode cL_law 507 = .ok (.aload_n 0, 1) := by decide +kernel
theorem dL_law_508 : decode cL_law 508 = .ok (.iload 4, 2) := by decide +kernel
theorem dL_law_510 : decode cL_law 510 = .ok (.iconst 2, 1) := by decide +kernel
theorem dL_law_511 : decode cL_law 511 = .ok (.iadd, 1) := by decide +kernel
theorem dL_law_512 : decode cL_law 512 = .ok (.iaload, 1) := by decide +kernel
theorem dL_law_513 : decode cL_law 513 = .ok (.aload_n 3, 1) := by decide +kernel
theorem dL_law_514 : decode cL_law 514 = .ok (.invokestatic 122, 3) := by decide +kernel
theorem dL_law_517 : decode cL_law 517 = .ok (.istore 5, 2) := by decide +kernel
theorem dL_law_519 : decode cL_law 519 = .ok (.aload_n 2, 1) := by decide +kernel
theorem dL_law_520 : decode cL_law 520 = .ok (.aload_n 0, 1) := by decide +kernel
theorem dL_law_521 : decode cL_law 521 = .ok (.iload 4, 2) := by decide +kernel
theorem dL_law_523 : decode cL_law 523 = .ok (.iconst 1, 1) := by decide +kernel
theorem dL_law_524 : decode cL_law 524 = .ok (.iadd, 1) := by decide +kernel
theorem dL_law_525 : decode cL_law 525 = .ok (.iaload, 1) := by decide +kernel
theorem dL_law_526 : decode cL_law 526 = .ok (.aload_n 0, 1) := by decide +kernel
theorem dL_law_527 : decode cL_law 527 = .ok (.iload 4, 2) := by decide +kernel
theorem dL_law_529 : decode cL_law 529 = .ok (.iconst 2, 1) := by decide +kernel
theorem dL_law_530 : decode cL_law 530 = .ok (.iadd, 1) := by decide +kernel
theorem dL_law_531 : decode cL_law 531 = .ok (.iaload, 1) := by decide +kernel
theorem dL_law_532 : decode cL_law 532 = .ok (.invokevirtual 124, 3) := by decide +kernel
theorem dL_law_535 : decode cL_law 535 = .ok (.istore 6, 2) := by decide +kernel
theorem dL_law_537 : decode cL_law 537 = .ok (.aload_n 2, 1) := by decide +kernel
theorem dL_law_538 : decode cL_law 538 = .ok (.invokevirtual 105, 3) := by decide +kernel
theorem dL_law_541 : decode cL_law 541 = .ok (.iload 5, 2) := by decide +kernel
theorem dL_law_543 : decode cL_law 543 = .ok (.if_icmp .eq 5, 3) := by decide +kernel
theorem dL_law_546 : decode cL_law 546 = .ok (.iconst 0, 1) := by decide +kernel
theorem dL_law_547 : decode cL_law 547 = .ok (.ireturn, 1) := by decide +kernel
theorem dL_law_548 : decode cL_law 548 = .ok (.iload 5, 2) := by decide +kernel
theorem dL_law_550 : decode cL_law 550 = .ok (.ifCond .ne 15, 3) := by decide +kernel
theorem dL_law_553 : decode cL_law 553 = .ok (.aload_n 3, 1) := by decide +kernel
theorem dL_law_554 : decode cL_law 554 = .ok (.iconst 0, 1) := by decide +kernel
theorem dL_law_555 : decode cL_law 555 = .ok (.laload, 1) := by decide +kernel
theorem dL_law_556 : decode cL_law 556 = .ok (.iload 6, 2) := by decide +kernel
theorem dL_law_558 : decode cL_law 558 = .ok (.i2l, 1) := by decide +kernel
theorem dL_law_559 : decode cL_law 559 = .ok (.lcmp, 1) := by decide +kernel
theorem dL_law_560 : decode cL_law 560 = .ok (.ifCond .eq 5, 3) := by decide +kernel
theorem dL_law_563 : decode cL_law 563 = .ok (.iconst 0, 1) := by decide +kernel
theorem dL_law_564 : decode cL_law 564 = .ok (.ireturn, 1) := by decide +kernel
theorem dL_law_565 : decode cL_law 565 = .ok (.goto 1329, 3) := by decide +kernel
theorem dL_law_568 : decode cL_law 568 = .ok (.aload_n 1, 1) := by decide +kernel
theorem dL_law_569 : decode cL_law 569 = .ok (.aload_n 0, 1) := by decide +kernel
theorem dL_law_570 : decode cL_law 570 = .ok (.iload 4, 2) := by decide +kernel
theorem dL_law_572 : decode cL_law 572 = .ok (.iconst 1, 1) := by decide +kernel
theorem dL_law_573 : decode cL_law 573 = .ok (.iadd, 1) := by decide +kernel
theorem dL_law_574 : decode cL_law 574 = .ok (.iaload, 1) := by decide +kernel
theorem dL_law_575 : decode cL_law 575 = .ok (.aload_n 0, 1) := by decide +kernel
theorem dL_law_576 : decode cL_law 576 = .ok (.iload 4, 2) := by decide +kernel
theorem dL_law_578 : decode cL_law 578 = .ok (.iconst 2, 1) := by decide +kernel
theorem dL_law_579 : decode cL_law 579 = .ok (.iadd, 1) := by decide +kernel
theorem dL_law_580 : decode cL_law 580 = .ok (.iaload, 1) := by decide +kernel
theorem dL_law_581 : decode cL_law 581 = .ok (.aload_n 3, 1) := by decide +kernel
theorem dL_law_582 : decode cL_law 582 = .ok (.invokestatic 125, 3) := by decide +kernel
theorem dL_law_585 : decode cL_law 585 = .ok (.istore 5, 2) := by decide +kernel
theorem dL_law_587 : decode cL_law 587 = .ok (.aload_n 2, 1) := by decide +kernel
theorem dL_law_588 : decode cL_law 588 = .ok (.aload_n 0, 1) := by decide +kernel
theorem dL_law_589 : decode cL_law 589 = .ok (.iload 4, 2) := by decide +kernel
theorem dL_law_591 : decode cL_law 591 = .ok (.iconst 1, 1) := by decide +kernel
theorem dL_law_592 : decode cL_law 592 = .ok (.iadd, 1) := by decide +kernel
theorem dL_law_593 : decode cL_law 593 = .ok (.iaload, 1) := by decide +kernel
theorem dL_law_594 : decode cL_law 594 = .ok (.aload_n 0, 1) := by decide +kernel
theorem dL_law_595 : decode cL_law 595 = .ok (.iload 4, 2) := by decide +kernel
theorem dL_law_597 : decode cL_law 597 = .ok (.iconst 2, 1) := by decide +kernel
theorem dL_law_598 : decode cL_law 598 = .ok (.iadd, 1) := by decide +kernel
theorem dL_law_599 : decode cL_law 599 = .ok (.iaload, 1) := by decide +kernel
theorem dL_law_600 : decode cL_law 600 = .ok (.invokevirtual 127, 3) := by decide +kernel
theorem dL_law_603 : decode cL_law 603 = .ok (.istore 6, 2) := by decide +kernel
theorem dL_law_605 : decode cL_law 605 = .ok (.aload_n 2, 1) := by decide +kernel
theorem dL_law_606 : decode cL_law 606 = .ok (.invokevirtual 105, 3) := by decide +kernel
theorem dL_law_609 : decode cL_law 609 = .ok (.iload 5, 2) := by decide +kernel
theorem dL_law_611 : decode cL_law 611 = .ok (.if_icmp .eq 5, 3) := by decide +kernel
theorem dL_law_614 : decode cL_law 614 = .ok (.iconst 0, 1) := by decide +kernel
theorem dL_law_615 : decode cL_law 615 = .ok (.ireturn, 1) := by decide +kernel
theorem dL_law_616 : decode cL_law 616 = .ok (.iload 5, 2) := by decide +kernel
theorem dL_law_618 : decode cL_law 618 = .ok (.ifCond .ne 15, 3) := by decide +kernel
theorem dL_law_621 : decode cL_law 621 = .ok (.aload_n 3, 1) := by decide +kernel
theorem dL_law_622 : decode cL_law 622 = .ok (.iconst 0, 1) := by decide +kernel
theorem dL_law_623 : decode cL_law 623 = .ok (.laload, 1) := by decide +kernel
theorem dL_law_624 : decode cL_law 624 = .ok (.iload 6, 2) := by decide +kernel
theorem dL_law_626 : decode cL_law 626 = .ok (.i2l, 1) := by decide +kernel
theorem dL_law_627 : decode cL_law 627 = .ok (.lcmp, 1) := by decide +kernel
theorem dL_law_628 : decode cL_law 628 = .ok (.ifCond .eq 5, 3) := by decide +kernel
theorem dL_law_631 : decode cL_law 631 = .ok (.iconst 0, 1) := by decide +kernel
theorem dL_law_632 : decode cL_law 632 = .ok (.ireturn, 1) := by decide +kernel
theorem dL_law_633 : decode cL_law 633 = .ok (.goto 1261, 3) := by decide +kernel
theorem dL_law_636 : decode cL_law 636 = .ok (.aload_n 1, 1) := by decide +kernel
theorem dL_law_637 : decode cL_law 637 = .ok (.aload_n 0, 1) := by decide +kernel
theorem dL_law_638 : decode cL_law 638 = .ok (.iload 4, 2) := by decide +kernel
theorem dL_law_640 : decode cL_law 640 = .ok (.iconst 1, 1) := by decide +kernel
theorem dL_law_641 : decode cL_law 641 = .ok (.iadd, 1) := by decide +kernel
theorem dL_law_642 : decode cL_law 642 = .ok (.iaload, 1) := by decide +kernel
theorem dL_law_643 : decode cL_law 643 = .ok (.aload_n 3, 1) := by decide +kernel
theorem dL_law_644 : decode cL_law 644 = .ok (.invokestatic 128, 3) := by decide +kernel
theorem dL_law_647 : decode cL_law 647 = .ok (.istore 5, 2) := by decide +kernel
theorem dL_law_649 : decode cL_law 649 = .ok (.aload_n 2, 1) := by decide +kernel
theorem dL_law_650 : decode cL_law 650 = .ok (.aload_n 0, 1) := by decide +kernel
theorem dL_law_651 : decode cL_law 651 = .ok (.iload 4, 2) := by decide +kernel
theorem dL_law_653 : decode cL_law 653 = .ok (.iconst 1, 1) := by decide +kernel
theorem dL_law_654 : decode cL_law 654 = .ok (.iadd, 1) := by decide +kernel
theorem dL_law_655 : decode cL_law 655 = .ok (.iaload, 1) := by decide +kernel
theorem dL_law_656 : decode cL_law 656 = .ok (.invokevirtual 130, 3) := by decide +kernel
theorem dL_law_659 : decode cL_law 659 = .ok (.istore 6, 2) := by decide +kernel
theorem dL_law_661 : decode cL_law 661 = .ok (.aload_n 2, 1) := by decide +kernel
theorem dL_law_662 : decode cL_law 662 = .ok (.invokevirtual 105, 3) := by decide +kernel
theorem dL_law_665 : decode cL_law 665 = .ok (.iload 5, 2) := by decide +kernel
theorem dL_law_667 : decode cL_law 667 = .ok (.if_icmp .eq 5, 3) := by decide +kernel
theorem dL_law_670 : decode cL_law 670 = .ok (.iconst 0, 1) := by decide +kernel
theorem dL_law_671 : decode cL_law 671 = .ok (.ireturn, 1) := by decide +kernel
theorem dL_law_672 : decode cL_law 672 = .ok (.iload 5, 2) := by decide +kernel
theorem dL_law_674 : decode cL_law 674 = .ok (.ifCond .ne 15, 3) := by decide +kernel
theorem dL_law_677 : decode cL_law 677 = .ok (.aload_n 3, 1) := by decide +kernel
theorem dL_law_678 : decode cL_law 678 = .ok (.iconst 0, 1) := by decide +kernel
theorem dL_law_679 : decode cL_law 679 = .ok (.laload, 1) := by decide +kernel
theorem dL_law_680 : decode cL_law 680 = .ok (.iload 6, 2) := by decide +kernel
theorem dL_law_682 : decode cL_law 682 = .ok (.i2l, 1) := by decide +kernel
theorem dL_law_683 : decode cL_law 683 = .ok (.lcmp, 1) := by decide +kernel
theorem dL_law_684 : decode cL_law 684 = .ok (.ifCond .eq 5, 3) := by decide +kernel
theorem dL_law_687 : decode cL_law 687 = .ok (.iconst 0, 1) := by decide +kernel
theorem dL_law_688 : decode cL_law 688 = .ok (.ireturn, 1) := by decide +kernel
theorem dL_law_689 : decode cL_law 689 = .ok (.goto 1205, 3) := by decide +kernel
theorem dL_law_692 : decode cL_law 692 = .ok (.aload_n 1, 1) := by decide +kernel
theorem dL_law_693 : decode cL_law 693 = .ok (.aload_n 0, 1) := by decide +kernel
theorem dL_law_694 : decode cL_law 694 = .ok (.iload 4, 2) := by decide +kernel
theorem dL_law_696 : decode cL_law 696 = .ok (.iconst 1, 1) := by decide +kernel
theorem dL_law_697 : decode cL_law 697 = .ok (.iadd, 1) := by decide +kernel
theorem dL_law_698 : decode cL_law 698 = .ok (.iaload, 1) := by decide +kernel
theorem dL_law_699 : decode cL_law 699 = .ok (.aload_n 0, 1) := by decide +kernel
theorem dL_law_700 : decode cL_law 700 = .ok (.iload 4, 2) := by decide +kernel
theorem dL_law_702 : decode cL_law 702 = .ok (.iconst 2, 1) := by decide +kernel
theorem dL_law_703 : decode cL_law 703 = .ok (.iadd, 1) := by decide +kernel
theorem dL_law_704 : decode cL_law 704 = .ok (.iaload, 1) := by decide +kernel
theorem dL_law_705 : decode cL_law 705 = .ok (.aload_n 3, 1) := by decide +kernel
theorem dL_law_706 : decode cL_law 706 = .ok (.invokestatic 131, 3) := by decide +kernel
theorem dL_law_709 : decode cL_law 709 = .ok (.istore 5, 2) := by decide +kernel
theorem dL_law_711 : decode cL_law 711 = .ok (.aload_n 2, 1) := by decide +kernel
theorem dL_law_712 : decode cL_law 712 = .ok (.aload_n 0, 1) := by decide +kernel
theorem dL_law_713 : decode cL_law 713 = .ok (.iload 4, 2) := by decide +kernel
theorem dL_law_715 : decode cL_law 715 = .ok (.iconst 1, 1) := by decide +kernel
theorem dL_law_716 : decode cL_law 716 = .ok (.iadd, 1) := by decide +kernel
theorem dL_law_717 : decode cL_law 717 = .ok (.iaload, 1) := by decide +kernel
theorem dL_law_718 : decode cL_law 718 = .ok (.aload_n 0, 1) := by decide +kernel
theorem dL_law_719 : decode cL_law 719 = .ok (.iload 4, 2) := by decide +kernel
theorem dL_law_721 : decode cL_law 721 = .ok (.iconst 2, 1) := by decide +kernel
theorem dL_law_722 : decode cL_law 722 = .ok (.iadd, 1) := by decide +kernel
theorem dL_law_723 : decode cL_law 723 = .ok (.iaload, 1) := by decide +kernel
theorem dL_law_724 : decode cL_law 724 = .ok (.invokevirtual 133, 3) := by decide +kernel
theorem dL_law_727 : decode cL_law 727 = .ok (.istore 6, 2) := by decide +kernel
theorem dL_law_729 : decode cL_law 729 = .ok (.aload_n 2, 1) := by decide +kernel
theorem dL_law_730 : decode cL_law 730 = .ok (.invokevirtual 105, 3) := by decide +kernel
theorem dL_law_733 : decode cL_law 733 = .ok (.iload 5, 2) := by decide +kernel
theorem dL_law_735 : decode cL_law 735 = .ok (.if_icmp .eq 5, 3) := by decide +kernel
theorem dL_law_738 : decode cL_law 738 = .ok (.iconst 0, 1) := by decide +kernel
theorem dL_law_739 : decode cL_law 739 = .ok (.ireturn, 1) := by decide +kernel
theorem dL_law_740 : decode cL_law 740 = .ok (.iload 5, 2) := by decide +kernel
theorem dL_law_742 : decode cL_law 742 = .ok (.ifCond .ne 15, 3) := by decide +kernel
theorem dL_law_745 : decode cL_law 745 = .ok (.aload_n 3, 1) := by decide +kernel
theorem dL_law_746 : decode cL_law 746 = .ok (.iconst 0, 1) := by decide +kernel
theorem dL_law_747 : decode cL_law 747 = .ok (.laload, 1) := by decide +kernel
theorem dL_law_748 : decode cL_law 748 = .ok (.iload 6, 2) := by decide +kernel
theorem dL_law_750 : decode cL_law 750 = .ok (.i2l, 1) := by decide +kernel
theorem dL_law_751 : decode cL_law 751 = .ok (.lcmp, 1) := by decide +kernel
theorem dL_law_752 : decode cL_law 752 = .ok (.ifCond .eq 5, 3) := by decide +kernel
theorem dL_law_755 : decode cL_law 755 = .ok (.iconst 0, 1) := by decide +kernel
theorem dL_law_756 : decode cL_law 756 = .ok (.ireturn, 1) := by decide +kernel
theorem dL_law_757 : decode cL_law 757 = .ok (.goto 1137, 3) := by decide +kernel
theorem dL_law_760 : decode cL_law 760 = .ok (.aload_n 1, 1) := by decide +kernel
theorem dL_law_761 : decode cL_law 761 = .ok (.aload_n 0, 1) := by decide +kernel
theorem dL_law_762 : decode cL_law 762 = .ok (.iload 4, 2) := by decide +kernel
theorem dL_law_764 : decode cL_law 764 = .ok (.iconst 1, 1) := by decide +kernel
theorem dL_law_765 : decode cL_law 765 = .ok (.iadd, 1) := by decide +kernel
theorem dL_law_766 : decode cL_law 766 = .ok (.iaload, 1) := by decide +kernel
theorem dL_law_767 : decode cL_law 767 = .ok (.aload_n 3, 1) := by decide +kernel
theorem dL_law_768 : decode cL_law 768 = .ok (.invokestatic 134, 3) := by decide +kernel
theorem dL_law_771 : decode cL_law 771 = .ok (.istore 5, 2) := by decide +kernel
theorem dL_law_773 : decode cL_law 773 = .ok (.aload_n 2, 1) := by decide +kernel
theorem dL_law_774 : decode cL_law 774 = .ok (.aload_n 0, 1) := by decide +kernel
theorem dL_law_775 : decode cL_law 775 = .ok (.iload 4, 2) := by decide +kernel
theorem dL_law_777 : decode cL_law 777 = .ok (.iconst 1, 1) := by decide +kernel
theorem dL_law_778 : decode cL_law 778 = .ok (.iadd, 1) := by decide +kernel
theorem dL_law_779 : decode cL_law 779 = .ok (.iaload, 1) := by decide +kernel
theorem dL_law_780 : decode cL_law 780 = .ok (.invokevirtual 136, 3) := by decide +kernel
theorem dL_law_783 : decode cL_law 783 = .ok (.istore 6, 2) := by decide +kernel
theorem dL_law_785 : decode cL_law 785 = .ok (.aload_n 2, 1) := by decide +kernel
theorem dL_law_786 : decode cL_law 786 = .ok (.invokevirtual 105, 3) := by decide +kernel
theorem dL_law_789 : decode cL_law 789 = .ok (.iload 5, 2) := by decide +kernel
theorem dL_law_791 : decode cL_law 791 = .ok (.if_icmp .eq 5, 3) := by decide +kernel
theorem dL_law_794 : decode cL_law 794 = .ok (.iconst 0, 1) := by decide +kernel
theorem dL_law_795 : decode cL_law 795 = .ok (.ireturn, 1) := by decide +kernel
theorem dL_law_796 : decode cL_law 796 = .ok (.iload 5, 2) := by decide +kernel
theorem dL_law_798 : decode cL_law 798 = .ok (.ifCond .ne 15, 3) := by decide +kernel
theorem dL_law_801 : decode cL_law 801 = .ok (.aload_n 3, 1) := by decide +kernel
theorem dL_law_802 : decode cL_law 802 = .ok (.iconst 0, 1) := by decide +kernel
theorem dL_law_803 : decode cL_law 803 = .ok (.laload, 1) := by decide +kernel
theorem dL_law_804 : decode cL_law 804 = .ok (.iload 6, 2) := by decide +kernel
theorem dL_law_806 : decode cL_law 806 = .ok (.i2l, 1) := by decide +kernel
theorem dL_law_807 : decode cL_law 807 = .ok (.lcmp, 1) := by decide +kernel
theorem dL_law_808 : decode cL_law 808 = .ok (.ifCond .eq 5, 3) := by decide +kernel
theorem dL_law_811 : decode cL_law 811 = .ok (.iconst 0, 1) := by decide +kernel
theorem dL_law_812 : decode cL_law 812 = .ok (.ireturn, 1) := by decide +kernel
theorem dL_law_813 : decode cL_law 813 = .ok (.goto 1081, 3) := by decide +kernel
theorem dL_law_816 : decode cL_law 816 = .ok (.aload_n 1, 1) := by decide +kernel
theorem dL_law_817 : decode cL_law 817 = .ok (.invokevirtual 137, 3) := by decide +kernel
theorem dL_law_820 : decode cL_law 820 = .ok (.aload_n 2, 1) := by decide +kernel
theorem dL_law_821 : decode cL_law 821 = .ok (.invokevirtual 140, 3) := by decide +kernel
theorem dL_law_824 : decode cL_law 824 = .ok (.if_icmp .eq 1070, 3) := by decide +kernel
theorem dL_law_827 : decode cL_law 827 = .ok (.iconst 0, 1) := by decide +kernel
theorem dL_law_828 : decode cL_law 828 = .ok (.ireturn, 1) := by decide +kernel
theorem dL_law_829 : decode cL_law 829 = .ok (.aload_n 1, 1) := by decide +kernel
theorem dL_law_830 : decode cL_law 830 = .ok (.invokevirtual 141, 3) := by decide +kernel
theorem dL_law_833 : decode cL_law 833 = .ok (.aload_n 2, 1) := by decide +kernel
theorem dL_law_834 : decode cL_law 834 = .ok (.invokevirtual 144, 3) := by decide +kernel
theorem dL_law_837 : decode cL_law 837 = .ok (.if_icmp .eq 1057, 3) := by decide +kernel
theorem dL_law_840 : decode cL_law 840 = .ok (.iconst 0, 1) := by decide +kernel
theorem dL_law_841 : decode cL_law 841 = .ok (.ireturn, 1) := by decide +kernel
theorem dL_law_842 : decode cL_law 842 = .ok (.aload_n 1, 1) := by decide +kernel
theorem dL_law_843 : decode cL_law 843 = .ok (.aload_n 3, 1) := by decide +kernel
theorem dL_law_844 : decode cL_law 844 = .ok (.invokestatic 145, 3) := by decide +kernel
theorem dL_law_847 : decode cL_law 847 = .ok (.istore 5, 2) := by decide +kernel
theorem dL_law_849 : decode cL_law 849 = .ok (.aload_n 2, 1) := by decide +kernel
theorem dL_law_850 : decode cL_law 850 = .ok (.invokevirtual 148, 3) := by decide +kernel
theorem dL_law_853 : decode cL_law 853 = .ok (.istore 6, 2) := by decide +kernel
theorem dL_law_855 : decode cL_law 855 = .ok (.aload_n 2, 1) := by decide +kernel
theorem dL_law_856 : decode cL_law 856 = .ok (.invokevirtual 105, 3) := by decide +kernel
theorem dL_law_859 : decode cL_law 859 = .ok (.iload 5, 2) := by decide +kernel
theorem dL_law_861 : decode cL_law 861 = .ok (.if_icmp .eq 5, 3) := by decide +kernel
theorem dL_law_864 : decode cL_law 864 = .ok (.iconst 0, 1) := by decide +kernel
theorem dL_law_865 : decode cL_law 865 = .ok (.ireturn, 1) := by decide +kernel
theorem dL_law_866 : decode cL_law 866 = .ok (.iload 5, 2) := by decide +kernel
theorem dL_law_868 : decode cL_law 868 = .ok (.ifCond .ne 15, 3) := by decide +kernel
theorem dL_law_871 : decode cL_law 871 = .ok (.aload_n 3, 1) := by decide +kernel
theorem dL_law_872 : decode cL_law 872 = .ok (.iconst 0, 1) := by decide +kernel
theorem dL_law_873 : decode cL_law 873 = .ok (.laload, 1) := by decide +kernel
theorem dL_law_874 : decode cL_law 874 = .ok (.iload 6, 2) := by decide +kernel
theorem dL_law_876 : decode cL_law 876 = .ok (.i2l, 1) := by decide +kernel
theorem dL_law_877 : decode cL_law 877 = .ok (.lcmp, 1) := by decide +kernel
theorem dL_law_878 : decode cL_law 878 = .ok (.ifCond .eq 5, 3) := by decide +kernel
theorem dL_law_881 : decode cL_law 881 = .ok (.iconst 0, 1) := by decide +kernel
theorem dL_law_882 : decode cL_law 882 = .ok (.ireturn, 1) := by decide +kernel
theorem dL_law_883 : decode cL_law 883 = .ok (.goto 1011, 3) := by decide +kernel
theorem dL_law_886 : decode cL_law 886 = .ok (.aload_n 1, 1) := by decide +kernel
theorem dL_law_887 : decode cL_law 887 = .ok (.aload_n 3, 1) := by decide +kernel
theorem dL_law_888 : decode cL_law 888 = .ok (.invokestatic 149, 3) := by decide +kernel
theorem dL_law_891 : decode cL_law 891 = .ok (.istore 5, 2) := by decide +kernel
theorem dL_law_893 : decode cL_law 893 = .ok (.aload_n 2, 1) := by decide +kernel
theorem dL_law_894 : decode cL_law 894 = .ok (.invokevirtual 151, 3) := by decide +kernel
theorem dL_law_897 : decode cL_law 897 = .ok (.istore 6, 2) := by decide +kernel
theorem dL_law_899 : decode cL_law 899 = .ok (.aload_n 2, 1) := by decide +kernel
theorem dL_law_900 : decode cL_law 900 = .ok (.invokevirtual 105, 3) := by decide +kernel
theorem dL_law_903 : decode cL_law 903 = .ok (.iload 5, 2) := by decide +kernel
theorem dL_law_905 : decode cL_law 905 = .ok (.if_icmp .eq 5, 3) := by decide +kernel
theorem dL_law_908 : decode cL_law 908 = .ok (.iconst 0, 1) := by decide +kernel
theorem dL_law_909 : decode cL_law 909 = .ok (.ireturn, 1) := by decide +kernel
theorem dL_law_910 : decode cL_law 910 = .ok (.iload 5, 2) := by decide +kernel
theorem dL_law_912 : decode cL_law 912 = .ok (.ifCond .ne 15, 3) := by decide +kernel
theorem dL_law_915 : decode cL_law 915 = .ok (.aload_n 3, 1) := by decide +kernel
theorem dL_law_916 : decode cL_law 916 = .ok (.iconst 0, 1) := by decide +kernel
theorem dL_law_917 : decode cL_law 917 = .ok (.laload, 1) := by decide +kernel
theorem dL_law_918 : decode cL_law 918 = .ok (.iload 6, 2) := by decide +kernel
theorem dL_law_920 : decode cL_law 920 = .ok (.i2l, 1) := by decide +kernel
theorem dL_law_921 : decode cL_law 921 = .ok (.lcmp, 1) := by decide +kernel
theorem dL_law_922 : decode cL_law 922 = .ok (.ifCond .eq 5, 3) := by decide +kernel
theorem dL_law_925 : decode cL_law 925 = .ok (.iconst 0, 1) := by decide +kernel
theorem dL_law_926 : decode cL_law 926 = .ok (.ireturn, 1) := by decide +kernel
theorem dL_law_927 : decode cL_law 927 = .ok (.goto 967, 3) := by decide +kernel
theorem dL_law_930 : decode cL_law 930 = .ok (.aload_n 1, 1) := by decide +kernel
theorem dL_law_931 : decode cL_law 931 = .ok (.invokevirtual 152, 3) := by decide +kernel
theorem dL_law_934 : decode cL_law 934 = .ok (.aload_n 2, 1) := by decide +kernel
theorem dL_law_935 : decode cL_law 935 = .ok (.invokevirtual 155, 3) := by decide +kernel
theorem dL_law_938 : decode cL_law 938 = .ok (.if_icmp .eq 956, 3) := by decide +kernel
theorem dL_law_941 : decode cL_law 941 = .ok (.iconst 0, 1) := by decide +kernel
theorem dL_law_942 : decode cL_law 942 = .ok (.ireturn, 1) := by decide +kernel
theorem dL_law_943 : decode cL_law 943 = .ok (.aload_n 1, 1) := by decide +kernel
theorem dL_law_944 : decode cL_law 944 = .ok (.aload_n 3, 1) := by decide +kernel
theorem dL_law_945 : decode cL_law 945 = .ok (.invokestatic 156, 3) := by decide +kernel
theorem dL_law_948 : decode cL_law 948 = .ok (.istore 5, 2) := by decide +kernel
theorem dL_law_950 : decode cL_law 950 = .ok (.aload_n 2, 1) := by decide +kernel
theorem dL_law_951 : decode cL_law 951 = .ok (.invokevirtual 158, 3) := by decide +kernel
theorem dL_law_954 : decode cL_law 954 = .ok (.istore 6, 2) := by decide +kernel
theorem dL_law_956 : decode cL_law 956 = .ok (.aload_n 2, 1) := by decide +kernel
theorem dL_law_957 : decode cL_law 957 = .ok (.invokevirtual 105, 3) := by decide +kernel
theorem dL_law_960 : decode cL_law 960 = .ok (.iload 5, 2) := by decide +kernel
theorem dL_law_962 : decode cL_law 962 = .ok (.if_icmp .eq 5, 3) := by decide +kernel
theorem dL_law_965 : decode cL_law 965 = .ok (.iconst 0, 1) := by decide +kernel
theorem dL_law_966 : decode cL_law 966 = .ok (.ireturn, 1) := by decide +kernel
theorem dL_law_967 : decode cL_law 967 = .ok (.iload 5, 2) := by decide +kernel
theorem dL_law_969 : decode cL_law 969 = .ok (.ifCond .ne 15, 3) := by decide +kernel
theorem dL_law_972 : decode cL_law 972 = .ok (.aload_n 3, 1) := by decide +kernel
theorem dL_law_973 : decode cL_law 973 = .ok (.iconst 0, 1) := by decide +kernel
theorem dL_law_974 : decode cL_law 974 = .ok (.laload, 1) := by decide +kernel
theorem dL_law_975 : decode cL_law 975 = .ok (.iload 6, 2) := by decide +kernel
theorem dL_law_977 : decode cL_law 977 = .ok (.i2l, 1) := by decide +kernel
theorem dL_law_978 : decode cL_law 978 = .ok (.lcmp, 1) := by decide +kernel
theorem dL_law_979 : decode cL_law 979 = .ok (.ifCond .eq 5, 3) := by decide +kernel
theorem dL_law_982 : decode cL_law 982 = .ok (.iconst 0, 1) := by decide +kernel
theorem dL_law_983 : decode cL_law 983 = .ok (.ireturn, 1) := by decide +kernel
theorem dL_law_984 : decode cL_law 984 = .ok (.goto 910, 3) := by decide +kernel
theorem dL_law_987 : decode cL_law 987 = .ok (.aload_n 1, 1) := by decide +kernel
theorem dL_law_988 : decode cL_law 988 = .ok (.aload_n 0, 1) := by decide +kernel
theorem dL_law_989 : decode cL_law 989 = .ok (.iload 4, 2) := by decide +kernel
theorem dL_law_991 : decode cL_law 991 = .ok (.iconst 1, 1) := by decide +kernel
theorem dL_law_992 : decode cL_law 992 = .ok (.iadd, 1) := by decide +kernel
theorem dL_law_993 : decode cL_law 993 = .ok (.iaload, 1) := by decide +kernel
theorem dL_law_994 : decode cL_law 994 = .ok (.aload_n 0, 1) := by decide +kernel
theorem dL_law_995 : decode cL_law 995 = .ok (.iload 4, 2) := by decide +kernel
theorem dL_law_997 : decode cL_law 997 = .ok (.iconst 2, 1) := by decide +kernel
theorem dL_law_998 : decode cL_law 998 = .ok (.iadd, 1) := by decide +kernel
theorem dL_law_999 : decode cL_law 999 = .ok (.iaload, 1) := by decide +kernel
theorem dL_law_1000 : decode cL_law 1000 = .ok (.aload_n 3, 1) := by decide +kernel
theorem dL_law_1001 : decode cL_law 1001 = .ok (.invokestatic 159, 3) := by decide +kernel
theorem dL_law_1004 : decode cL_law 1004 = .ok (.istore 5, 2) := by decide +kernel
theorem dL_law_1006 : decode cL_law 1006 = .ok (.aload_n 2, 1) := by decide +kernel
theorem dL_law_1007 : decode cL_law 1007 = .ok (.aload_n 0, 1) := by decide +kernel
theorem dL_law_1008 : decode cL_law 1008 = .ok (.iload 4, 2) := by decide +kernel
theorem dL_law_1010 : decode cL_law 1010 = .ok (.iconst 1, 1) := by decide +kernel
theorem dL_law_1011 : decode cL_law 1011 = .ok (.iadd, 1) := by decide +kernel
theorem dL_law_1012 : decode cL_law 1012 = .ok (.iaload, 1) := by decide +kernel
theorem dL_law_1013 : decode cL_law 1013 = .ok (.aload_n 0, 1) := by decide +kernel
theorem dL_law_1014 : decode cL_law 1014 = .ok (.iload 4, 2) := by decide +kernel
theorem dL_law_1016 : decode cL_law 1016 = .ok (.iconst 2, 1) := by decide +kernel
theorem dL_law_1017 : decode cL_law 1017 = .ok (.iadd, 1) := by decide +kernel
theorem dL_law_1018 : decode cL_law 1018 = .ok (.iaload, 1) := by decide +kernel
theorem dL_law_1019 : decode cL_law 1019 = .ok (.invokevirtual 161, 3) := by decide +kernel
theorem dL_law_1022 : decode cL_law 1022 = .ok (.istore 6, 2) := by decide +kernel
theorem dL_law_1024 : decode cL_law 1024 = .ok (.aload_n 2, 1) := by decide +kernel
theorem dL_law_1025 : decode cL_law 1025 = .ok (.invokevirtual 105, 3) := by decide +kernel
theorem dL_law_1028 : decode cL_law 1028 = .ok (.iload 5, 2) := by decide +kernel
theorem dL_law_1030 : decode cL_law 1030 = .ok (.if_icmp .eq 5, 3) := by decide +kernel
theorem dL_law_1033 : decode cL_law 1033 = .ok (.iconst 0, 1) := by decide +kernel
theorem dL_law_1034 : decode cL_law 1034 = .ok (.ireturn, 1) := by decide +kernel
theorem dL_law_1035 : decode cL_law 1035 = .ok (.iload 5, 2) := by decide +kernel
theorem dL_law_1037 : decode cL_law 1037 = .ok (.ifCond .ne 15, 3) := by decide +kernel
theorem dL_law_1040 : decode cL_law 1040 = .ok (.aload_n 3, 1) := by decide +kernel
theorem dL_law_1041 : decode cL_law 1041 = .ok (.iconst 0, 1) := by decide +kernel
theorem dL_law_1042 : decode cL_law 1042 = .ok (.laload, 1) := by decide +kernel
theorem dL_law_1043 : decode cL_law 1043 = .ok (.iload 6, 2) := by decide +kernel
theorem dL_law_1045 : decode cL_law 1045 = .ok (.i2l, 1) := by decide +kernel
theorem dL_law_1046 : decode cL_law 1046 = .ok (.lcmp, 1) := by decide +kernel
theorem dL_law_1047 : decode cL_law 1047 = .ok (.ifCond .eq 5, 3) := by decide +kernel
theorem dL_law_1050 : decode cL_law 1050 = .ok (.iconst 0, 1) := by decide +kernel
theorem dL_law_1051 : decode cL_law 1051 = .ok (.ireturn, 1) := by decide +kernel
theorem dL_law_1052 : decode cL_law 1052 = .ok (.goto 842, 3) := by decide +kernel
theorem dL_law_1055 : decode cL_law 1055 = .ok (.aload_n 1, 1) := by decide +kernel
theorem dL_law_1056 : decode cL_law 1056 = .ok (.aload_n 0, 1) := by decide +kernel
theorem dL_law_1057 : decode cL_law 1057 = .ok (.iload 4, 2) := by decide +kernel
theorem dL_law_1059 : decode cL_law 1059 = .ok (.iconst 1, 1) := by decide +kernel
theorem dL_law_1060 : decode cL_law 1060 = .ok (.iadd, 1) := by decide +kernel
theorem dL_law_1061 : decode cL_law 1061 = .ok (.iaload, 1) := by decide +kernel
theorem dL_law_1062 : decode cL_law 1062 = .ok (.aload_n 0, 1) := by decide +kernel
theorem dL_law_1063 : decode cL_law 1063 = .ok (.iload 4, 2) := by decide +kernel
theorem dL_law_1065 : decode cL_law 1065 = .ok (.iconst 2, 1) := by decide +kernel
theorem dL_law_1066 : decode cL_law 1066 = .ok (.iadd, 1) := by decide +kernel
theorem dL_law_1067 : decode cL_law 1067 = .ok (.iaload, 1) := by decide +kernel
theorem dL_law_1068 : decode cL_law 1068 = .ok (.aload_n 3, 1) := by decide +kernel
theorem dL_law_1069 : decode cL_law 1069 = .ok (.invokestatic 162, 3) := by decide +kernel
theorem dL_law_1072 : decode cL_law 1072 = .ok (.istore 5, 2) := by decide +kernel
theorem dL_law_1074 : decode cL_law 1074 = .ok (.aload_n 2, 1) := by decide +kernel
theorem dL_law_1075 : decode cL_law 1075 = .ok (.aload_n 0, 1) := by decide +kernel
theorem dL_law_1076 : decode cL_law 1076 = .ok (.iload 4, 2) := by decide +kernel
theorem dL_law_1078 : decode cL_law 1078 = .ok (.iconst 1, 1) := by decide +kernel
theorem dL_law_1079 : decode cL_law 1079 = .ok (.iadd, 1) := by decide +kernel
theorem dL_law_1080 : decode cL_law 1080 = .ok (.iaload, 1) := by decide +kernel
theorem dL_law_1081 : decode cL_law 1081 = .ok (.aload_n 0, 1) := by decide +kernel
theorem dL_law_1082 : decode cL_law 1082 = .ok (.iload 4, 2) := by decide +kernel
theorem dL_law_1084 : decode cL_law 1084 = .ok (.iconst 2, 1) := by decide +kernel
theorem dL_law_1085 : decode cL_law 1085 = .ok (.iadd, 1) := by decide +kernel
theorem dL_law_1086 : decode cL_law 1086 = .ok (.iaload, 1) := by decide +kernel
theorem dL_law_1087 : decode cL_law 1087 = .ok (.invokevirtual 164, 3) := by decide +kernel
theorem dL_law_1090 : decode cL_law 1090 = .ok (.istore 6, 2) := by decide +kernel
theorem dL_law_1092 : decode cL_law 1092 = .ok (.aload_n 2, 1) := by decide +kernel
theorem dL_law_1093 : decode cL_law 1093 = .ok (.invokevirtual 105, 3) := by decide +kernel
theorem dL_law_1096 : decode cL_law 1096 = .ok (.iload 5, 2) := by decide +kernel
theorem dL_law_1098 : decode cL_law 1098 = .ok (.if_icmp .eq 5, 3) := by decide +kernel
theorem dL_law_1101 : decode cL_law 1101 = .ok (.iconst 0, 1) := by decide +kernel
theorem dL_law_1102 : decode cL_law 1102 = .ok (.ireturn, 1) := by decide +kernel
theorem dL_law_1103 : decode cL_law 1103 = .ok (.iload 5, 2) := by decide +kernel
theorem dL_law_1105 : decode cL_law 1105 = .ok (.ifCond .ne 15, 3) := by decide +kernel
theorem dL_law_1108 : decode cL_law 1108 = .ok (.aload_n 3, 1) := by decide +kernel
theorem dL_law_1109 : decode cL_law 1109 = .ok (.iconst 0, 1) := by decide +kernel
theorem dL_law_1110 : decode cL_law 1110 = .ok (.laload, 1) := by decide +kernel
theorem dL_law_1111 : decode cL_law 1111 = .ok (.iload 6, 2) := by decide +kernel
theorem dL_law_1113 : decode cL_law 1113 = .ok (.i2l, 1) := by decide +kernel
theorem dL_law_1114 : decode cL_law 1114 = .ok (.lcmp, 1) := by decide +kernel
theorem dL_law_1115 : decode cL_law 1115 = .ok (.ifCond .eq 5, 3) := by decide +kernel
theorem dL_law_1118 : decode cL_law 1118 = .ok (.iconst 0, 1) := by decide +kernel
theorem dL_law_1119 : decode cL_law 1119 = .ok (.ireturn, 1) := by decide +kernel
theorem dL_law_1120 : decode cL_law 1120 = .ok (.goto 774, 3) := by decide +kernel
theorem dL_law_1123 : decode cL_law 1123 = .ok (.aload_n 1, 1) := by decide +kernel
theorem dL_law_1124 : decode cL_law 1124 = .ok (.aload_n 0, 1) := by decide +kernel
theorem dL_law_1125 : decode cL_law 1125 = .ok (.iload 4, 2) := by decide +kernel
theorem dL_law_1127 : decode cL_law 1127 = .ok (.iconst 1, 1) := by decide +kernel
theorem dL_law_1128 : decode cL_law 1128 = .ok (.iadd, 1) := by decide +kernel
theorem dL_law_1129 : decode cL_law 1129 = .ok (.iaload, 1) := by decide +kernel
theorem dL_law_1130 : decode cL_law 1130 = .ok (.aload_n 0, 1) := by decide +kernel
theorem dL_law_1131 : decode cL_law 1131 = .ok (.iload 4, 2) := by decide +kernel
theorem dL_law_1133 : decode cL_law 1133 = .ok (.iconst 2, 1) := by decide +kernel
theorem dL_law_1134 : decode cL_law 1134 = .ok (.iadd, 1) := by decide +kernel
theorem dL_law_1135 : decode cL_law 1135 = .ok (.iaload, 1) := by decide +kernel
theorem dL_law_1136 : decode cL_law 1136 = .ok (.aload_n 0, 1) := by decide +kernel
theorem dL_law_1137 : decode cL_law 1137 = .ok (.iload 4, 2) := by decide +kernel
theorem dL_law_1139 : decode cL_law 1139 = .ok (.iconst 3, 1) := by decide +kernel
theorem dL_law_1140 : decode cL_law 1140 = .ok (.iadd, 1) := by decide +kernel
theorem dL_law_1141 : decode cL_law 1141 = .ok (.iaload, 1) := by decide +kernel
theorem dL_law_1142 : decode cL_law 1142 = .ok (.aload_n 3, 1) := by decide +kernel
theorem dL_law_1143 : decode cL_law 1143 = .ok (.invokestatic 165, 3) := by decide +kernel
theorem dL_law_1146 : decode cL_law 1146 = .ok (.istore 5, 2) := by decide +kernel
theorem dL_law_1148 : decode cL_law 1148 = .ok (.aload_n 2, 1) := by decide +kernel
theorem dL_law_1149 : decode cL_law 1149 = .ok (.aload_n 0, 1) := by decide +kernel
theorem dL_law_1150 : decode cL_law 1150 = .ok (.iload 4, 2) := by decide +kernel
theorem dL_law_1152 : decode cL_law 1152 = .ok (.iconst 1, 1) := by decide +kernel
theorem dL_law_1153 : decode cL_law 1153 = .ok (.iadd, 1) := by decide +kernel
theorem dL_law_1154 : decode cL_law 1154 = .ok (.iaload, 1) := by decide +kernel
theorem dL_law_1155 : decode cL_law 1155 = .ok (.aload_n 0, 1) := by decide +kernel
theorem dL_law_1156 : decode cL_law 1156 = .ok (.iload 4, 2) := by decide +kernel
theorem dL_law_1158 : decode cL_law 1158 = .ok (.iconst 2, 1) := by decide +kernel
theorem dL_law_1159 : decode cL_law 1159 = .ok (.iadd, 1) := by decide +kernel
theorem dL_law_1160 : decode cL_law 1160 = .ok (.iaload, 1) := by decide +kernel
theorem dL_law_1161 : decode cL_law 1161 = .ok (.aload_n 0, 1) := by decide +kernel
theorem dL_law_1162 : decode cL_law 1162 = .ok (.iload 4, 2) := by decide +kernel
theorem dL_law_1164 : decode cL_law 1164 = .ok (.iconst 3, 1) := by decide +kernel
theorem dL_law_1165 : decode cL_law 1165 = .ok (.iadd, 1) := by decide +kernel
theorem dL_law_1166 : decode cL_law 1166 = .ok (.iaload, 1) := by decide +kernel
theorem dL_law_1167 : decode cL_law 1167 = .ok (.invokevirtual 167, 3) := by decide +kernel
theorem dL_law_1170 : decode cL_law 1170 = .ok (.istore 6, 2) := by decide +kernel
theorem dL_law_1172 : decode cL_law 1172 = .ok (.aload_n 2, 1) := by decide +kernel
theorem dL_law_1173 : decode cL_law 1173 = .ok (.invokevirtual 105, 3) := by decide +kernel
theorem dL_law_1176 : decode cL_law 1176 = .ok (.iload 5, 2) := by decide +kernel
theorem dL_law_1178 : decode cL_law 1178 = .ok (.if_icmp .eq 5, 3) := by decide +kernel
theorem dL_law_1181 : decode cL_law 1181 = .ok (.iconst 0, 1) := by decide +kernel
theorem dL_law_1182 : decode cL_law 1182 = .ok (.ireturn, 1) := by decide +kernel
theorem dL_law_1183 : decode cL_law 1183 = .ok (.iload 5, 2) := by decide +kernel
theorem dL_law_1185 : decode cL_law 1185 = .ok (.ifCond .ne 15, 3) := by decide +kernel
theorem dL_law_1188 : decode cL_law 1188 = .ok (.aload_n 3, 1) := by decide +kernel
theorem dL_law_1189 : decode cL_law 1189 = .ok (.iconst 0, 1) := by decide +kernel
theorem dL_law_1190 : decode cL_law 1190 = .ok (.laload, 1) := by decide +kernel
theorem dL_law_1191 : decode cL_law 1191 = .ok (.iload 6, 2) := by decide +kernel
theorem dL_law_1193 : decode cL_law 1193 = .ok (.i2l, 1) := by decide +kernel
theorem dL_law_1194 : decode cL_law 1194 = .ok (.lcmp, 1) := by decide +kernel
theorem dL_law_1195 : decode cL_law 1195 = .ok (.ifCond .eq 5, 3) := by decide +kernel
theorem dL_law_1198 : decode cL_law 1198 = .ok (.iconst 0, 1) := by decide +kernel
theorem dL_law_1199 : decode cL_law 1199 = .ok (.ireturn, 1) := by decide +kernel
theorem dL_law_1200 : decode cL_law 1200 = .ok (.goto 694, 3) := by decide +kernel
theorem dL_law_1203 : decode cL_law 1203 = .ok (.aload_n 1, 1) := by decide +kernel
theorem dL_law_1204 : decode cL_law 1204 = .ok (.aload_n 0, 1) := by decide +kernel
theorem dL_law_1205 : decode cL_law 1205 = .ok (.iload 4, 2) := by decide +kernel
theorem dL_law_1207 : decode cL_law 1207 = .ok (.iconst 1, 1) := by decide +kernel
theorem dL_law_1208 : decode cL_law 1208 = .ok (.iadd, 1) := by decide +kernel
theorem dL_law_1209 : decode cL_law 1209 = .ok (.iaload, 1) := by decide +kernel
theorem dL_law_1210 : decode cL_law 1210 = .ok (.aload_n 3, 1) := by decide +kernel
theorem dL_law_1211 : decode cL_law 1211 = .ok (.invokestatic 168, 3) := by decide +kernel
theorem dL_law_1214 : decode cL_law 1214 = .ok (.istore 5, 2) := by decide +kernel
theorem dL_law_1216 : decode cL_law 1216 = .ok (.aload_n 2, 1) := by decide +kernel
theorem dL_law_1217 : decode cL_law 1217 = .ok (.aload_n 0, 1) := by decide +kernel
theorem dL_law_1218 : decode cL_law 1218 = .ok (.iload 4, 2) := by decide +kernel
theorem dL_law_1220 : decode cL_law 1220 = .ok (.iconst 1, 1) := by decide +kernel
theorem dL_law_1221 : decode cL_law 1221 = .ok (.iadd, 1) := by decide +kernel
theorem dL_law_1222 : decode cL_law 1222 = .ok (.iaload, 1) := by decide +kernel
theorem dL_law_1223 : decode cL_law 1223 = .ok (.invokevirtual 170, 3) := by decide +kernel
theorem dL_law_1226 : decode cL_law 1226 = .ok (.istore 6, 2) := by decide +kernel
theorem dL_law_1228 : decode cL_law 1228 = .ok (.aload_n 2, 1) := by decide +kernel
theorem dL_law_1229 : decode cL_law 1229 = .ok (.invokevirtual 105, 3) := by decide +kernel
theorem dL_law_1232 : decode cL_law 1232 = .ok (.iload 5, 2) := by decide +kernel
theorem dL_law_1234 : decode cL_law 1234 = .ok (.if_icmp .eq 5, 3) := by decide +kernel
theorem dL_law_1237 : decode cL_law 1237 = .ok (.iconst 0, 1) := by decide +kernel
theorem dL_law_1238 : decode cL_law 1238 = .ok (.ireturn, 1) := by decide +kernel
theorem dL_law_1239 : decode cL_law 1239 = .ok (.iload 5, 2) := by decide +kernel
theorem dL_law_1241 : decode cL_law 1241 = .ok (.ifCond .ne 15, 3) := by decide +kernel
theorem dL_law_1244 : decode cL_law 1244 = .ok (.aload_n 3, 1) := by decide +kernel
theorem dL_law_1245 : decode cL_law 1245 = .ok (.iconst 0, 1) := by decide +kernel
theorem dL_law_1246 : decode cL_law 1246 = .ok (.laload, 1) := by decide +kernel
theorem dL_law_1247 : decode cL_law 1247 = .ok (.iload 6, 2) := by decide +kernel
theorem dL_law_1249 : decode cL_law 1249 = .ok (.i2l, 1) := by decide +kernel
theorem dL_law_1250 : decode cL_law 1250 = .ok (.lcmp, 1) := by decide +kernel
theorem dL_law_1251 : decode cL_law 1251 = .ok (.ifCond .eq 5, 3) := by decide +kernel
theorem dL_law_1254 : decode cL_law 1254 = .ok (.iconst 0, 1) := by decide +kernel
theorem dL_law_1255 : decode cL_law 1255 = .ok (.ireturn, 1) := by decide +kernel
theorem dL_law_1256 : decode cL_law 1256 = .ok (.goto 638, 3) := by decide +kernel
theorem dL_law_1259 : decode cL_law 1259 = .ok (.aload_n 1, 1) := by decide +kernel
theorem dL_law_1260 : decode cL_law 1260 = .ok (.aload_n 0, 1) := by decide +kernel
theorem dL_law_1261 : decode cL_law 1261 = .ok (.iload 4, 2) := by decide +kernel
theorem dL_law_1263 : decode cL_law 1263 = .ok (.iconst 1, 1) := by decide +kernel
theorem dL_law_1264 : decode cL_law 1264 = .ok (.iadd, 1) := by decide +kernel
theorem dL_law_1265 : decode cL_law 1265 = .ok (.iaload, 1) := by decide +kernel
theorem dL_law_1266 : decode cL_law 1266 = .ok (.aload_n 3, 1) := by decide +kernel
theorem dL_law_1267 : decode cL_law 1267 = .ok (.invokestatic 171, 3) := by decide +kernel
theorem dL_law_1270 : decode cL_law 1270 = .ok (.istore 5, 2) := by decide +kernel
theorem dL_law_1272 : decode cL_law 1272 = .ok (.aload_n 2, 1) := by decide +kernel
theorem dL_law_1273 : decode cL_law 1273 = .ok (.aload_n 0, 1) := by decide +kernel
theorem dL_law_1274 : decode cL_law 1274 = .ok (.iload 4, 2) := by decide +kernel
theorem dL_law_1276 : decode cL_law 1276 = .ok (.iconst 1, 1) := by decide +kernel
theorem dL_law_1277 : decode cL_law 1277 = .ok (.iadd, 1) := by decide +kernel
theorem dL_law_1278 : decode cL_law 1278 = .ok (.iaload, 1) := by decide +kernel
theorem dL_law_1279 : decode cL_law 1279 = .ok (.invokevirtual 173, 3) := by decide +kernel
theorem dL_law_1282 : decode cL_law 1282 = .ok (.istore 6, 2) := by decide +kernel
theorem dL_law_1284 : decode cL_law 1284 = .ok (.aload_n 2, 1) := by decide +kernel
theorem dL_law_1285 : decode cL_law 1285 = .ok (.invokevirtual 105, 3) := by decide +kernel
theorem dL_law_1288 : decode cL_law 1288 = .ok (.iload 5, 2) := by decide +kernel
theorem dL_law_1290 : decode cL_law 1290 = .ok (.if_icmp .eq 5, 3) := by decide +kernel
theorem dL_law_1293 : decode cL_law 1293 = .ok (.iconst 0, 1) := by decide +kernel
theorem dL_law_1294 : decode cL_law 1294 = .ok (.ireturn, 1) := by decide +kernel
theorem dL_law_1295 : decode cL_law 1295 = .ok (.iload 5, 2) := by decide +kernel
theorem dL_law_1297 : decode cL_law 1297 = .ok (.ifCond .ne 15, 3) := by decide +kernel
theorem dL_law_1300 : decode cL_law 1300 = .ok (.aload_n 3, 1) := by decide +kernel
theorem dL_law_1301 : decode cL_law 1301 = .ok (.iconst 0, 1) := by decide +kernel
theorem dL_law_1302 : decode cL_law 1302 = .ok (.laload, 1) := by decide +kernel
theorem dL_law_1303 : decode cL_law 1303 = .ok (.iload 6, 2) := by decide +kernel
theorem dL_law_1305 : decode cL_law 1305 = .ok (.i2l, 1) := by decide +kernel
theorem dL_law_1306 : decode cL_law 1306 = .ok (.lcmp, 1) := by decide +kernel
theorem dL_law_1307 : decode cL_law 1307 = .ok (.ifCond .eq 5, 3) := by decide +kernel
theorem dL_law_1310 : decode cL_law 1310 = .ok (.iconst 0, 1) := by decide +kernel
theorem dL_law_1311 : decode cL_law 1311 = .ok (.ireturn, 1) := by decide +kernel
theorem dL_law_1312 : decode cL_law 1312 = .ok (.goto 582, 3) := by decide +kernel
theorem dL_law_1315 : decode cL_law 1315 = .ok (.aload_n 1, 1) := by decide +kernel
theorem dL_law_1316 : decode cL_law 1316 = .ok (.aload_n 0, 1) := by decide +kernel
theorem dL_law_1317 : decode cL_law 1317 = .ok (.iload 4, 2) := by decide +kernel
theorem dL_law_1319 : decode cL_law 1319 = .ok (.iconst 1, 1) := by decide +kernel
theorem dL_law_1320 : decode cL_law 1320 = .ok (.iadd, 1) := by decide +kernel
theorem dL_law_1321 : decode cL_law 1321 = .ok (.iaload, 1) := by decide +kernel
theorem dL_law_1322 : decode cL_law 1322 = .ok (.aload_n 0, 1) := by decide +kernel
theorem dL_law_1323 : decode cL_law 1323 = .ok (.iload 4, 2) := by decide +kernel
theorem dL_law_1325 : decode cL_law 1325 = .ok (.iconst 2, 1) := by decide +kernel
theorem dL_law_1326 : decode cL_law 1326 = .ok (.iadd, 1) := by decide +kernel
theorem dL_law_1327 : decode cL_law 1327 = .ok (.iaload, 1) := by decide +kernel
theorem dL_law_1328 : decode cL_law 1328 = .ok (.aload_n 0, 1) := by decide +kernel
theorem dL_law_1329 : decode cL_law 1329 = .ok (.iload 4, 2) := by decide +kernel
theorem dL_law_1331 : decode cL_law 1331 = .ok (.iconst 3, 1) := by decide +kernel
theorem dL_law_1332 : decode cL_law 1332 = .ok (.iadd, 1) := by decide +kernel
theorem dL_law_1333 : decode cL_law 1333 = .ok (.iaload, 1) := by decide +kernel
theorem dL_law_1334 : decode cL_law 1334 = .ok (.aload_n 3, 1) := by decide +kernel
theorem dL_law_1335 : decode cL_law 1335 = .ok (.invokestatic 174, 3) := by decide +kernel
theorem dL_law_1338 : decode cL_law 1338 = .ok (.istore 5, 2) := by decide +kernel
theorem dL_law_1340 : decode cL_law 1340 = .ok (.aload_n 2, 1) := by decide +kernel
theorem dL_law_1341 : decode cL_law 1341 = .ok (.aload_n 0, 1) := by decide +kernel
theorem dL_law_1342 : decode cL_law 1342 = .ok (.iload 4, 2) := by decide +kernel
theorem dL_law_1344 : decode cL_law 1344 = .ok (.iconst 1, 1) := by decide +kernel
theorem dL_law_1345 : decode cL_law 1345 = .ok (.iadd, 1) := by decide +kernel
theorem dL_law_1346 : decode cL_law 1346 = .ok (.iaload, 1) := by decide +kernel
theorem dL_law_1347 : decode cL_law 1347 = .ok (.aload_n 0, 1) := by decide +kernel
theorem dL_law_1348 : decode cL_law 1348 = .ok (.iload 4, 2) := by decide +kernel
theorem dL_law_1350 : decode cL_law 1350 = .ok (.iconst 2, 1) := by decide +kernel
theorem dL_law_1351 : decode cL_law 1351 = .ok (.iadd, 1) := by decide +kernel
theorem dL_law_1352 : decode cL_law 1352 = .ok (.iaload, 1) := by decide +kernel
theorem dL_law_1353 : decode cL_law 1353 = .ok (.aload_n 0, 1) := by decide +kernel
theorem dL_law_1354 : decode cL_law 1354 = .ok (.iload 4, 2) := by decide +kernel
theorem dL_law_1356 : decode cL_law 1356 = .ok (.iconst 3, 1) := by decide +kernel
theorem dL_law_1357 : decode cL_law 1357 = .ok (.iadd, 1) := by decide +kernel
theorem dL_law_1358 : decode cL_law 1358 = .ok (.iaload, 1) := by decide +kernel
theorem dL_law_1359 : decode cL_law 1359 = .ok (.invokevirtual 176, 3) := by decide +kernel
theorem dL_law_1362 : decode cL_law 1362 = .ok (.istore 6, 2) := by decide +kernel
theorem dL_law_1364 : decode cL_law 1364 = .ok (.aload_n 2, 1) := by decide +kernel
theorem dL_law_1365 : decode cL_law 1365 = .ok (.invokevirtual 105, 3) := by decide +kernel
theorem dL_law_1368 : decode cL_law 1368 = .ok (.iload 5, 2) := by decide +kernel
theorem dL_law_1370 : decode cL_law 1370 = .ok (.if_icmp .eq 5, 3) := by decide +kernel
theorem dL_law_1373 : decode cL_law 1373 = .ok (.iconst 0, 1) := by decide +kernel
theorem dL_law_1374 : decode cL_law 1374 = .ok (.ireturn, 1) := by decide +kernel
theorem dL_law_1375 : decode cL_law 1375 = .ok (.iload 5, 2) := by decide +kernel
theorem dL_law_1377 : decode cL_law 1377 = .ok (.ifCond .ne 15, 3) := by decide +kernel
theorem dL_law_1380 : decode cL_law 1380 = .ok (.aload_n 3, 1) := by decide +kernel
theorem dL_law_1381 : decode cL_law 1381 = .ok (.iconst 0, 1) := by decide +kernel
theorem dL_law_1382 : decode cL_law 1382 = .ok (.laload, 1) := by decide +kernel
theorem dL_law_1383 : decode cL_law 1383 = .ok (.iload 6, 2) := by decide +kernel
theorem dL_law_1385 : decode cL_law 1385 = .ok (.i2l, 1) := by decide +kernel
theorem dL_law_1386 : decode cL_law 1386 = .ok (.lcmp, 1) := by decide +kernel
theorem dL_law_1387 : decode cL_law 1387 = .ok (.ifCond .eq 5, 3) := by decide +kernel
theorem dL_law_1390 : decode cL_law 1390 = .ok (.iconst 0, 1) := by decide +kernel
theorem dL_law_1391 : decode cL_law 1391 = .ok (.ireturn, 1) := by decide +kernel
theorem dL_law_1392 : decode cL_law 1392 = .ok (.goto 502, 3) := by decide +kernel
theorem dL_law_1395 : decode cL_law 1395 = .ok (.aload_n 1, 1) := by decide +kernel
theorem dL_law_1396 : decode cL_law 1396 = .ok (.aload_n 0, 1) := by decide +kernel
theorem dL_law_1397 : decode cL_law 1397 = .ok (.iload 4, 2) := by decide +kernel
theorem dL_law_1399 : decode cL_law 1399 = .ok (.iconst 1, 1) := by decide +kernel
theorem dL_law_1400 : decode cL_law 1400 = .ok (.iadd, 1) := by decide +kernel
theorem dL_law_1401 : decode cL_law 1401 = .ok (.iaload, 1) := by decide +kernel
theorem dL_law_1402 : decode cL_law 1402 = .ok (.aload_n 0, 1) := by decide +kernel
theorem dL_law_1403 : decode cL_law 1403 = .ok (.iload 4, 2) := by decide +kernel
theorem dL_law_1405 : decode cL_law 1405 = .ok (.iconst 2, 1) := by decide +kernel
theorem dL_law_1406 : decode cL_law 1406 = .ok (.iadd, 1) := by decide +kernel
theorem dL_law_1407 : decode cL_law 1407 = .ok (.iaload, 1) := by decide +kernel
theorem dL_law_1408 : decode cL_law 1408 = .ok (.aload_n 0, 1) := by decide +kernel
theorem dL_law_1409 : decode cL_law 1409 = .ok (.iload 4, 2) := by decide +kernel
theorem dL_law_1411 : decode cL_law 1411 = .ok (.iconst 3, 1) := by decide +kernel
theorem dL_law_1412 : decode cL_law 1412 = .ok (.iadd, 1) := by decide +kernel
theorem dL_law_1413 : decode cL_law 1413 = .ok (.iaload, 1) := by decide +kernel
theorem dL_law_1414 : decode cL_law 1414 = .ok (.aload_n 0, 1) := by decide +kernel
theorem dL_law_1415 : decode cL_law 1415 = .ok (.iload 4, 2) := by decide +kernel
theorem dL_law_1417 : decode cL_law 1417 = .ok (.iconst 4, 1) := by decide +kernel
theorem dL_law_1418 : decode cL_law 1418 = .ok (.iadd, 1) := by decide +kernel
theorem dL_law_1419 : decode cL_law 1419 = .ok (.iaload, 1) := by decide +kernel
theorem dL_law_1420 : decode cL_law 1420 = .ok (.aload_n 3, 1) := by decide +kernel
theorem dL_law_1421 : decode cL_law 1421 = .ok (.invokestatic 177, 3) := by decide +kernel
theorem dL_law_1424 : decode cL_law 1424 = .ok (.istore 5, 2) := by decide +kernel
theorem dL_law_1426 : decode cL_law 1426 = .ok (.aload_n 2, 1) := by decide +kernel
theorem dL_law_1427 : decode cL_law 1427 = .ok (.aload_n 0, 1) := by decide +kernel
theorem dL_law_1428 : decode cL_law 1428 = .ok (.iload 4, 2) := by decide +kernel
theorem dL_law_1430 : decode cL_law 1430 = .ok (.iconst 1, 1) := by decide +kernel
theorem dL_law_1431 : decode cL_law 1431 = .ok (.iadd, 1) := by decide +kernel
theorem dL_law_1432 : decode cL_law 1432 = .ok (.iaload, 1) := by decide +kernel
theorem dL_law_1433 : decode cL_law 1433 = .ok (.aload_n 0, 1) := by decide +kernel
theorem dL_law_1434 : decode cL_law 1434 = .ok (.iload 4, 2) := by decide +kernel
theorem dL_law_1436 : decode cL_law 1436 = .ok (.iconst 2, 1) := by decide +kernel
theorem dL_law_1437 : decode cL_law 1437 = .ok (.iadd, 1) := by decide +kernel
theorem dL_law_1438 : decode cL_law 1438 = .ok (.iaload, 1) := by decide +kernel
theorem dL_law_1439 : decode cL_law 1439 = .ok (.aload_n 0, 1) := by decide +kernel
theorem dL_law_1440 : decode cL_law 1440 = .ok (.iload 4, 2) := by decide +kernel
theorem dL_law_1442 : decode cL_law 1442 = .ok (.iconst 3, 1) := by decide +kernel
theorem dL_law_1443 : decode cL_law 1443 = .ok (.iadd, 1) := by decide +kernel
theorem dL_law_1444 : decode cL_law 1444 = .ok (.iaload, 1) := by decide +kernel
theorem dL_law_1445 : decode cL_law 1445 = .ok (.aload_n 0, 1) := by decide +kernel
theorem dL_law_1446 : decode cL_law 1446 = .ok (.iload 4, 2) := by decide +kernel
theorem dL_law_1448 : decode cL_law 1448 = .ok (.iconst 4, 1) := by decide +kernel
theorem dL_law_1449 : decode cL_law 1449 = .ok (.iadd, 1) := by decide +kernel
theorem dL_law_1450 : decode cL_law 1450 = .ok (.iaload, 1) := by decide +kernel
theorem dL_law_1451 : decode cL_law 1451 = .ok (.invokevirtual 180, 3) := by decide +kernel
theorem dL_law_1454 : decode cL_law 1454 = .ok (.istore 6, 2) := by decide +kernel
theorem dL_law_1456 : decode cL_law 1456 = .ok (.aload_n 2, 1) := by decide +kernel
theorem dL_law_1457 : decode cL_law 1457 = .ok (.invokevirtual 105, 3) := by decide +kernel
theorem dL_law_1460 : decode cL_law 1460 = .ok (.iload 5, 2) := by decide +kernel
theorem dL_law_1462 : decode cL_law 1462 = .ok (.if_icmp .eq 5, 3) := by decide +kernel
theorem dL_law_1465 : decode cL_law 1465 = .ok (.iconst 0, 1) := by decide +kernel
theorem dL_law_1466 : decode cL_law 1466 = .ok (.ireturn, 1) := by decide +kernel
theorem dL_law_1467 : decode cL_law 1467 = .ok (.iload 5, 2) := by decide +kernel
theorem dL_law_1469 : decode cL_law 1469 = .ok (.ifCond .ne 15, 3) := by decide +kernel
theorem dL_law_1472 : decode cL_law 1472 = .ok (.aload_n 3, 1) := by decide +kernel
theorem dL_law_1473 : decode cL_law 1473 = .ok (.iconst 0, 1) := by decide +kernel
theorem dL_law_1474 : decode cL_law 1474 = .ok (.laload, 1) := by decide +kernel
theorem dL_law_1475 : decode cL_law 1475 = .ok (.iload 6, 2) := by decide +kernel
theorem dL_law_1477 : decode cL_law 1477 = .ok (.i2l, 1) := by decide +kernel
theorem dL_law_1478 : decode cL_law 1478 = .ok (.lcmp, 1) := by decide +kernel
theorem dL_law_1479 : decode cL_law 1479 = .ok (.ifCond .eq 5, 3) := by decide +kernel
theorem dL_law_1482 : decode cL_law 1482 = .ok (.iconst 0, 1) := by decide +kernel
theorem dL_law_1483 : decode cL_law 1483 = .ok (.ireturn, 1) := by decide +kernel
theorem dL_law_1484 : decode cL_law 1484 = .ok (.goto 410, 3) := by decide +kernel
theorem dL_law_1487 : decode cL_law 1487 = .ok (.aload_n 1, 1) := by decide +kernel
theorem dL_law_1488 : decode cL_law 1488 = .ok (.aload_n 0, 1) := by decide +kernel
theorem dL_law_1489 : decode cL_law 1489 = .ok (.iload 4, 2) := by decide +kernel
theorem dL_law_1491 : decode cL_law 1491 = .ok (.iconst 1, 1) := by decide +kernel
theorem dL_law_1492 : decode cL_law 1492 = .ok (.iadd, 1) := by decide +kernel
theorem dL_law_1493 : decode cL_law 1493 = .ok (.iaload, 1) := by decide +kernel
theorem dL_law_1494 : decode cL_law 1494 = .ok (.aload_n 0, 1) := by decide +kernel
theorem dL_law_1495 : decode cL_law 1495 = .ok (.iload 4, 2) := by decide +kernel
theorem dL_law_1497 : decode cL_law 1497 = .ok (.iconst 2, 1) := by decide +kernel
theorem dL_law_1498 : decode cL_law 1498 = .ok (.iadd, 1) := by decide +kernel
theorem dL_law_1499 : decode cL_law 1499 = .ok (.iaload, 1) := by decide +kernel
theorem dL_law_1500 : decode cL_law 1500 = .ok (.aload_n 0, 1) := by decide +kernel
theorem dL_law_1501 : decode cL_law 1501 = .ok (.iload 4, 2) := by decide +kernel
theorem dL_law_1503 : decode cL_law 1503 = .ok (.iconst 3, 1) := by decide +kernel
theorem dL_law_1504 : decode cL_law 1504 = .ok (.iadd, 1) := by decide +kernel
theorem dL_law_1505 : decode cL_law 1505 = .ok (.iaload, 1) := by decide +kernel
theorem dL_law_1506 : decode cL_law 1506 = .ok (.aload_n 0, 1) := by decide +kernel
theorem dL_law_1507 : decode cL_law 1507 = .ok (.iload 4, 2) := by decide +kernel
theorem dL_law_1509 : decode cL_law 1509 = .ok (.iconst 4, 1) := by decide +kernel
theorem dL_law_1510 : decode cL_law 1510 = .ok (.iadd, 1) := by decide +kernel
theorem dL_law_1511 : decode cL_law 1511 = .ok (.iaload, 1) := by decide +kernel
theorem dL_law_1512 : decode cL_law 1512 = .ok (.aload_n 3, 1) := by decide +kernel
theorem dL_law_1513 : decode cL_law 1513 = .ok (.invokestatic 181, 3) := by decide +kernel
theorem dL_law_1516 : decode cL_law 1516 = .ok (.istore 5, 2) := by decide +kernel
theorem dL_law_1518 : decode cL_law 1518 = .ok (.aload_n 2, 1) := by decide +kernel
theorem dL_law_1519 : decode cL_law 1519 = .ok (.aload_n 0, 1) := by decide +kernel
theorem dL_law_1520 : decode cL_law 1520 = .ok (.iload 4, 2) := by decide +kernel
theorem dL_law_1522 : decode cL_law 1522 = .ok (.iconst 1, 1) := by decide +kernel
theorem dL_law_1523 : decode cL_law 1523 = .ok (.iadd, 1) := by decide +kernel
theorem dL_law_1524 : decode cL_law 1524 = .ok (.iaload, 1) := by decide +kernel
theorem dL_law_1525 : decode cL_law 1525 = .ok (.aload_n 0, 1) := by decide +kernel
theorem dL_law_1526 : decode cL_law 1526 = .ok (.iload 4, 2) := by decide +kernel
theorem dL_law_1528 : decode cL_law 1528 = .ok (.iconst 2, 1) := by decide +kernel
theorem dL_law_1529 : decode cL_law 1529 = .ok (.iadd, 1) := by decide +kernel
theorem dL_law_1530 : decode cL_law 1530 = .ok (.iaload, 1) := by decide +kernel
theorem dL_law_1531 : decode cL_law 1531 = .ok (.aload_n 0, 1) := by decide +kernel
theorem dL_law_1532 : decode cL_law 1532 = .ok (.iload 4, 2) := by decide +kernel
theorem dL_law_1534 : decode cL_law 1534 = .ok (.iconst 3, 1) := by decide +kernel
theorem dL_law_1535 : decode cL_law 1535 = .ok (.iadd, 1) := by decide +kernel
theorem dL_law_1536 : decode cL_law 1536 = .ok (.iaload, 1) := by decide +kernel
theorem dL_law_1537 : decode cL_law 1537 = .ok (.aload_n 0, 1) := by decide +kernel
theorem dL_law_1538 : decode cL_law 1538 = .ok (.iload 4, 2) := by decide +kernel
theorem dL_law_1540 : decode cL_law 1540 = .ok (.iconst 4, 1) := by decide +kernel
theorem dL_law_1541 : decode cL_law 1541 = .ok (.iadd, 1) := by decide +kernel
theorem dL_law_1542 : decode cL_law 1542 = .ok (.iaload, 1) := by decide +kernel
theorem dL_law_1543 : decode cL_law 1543 = .ok (.invokevirtual 183, 3) := by decide +kernel
theorem dL_law_1546 : decode cL_law 1546 = .ok (.istore 6, 2) := by decide +kernel
theorem dL_law_1548 : decode cL_law 1548 = .ok (.aload_n 2, 1) := by decide +kernel
theorem dL_law_1549 : decode cL_law 1549 = .ok (.invokevirtual 105, 3) := by decide +kernel
theorem dL_law_1552 : decode cL_law 1552 = .ok (.iload 5, 2) := by decide +kernel
theorem dL_law_1554 : decode cL_law 1554 = .ok (.if_icmp .eq 5, 3) := by decide +kernel
theorem dL_law_1557 : decode cL_law 1557 = .ok (.iconst 0, 1) := by decide +kernel
theorem dL_law_1558 : decode cL_law 1558 = .ok (.ireturn, 1) := by decide +kernel
theorem dL_law_1559 : decode cL_law 1559 = .ok (.iload 5, 2) := by decide +kernel
theorem dL_law_1561 : decode cL_law 1561 = .ok (.ifCond .ne 15, 3) := by decide +kernel
theorem dL_law_1564 : decode cL_law 1564 = .ok (.aload_n 3, 1) := by decide +kernel
theorem dL_law_1565 : decode cL_law 1565 = .ok (.iconst 0, 1) := by decide +kernel
theorem dL_law_1566 : decode cL_law 1566 = .ok (.laload, 1) := by decide +kernel
theorem dL_law_1567 : decode cL_law 1567 = .ok (.iload 6, 2) := by decide +kernel
theorem dL_law_1569 : decode cL_law 1569 = .ok (.i2l, 1) := by decide +kernel
theorem dL_law_1570 : decode cL_law 1570 = .ok (.lcmp, 1) := by decide +kernel
theorem dL_law_1571 : decode cL_law 1571 = .ok (.ifCond .eq 5, 3) := by decide +kernel
theorem dL_law_1574 : decode cL_law 1574 = .ok (.iconst 0, 1) := by decide +kernel
theorem dL_law_1575 : decode cL_law 1575 = .ok (.ireturn, 1) := by decide +kernel
theorem dL_law_1576 : decode cL_law 1576 = .ok (.goto 318, 3) := by decide +kernel
theorem dL_law_1579 : decode cL_law 1579 = .ok (.aload_n 1, 1) := by decide +kernel
theorem dL_law_1580 : decode cL_law 1580 = .ok (.aload_n 0, 1) := by decide +kernel
theorem dL_law_1581 : decode cL_law 1581 = .ok (.iload 4, 2) := by decide +kernel
theorem dL_law_1583 : decode cL_law 1583 = .ok (.iconst 1, 1) := by decide +kernel
theorem dL_law_1584 : decode cL_law 1584 = .ok (.iadd, 1) := by decide +kernel
theorem dL_law_1585 : decode cL_law 1585 = .ok (.iaload, 1) := by decide +kernel
theorem dL_law_1586 : decode cL_law 1586 = .ok (.aload_n 0, 1) := by decide +kernel
theorem dL_law_1587 : decode cL_law 1587 = .ok (.iload 4, 2) := by decide +kernel
theorem dL_law_1589 : decode cL_law 1589 = .ok (.iconst 2, 1) := by decide +kernel
theorem dL_law_1590 : decode cL_law 1590 = .ok (.iadd, 1) := by decide +kernel
theorem dL_law_1591 : decode cL_law 1591 = .ok (.iaload, 1) := by decide +kernel
theorem dL_law_1592 : decode cL_law 1592 = .ok (.aload_n 0, 1) := by decide +kernel
theorem dL_law_1593 : decode cL_law 1593 = .ok (.iload 4, 2) := by decide +kernel
theorem dL_law_1595 : decode cL_law 1595 = .ok (.iconst 3, 1) := by decide +kernel
theorem dL_law_1596 : decode cL_law 1596 = .ok (.iadd, 1) := by decide +kernel
theorem dL_law_1597 : decode cL_law 1597 = .ok (.iaload, 1) := by decide +kernel
theorem dL_law_1598 : decode cL_law 1598 = .ok (.aload_n 3, 1) := by decide +kernel
theorem dL_law_1599 : decode cL_law 1599 = .ok (.invokestatic 184, 3) := by decide +kernel
theorem dL_law_1602 : decode cL_law 1602 = .ok (.istore 5, 2) := by decide +kernel
theorem dL_law_1604 : decode cL_law 1604 = .ok (.aload_n 2, 1) := by decide +kernel
theorem dL_law_1605 : decode cL_law 1605 = .ok (.aload_n 0, 1) := by decide +kernel
theorem dL_law_1606 : decode cL_law 1606 = .ok (.iload 4, 2) := by decide +kernel
theorem dL_law_1608 : decode cL_law 1608 = .ok (.iconst 1, 1) := by decide +kernel
theorem dL_law_1609 : decode cL_law 1609 = .ok (.iadd, 1) := by decide +kernel
theorem dL_law_1610 : decode cL_law 1610 = .ok (.iaload, 1) := by decide +kernel
theorem dL_law_1611 : decode cL_law 1611 = .ok (.aload_n 0, 1) := by decide +kernel
theorem dL_law_1612 : decode cL_law 1612 = .ok (.iload 4, 2) := by decide +kernel
theorem dL_law_1614 : decode cL_law 1614 = .ok (.iconst 2, 1) := by decide +kernel
theorem dL_law_1615 : decode cL_law 1615 = .ok (.iadd, 1) := by decide +kernel
theorem dL_law_1616 : decode cL_law 1616 = .ok (.iaload, 1) := by decide +kernel
theorem dL_law_1617 : decode cL_law 1617 = .ok (.aload_n 0, 1) := by decide +kernel
theorem dL_law_1618 : decode cL_law 1618 = .ok (.iload 4, 2) := by decide +kernel
theorem dL_law_1620 : decode cL_law 1620 = .ok (.iconst 3, 1) := by decide +kernel
theorem dL_law_1621 : decode cL_law 1621 = .ok (.iadd, 1) := by decide +kernel
theorem dL_law_1622 : decode cL_law 1622 = .ok (.iaload, 1) := by decide +kernel
theorem dL_law_1623 : decode cL_law 1623 = .ok (.invokevirtual 186, 3) := by decide +kernel
theorem dL_law_1626 : decode cL_law 1626 = .ok (.istore 6, 2) := by decide +kernel
theorem dL_law_1628 : decode cL_law 1628 = .ok (.aload_n 2, 1) := by decide +kernel
theorem dL_law_1629 : decode cL_law 1629 = .ok (.invokevirtual 105, 3) := by decide +kernel
theorem dL_law_1632 : decode cL_law 1632 = .ok (.iload 5, 2) := by decide +kernel
theorem dL_law_1634 : decode cL_law 1634 = .ok (.if_icmp .eq 5, 3) := by decide +kernel
theorem dL_law_1637 : decode cL_law 1637 = .ok (.iconst 0, 1) := by decide +kernel
theorem dL_law_1638 : decode cL_law 1638 = .ok (.ireturn, 1) := by decide +kernel
theorem dL_law_1639 : decode cL_law 1639 = .ok (.iload 5, 2) := by decide +kernel
theorem dL_law_1641 : decode cL_law 1641 = .ok (.ifCond .ne 15, 3) := by decide +kernel
theorem dL_law_1644 : decode cL_law 1644 = .ok (.aload_n 3, 1) := by decide +kernel
theorem dL_law_1645 : decode cL_law 1645 = .ok (.iconst 0, 1) := by decide +kernel
theorem dL_law_1646 : decode cL_law 1646 = .ok (.laload, 1) := by decide +kernel
theorem dL_law_1647 : decode cL_law 1647 = .ok (.iload 6, 2) := by decide +kernel
theorem dL_law_1649 : decode cL_law 1649 = .ok (.i2l, 1) := by decide +kernel
theorem dL_law_1650 : decode cL_law 1650 = .ok (.lcmp, 1) := by decide +kernel
theorem dL_law_1651 : decode cL_law 1651 = .ok (.ifCond .eq 5, 3) := by decide +kernel
theorem dL_law_1654 : decode cL_law 1654 = .ok (.iconst 0, 1) := by decide +kernel
theorem dL_law_1655 : decode cL_law 1655 = .ok (.ireturn, 1) := by decide +kernel
theorem dL_law_1656 : decode cL_law 1656 = .ok (.goto 238, 3) := by decide +kernel
theorem dL_law_1659 : decode cL_law 1659 = .ok (.aload_n 1, 1) := by decide +kernel
theorem dL_law_1660 : decode cL_law 1660 = .ok (.aload_n 0, 1) := by decide +kernel
theorem dL_law_1661 : decode cL_law 1661 = .ok (.iload 4, 2) := by decide +kernel
theorem dL_law_1663 : decode cL_law 1663 = .ok (.iconst 1, 1) := by decide +kernel
theorem dL_law_1664 : decode cL_law 1664 = .ok (.iadd, 1) := by decide +kernel
theorem dL_law_1665 : decode cL_law 1665 = .ok (.iaload, 1) := by decide +kernel
theorem dL_law_1666 : decode cL_law 1666 = .ok (.aload_n 3, 1) := by decide +kernel
theorem dL_law_1667 : decode cL_law 1667 = .ok (.invokestatic 187, 3) := by decide +kernel
theorem dL_law_1670 : decode cL_law 1670 = .ok (.istore 5, 2) := by decide +kernel
theorem dL_law_1672 : decode cL_law 1672 = .ok (.aload_n 2, 1) := by decide +kernel
theorem dL_law_1673 : decode cL_law 1673 = .ok (.aload_n 0, 1) := by decide +kernel
theorem dL_law_1674 : decode cL_law 1674 = .ok (.iload 4, 2) := by decide +kernel
theorem dL_law_1676 : decode cL_law 1676 = .ok (.iconst 1, 1) := by decide +kernel
theorem dL_law_1677 : decode cL_law 1677 = .ok (.iadd, 1) := by decide +kernel
theorem dL_law_1678 : decode cL_law 1678 = .ok (.iaload, 1) := by decide +kernel
theorem dL_law_1679 : decode cL_law 1679 = .ok (.invokevirtual 189, 3) := by decide +kernel
theorem dL_law_1682 : decode cL_law 1682 = .ok (.istore 6, 2) := by decide +kernel
theorem dL_law_1684 : decode cL_law 1684 = .ok (.aload_n 2, 1) := by decide +kernel
theorem dL_law_1685 : decode cL_law 1685 = .ok (.invokevirtual 105, 3) := by decide +kernel
theorem dL_law_1688 : decode cL_law 1688 = .ok (.iload 5, 2) := by decide +kernel
theorem dL_law_1690 : decode cL_law 1690 = .ok (.if_icmp .eq 5, 3) := by decide +kernel
theorem dL_law_1693 : decode cL_law 1693 = .ok (.iconst 0, 1) := by decide +kernel
theorem dL_law_1694 : decode cL_law 1694 = .ok (.ireturn, 1) := by decide +kernel
theorem dL_law_1695 : decode cL_law 1695 = .ok (.iload 5, 2) := by decide +kernel
theorem dL_law_1697 : decode cL_law 1697 = .ok (.ifCond .ne 15, 3) := by decide +kernel
theorem dL_law_1700 : decode cL_law 1700 = .ok (.aload_n 3, 1) := by decide +kernel
theorem dL_law_1701 : decode cL_law 1701 = .ok (.iconst 0, 1) := by decide +kernel
theorem dL_law_1702 : decode cL_law 1702 = .ok (.laload, 1) := by decide +kernel
theorem dL_law_1703 : decode cL_law 1703 = .ok (.iload 6, 2) := by decide +kernel
theorem dL_law_1705 : decode cL_law 1705 = .ok (.i2l, 1) := by decide +kernel
theorem dL_law_1706 : decode cL_law 1706 = .ok (.lcmp, 1) := by decide +kernel
theorem dL_law_1707 : decode cL_law 1707 = .ok (.ifCond .eq 5, 3) := by decide +kernel
theorem dL_law_1710 : decode cL_law 1710 = .ok (.iconst 0, 1) := by decide +kernel
theorem dL_law_1711 : decode cL_law 1711 = .ok (.ireturn, 1) := by decide +kernel
theorem dL_law_1712 : decode cL_law 1712 = .ok (.goto 182, 3) := by decide +kernel
theorem dL_law_1715 : decode cL_law 1715 = .ok (.aload_n 1, 1) := by decide +kernel
theorem dL_law_1716 : decode cL_law 1716 = .ok (.aload_n 0, 1) := by decide +kernel
theorem dL_law_1717 : decode cL_law 1717 = .ok (.iload 4, 2) := by decide +kernel
theorem dL_law_1719 : decode cL_law 1719 = .ok (.iconst 1, 1) := by decide +kernel
theorem dL_law_1720 : decode cL_law 1720 = .ok (.iadd, 1) := by decide +kernel
theorem dL_law_1721 : decode cL_law 1721 = .ok (.iaload, 1) := by decide +kernel
theorem dL_law_1722 : decode cL_law 1722 = .ok (.aload_n 0, 1) := by decide +kernel
theorem dL_law_1723 : decode cL_law 1723 = .ok (.iload 4, 2) := by decide +kernel
theorem dL_law_1725 : decode cL_law 1725 = .ok (.iconst 2, 1) := by decide +kernel
theorem dL_law_1726 : decode cL_law 1726 = .ok (.iadd, 1) := by decide +kernel
theorem dL_law_1727 : decode cL_law 1727 = .ok (.iaload, 1) := by decide +kernel
theorem dL_law_1728 : decode cL_law 1728 = .ok (.aload_n 3, 1) := by decide +kernel
theorem dL_law_1729 : decode cL_law 1729 = .ok (.invokestatic 190, 3) := by decide +kernel
theorem dL_law_1732 : decode cL_law 1732 = .ok (.istore 5, 2) := by decide +kernel
theorem dL_law_1734 : decode cL_law 1734 = .ok (.aload_n 2, 1) := by decide +kernel
theorem dL_law_1735 : decode cL_law 1735 = .ok (.aload_n 0, 1) := by decide +kernel
theorem dL_law_1736 : decode cL_law 1736 = .ok (.iload 4, 2) := by decide +kernel
theorem dL_law_1738 : decode cL_law 1738 = .ok (.iconst 1, 1) := by decide +kernel
theorem dL_law_1739 : decode cL_law 1739 = .ok (.iadd, 1) := by decide +kernel
theorem dL_law_1740 : decode cL_law 1740 = .ok (.iaload, 1) := by decide +kernel
theorem dL_law_1741 : decode cL_law 1741 = .ok (.aload_n 0, 1) := by decide +kernel
theorem dL_law_1742 : decode cL_law 1742 = .ok (.iload 4, 2) := by decide +kernel
theorem dL_law_1744 : decode cL_law 1744 = .ok (.iconst 2, 1) := by decide +kernel
theorem dL_law_1745 : decode cL_law 1745 = .ok (.iadd, 1) := by decide +kernel
theorem dL_law_1746 : decode cL_law 1746 = .ok (.iaload, 1) := by decide +kernel
theorem dL_law_1747 : decode cL_law 1747 = .ok (.invokevirtual 192, 3) := by decide +kernel
theorem dL_law_1750 : decode cL_law 1750 = .ok (.istore 6, 2) := by decide +kernel
theorem dL_law_1752 : decode cL_law 1752 = .ok (.aload_n 2, 1) := by decide +kernel
theorem dL_law_1753 : decode cL_law 1753 = .ok (.invokevirtual 105, 3) := by decide +kernel
theorem dL_law_1756 : decode cL_law 1756 = .ok (.iload 5, 2) := by decide +kernel
theorem dL_law_1758 : decode cL_law 1758 = .ok (.if_icmp .eq 5, 3) := by decide +kernel
theorem dL_law_1761 : decode cL_law 1761 = .ok (.iconst 0, 1) := by decide +kernel
theorem dL_law_1762 : decode cL_law 1762 = .ok (.ireturn, 1) := by decide +kernel
theorem dL_law_1763 : decode cL_law 1763 = .ok (.iload 5, 2) := by decide +kernel
theorem dL_law_1765 : decode cL_law 1765 = .ok (.ifCond .ne 15, 3) := by decide +kernel
theorem dL_law_1768 : decode cL_law 1768 = .ok (.aload_n 3, 1) := by decide +kernel
theorem dL_law_1769 : decode cL_law 1769 = .ok (.iconst 0, 1) := by decide +kernel
theorem dL_law_1770 : decode cL_law 1770 = .ok (.laload, 1) := by decide +kernel
theorem dL_law_1771 : decode cL_law 1771 = .ok (.iload 6, 2) := by decide +kernel
theorem dL_law_1773 : decode cL_law 1773 = .ok (.i2l, 1) := by decide +kernel
theorem dL_law_1774 : decode cL_law 1774 = .ok (.lcmp, 1) := by decide +kernel
theorem dL_law_1775 : decode cL_law 1775 = .ok (.ifCond .eq 5, 3) := by decide +kernel
theorem dL_law_1778 : decode cL_law 1778 = .ok (.iconst 0, 1) := by decide +kernel
theorem dL_law_1779 : decode cL_law 1779 = .ok (.ireturn, 1) := by decide +kernel
theorem dL_law_1780 : decode cL_law 1780 = .ok (.goto 114, 3) := by decide +kernel
theorem dL_law_1783 : decode cL_law 1783 = .ok (.aload_n 1, 1) := by decide +kernel
theorem dL_law_1784 : decode cL_law 1784 = .ok (.aload_n 0, 1) := by decide +kernel
theorem dL_law_1785 : decode cL_law 1785 = .ok (.iload 4, 2) := by decide +kernel
theorem dL_law_1787 : decode cL_law 1787 = .ok (.iconst 1, 1) := by decide +kernel
theorem dL_law_1788 : decode cL_law 1788 = .ok (.iadd, 1) := by decide +kernel
theorem dL_law_1789 : decode cL_law 1789 = .ok (.iaload, 1) := by decide +kernel
theorem dL_law_1790 : decode cL_law 1790 = .ok (.aload_n 3, 1) := by decide +kernel
theorem dL_law_1791 : decode cL_law 1791 = .ok (.invokestatic 193, 3) := by decide +kernel
theorem dL_law_1794 : decode cL_law 1794 = .ok (.istore 5, 2) := by decide +kernel
theorem dL_law_1796 : decode cL_law 1796 = .ok (.aload_n 2, 1) := by decide +kernel
theorem dL_law_1797 : decode cL_law 1797 = .ok (.aload_n 0, 1) := by decide +kernel
theorem dL_law_1798 : decode cL_law 1798 = .ok (.iload 4, 2) := by decide +kernel
theorem dL_law_1800 : decode cL_law 1800 = .ok (.iconst 1, 1) := by decide +kernel
theorem dL_law_1801 : decode cL_law 1801 = .ok (.iadd, 1) := by decide +kernel
theorem dL_law_1802 : decode cL_law 1802 = .ok (.iaload, 1) := by decide +kernel
theorem dL_law_1803 : decode cL_law 1803 = .ok (.invokevirtual 195, 3) := by decide +kernel
theorem dL_law_1806 : decode cL_law 1806 = .ok (.istore 6, 2) := by decide +kernel
theorem dL_law_1808 : decode cL_law 1808 = .ok (.aload_n 2, 1) := by decide +kernel
theorem dL_law_1809 : decode cL_law 1809 = .ok (.invokevirtual 105, 3) := by decide +kernel
theorem dL_law_1812 : decode cL_law 1812 = .ok (.iload 5, 2) := by decide +kernel
theorem dL_law_1814 : decode cL_law 1814 = .ok (.if_icmp .eq 5, 3) := by decide +kernel
theorem dL_law_1817 : decode cL_law 1817 = .ok (.iconst 0, 1) := by decide +kernel
theorem dL_law_1818 : decode cL_law 1818 = .ok (.ireturn, 1) := by decide +kernel
theorem dL_law_1819 : decode cL_law 1819 = .ok (.iload 5, 2) := by decide +kernel
theorem dL_law_1821 : decode cL_law 1821 = .ok (.ifCond .ne 15, 3) := by decide +kernel
theorem dL_law_1824 : decode cL_law 1824 = .ok (.aload_n 3, 1) := by decide +kernel
theorem dL_law_1825 : decode cL_law 1825 = .ok (.iconst 0, 1) := by decide +kernel
theorem dL_law_1826 : decode cL_law 1826 = .ok (.laload, 1) := by decide +kernel
theorem dL_law_1827 : decode cL_law 1827 = .ok (.iload 6, 2) := by decide +kernel
theorem dL_law_1829 : decode cL_law 1829 = .ok (.i2l, 1) := by decide +kernel
theorem dL_law_1830 : decode cL_law 1830 = .ok (.lcmp, 1) := by decide +kernel
theorem dL_law_1831 : decode cL_law 1831 = .ok (.ifCond .eq 5, 3) := by decide +kernel
theorem dL_law_1834 : decode cL_law 1834 = .ok (.iconst 0, 1) := by decide +kernel
theorem dL_law_1835 : decode cL_law 1835 = .ok (.ireturn, 1) := by decide +kernel
theorem dL_law_1836 : decode cL_law 1836 = .ok (.goto 58, 3) := by decide +kernel
theorem dL_law_1839 : decode cL_law 1839 = .ok (.aload_n 1, 1) := by decide +kernel
theorem dL_law_1840 : decode cL_law 1840 = .ok (.invokevirtual 196, 3) := by decide +kernel
theorem dL_law_1843 : decode cL_law 1843 = .ok (.dstore 5, 2) := by decide +kernel
theorem dL_law_1845 : decode cL_law 1845 = .ok (.aload_n 2, 1) := by decide +kernel
theorem dL_law_1846 : decode cL_law 1846 = .ok (.invokevirtual 200, 3) := by decide +kernel
theorem dL_law_1849 : decode cL_law 1849 = .ok (.dstore 7, 2) := by decide +kernel
theorem dL_law_1851 : decode cL_law 1851 = .ok (.dload 5, 2) := by decide +kernel
theorem dL_law_1853 : decode cL_law 1853 = .ok (.dload 7, 2) := by decide +kernel
theorem dL_law_1855 : decode cL_law 1855 = .ok (.dcmp .l, 1) := by decide +kernel
theorem dL_law_1856 : decode cL_law 1856 = .ok (.ifCond .eq 21, 3) := by decide +kernel
theorem dL_law_1859 : decode cL_law 1859 = .ok (.dload 5, 2) := by decide +kernel
theorem dL_law_1861 : decode cL_law 1861 = .ok (.dload 5, 2) := by decide +kernel
theorem dL_law_1863 : decode cL_law 1863 = .ok (.dcmp .l, 1) := by decide +kernel
theorem dL_law_1864 : decode cL_law 1864 = .ok (.ifCond .eq 11, 3) := by decide +kernel
theorem dL_law_1867 : decode cL_law 1867 = .ok (.dload 7, 2) := by decide +kernel
theorem dL_law_1869 : decode cL_law 1869 = .ok (.dload 7, 2) := by decide +kernel
theorem dL_law_1871 : decode cL_law 1871 = .ok (.dcmp .l, 1) := by decide +kernel
theorem dL_law_1872 : decode cL_law 1872 = .ok (.ifCond .ne 5, 3) := by decide +kernel
theorem dL_law_1875 : decode cL_law 1875 = .ok (.iconst 0, 1) := by decide +kernel
theorem dL_law_1876 : decode cL_law 1876 = .ok (.ireturn, 1) := by decide +kernel
theorem dL_law_1877 : decode cL_law 1877 = .ok (.goto 17, 3) := by decide +kernel
theorem dL_law_1880 : decode cL_law 1880 = .ok (.aload_n 1, 1) := by decide +kernel
theorem dL_law_1881 : decode cL_law 1881 = .ok (.invokevirtual 201, 3) := by decide +kernel
theorem dL_law_1884 : decode cL_law 1884 = .ok (.aload_n 2, 1) := by decide +kernel
theorem dL_law_1885 : decode cL_law 1885 = .ok (.invokevirtual 205, 3) := by decide +kernel
theorem dL_law_1888 : decode cL_law 1888 = .ok (.lcmp, 1) := by decide +kernel
theorem dL_law_1889 : decode cL_law 1889 = .ok (.ifCond .eq 5, 3) := by decide +kernel
theorem dL_law_1892 : decode cL_law 1892 = .ok (.iconst 0, 1) := by decide +kernel
theorem dL_law_1893 : decode cL_law 1893 = .ok (.ireturn, 1) := by decide +kernel
theorem dL_law_1894 : decode cL_law 1894 = .ok (.iinc 4 5, 3) := by decide +kernel
theorem dL_law_1897 : decode cL_law 1897 = .ok (.goto (-1874), 3) := by decide +kernel
theorem dL_law_1900 : decode cL_law 1900 = .ok (.iconst 1, 1) := by decide +kernel
theorem dL_law_1901 : decode cL_law 1901 = .ok (.ireturn, 1) := by decide +kernel
end
