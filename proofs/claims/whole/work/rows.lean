section
-- ===== PART A: goes FIRST, ahead of the names: the tables' words, and 'selects' of the private methods out of them =====
/-- a private method of a class that the tables say can be made, by its rows of tables_1 -/
def lw_okq (q : MethodName × Nat) : Prop := (q.1.cls ≠ "java/lang/invoke/MethodHandle" ∧ q.1.cls ≠ "java/lang/invoke/VarHandle") ∧ Cond.instantiable q.1.cls q.2 ∈ tables_1 ∧ Cond.privateMethod q.1 ∈ tables_1 ∧ Cond.instanceMethod q.1 ∈ tables_1
theorem lw_p0 : lw_okq (⟨"PennantRopes", "counted", "(I)I"⟩, 6) := ⟨⟨by decide +kernel, by decide +kernel⟩, List.mem_of_getElem? (i := 16) (by decide +kernel), List.mem_of_getElem? (i := 214) (by decide +kernel), List.mem_of_getElem? (i := 215) (by decide +kernel)⟩
theorem lw_p1 : lw_okq (⟨"PennantRopes", "ropeMixed", "(JI)J"⟩, 6) := ⟨⟨by decide +kernel, by decide +kernel⟩, List.mem_of_getElem? (i := 16) (by decide +kernel), List.mem_of_getElem? (i := 254) (by decide +kernel), List.mem_of_getElem? (i := 255) (by decide +kernel)⟩
theorem lw_p2 : lw_okq (⟨"PennantRopes", "ropeNumber", "(LPennantRopes$Rope;I)I"⟩, 6) := ⟨⟨by decide +kernel, by decide +kernel⟩, List.mem_of_getElem? (i := 16) (by decide +kernel), List.mem_of_getElem? (i := 259) (by decide +kernel), List.mem_of_getElem? (i := 260) (by decide +kernel)⟩
theorem lw_p3 : lw_okq (⟨"PennantRopes", "period", "(LPennantRopes$Rope;)I"⟩, 6) := ⟨⟨by decide +kernel, by decide +kernel⟩, List.mem_of_getElem? (i := 16) (by decide +kernel), List.mem_of_getElem? (i := 280) (by decide +kernel), List.mem_of_getElem? (i := 281) (by decide +kernel)⟩
theorem lw_p4 : lw_okq (⟨"PennantRopes", "hueMixed", "(JLPennantRopes$Rope;I)J"⟩, 6) := ⟨⟨by decide +kernel, by decide +kernel⟩, List.mem_of_getElem? (i := 16) (by decide +kernel), List.mem_of_getElem? (i := 295) (by decide +kernel), List.mem_of_getElem? (i := 296) (by decide +kernel)⟩
theorem lw_p5 : lw_okq (⟨"PennantRopes$Rope", "fittingPhases", "(II)I"⟩, 4) := ⟨⟨by decide +kernel, by decide +kernel⟩, List.mem_of_getElem? (i := 31) (by decide +kernel), List.mem_of_getElem? (i := 314) (by decide +kernel), List.mem_of_getElem? (i := 315) (by decide +kernel)⟩
theorem lw_p6 : lw_okq (⟨"PennantRopes$Rope", "lowestPhase", "(II)I"⟩, 4) := ⟨⟨by decide +kernel, by decide +kernel⟩, List.mem_of_getElem? (i := 31) (by decide +kernel), List.mem_of_getElem? (i := 322) (by decide +kernel), List.mem_of_getElem? (i := 323) (by decide +kernel)⟩
theorem lw_p7 : lw_okq (⟨"PennantRopes", "fillingHue", "(LPennantRopes$Rope;)I"⟩, 6) := ⟨⟨by decide +kernel, by decide +kernel⟩, List.mem_of_getElem? (i := 16) (by decide +kernel), List.mem_of_getElem? (i := 334) (by decide +kernel), List.mem_of_getElem? (i := 335) (by decide +kernel)⟩
theorem lw_p8 : lw_okq (⟨"PennantRopes", "greatestLength", "(LPennantRopes$Rope;)I"⟩, 6) := ⟨⟨by decide +kernel, by decide +kernel⟩, List.mem_of_getElem? (i := 16) (by decide +kernel), List.mem_of_getElem? (i := 340) (by decide +kernel), List.mem_of_getElem? (i := 341) (by decide +kernel)⟩
theorem lw_p9 : lw_okq (⟨"PennantRopes", "huesDueAt", "(LPennantRopes$Rope;I)I"⟩, 6) := ⟨⟨by decide +kernel, by decide +kernel⟩, List.mem_of_getElem? (i := 16) (by decide +kernel), List.mem_of_getElem? (i := 344) (by decide +kernel), List.mem_of_getElem? (i := 345) (by decide +kernel)⟩
theorem lw_p10 : lw_okq (⟨"PennantRopes", "reasonAgainstJoining", "(LPennantRopes$Rope;LPennantRopes$Rope;)I"⟩, 6) := ⟨⟨by decide +kernel, by decide +kernel⟩, List.mem_of_getElem? (i := 16) (by decide +kernel), List.mem_of_getElem? (i := 351) (by decide +kernel), List.mem_of_getElem? (i := 352) (by decide +kernel)⟩
theorem lw_p11 : lw_okq (⟨"PennantRopes", "draftJoined", "(LPennantRopes$Rope;LPennantRopes$Rope;)Z"⟩, 6) := ⟨⟨by decide +kernel, by decide +kernel⟩, List.mem_of_getElem? (i := 16) (by decide +kernel), List.mem_of_getElem? (i := 357) (by decide +kernel), List.mem_of_getElem? (i := 358) (by decide +kernel)⟩
theorem lw_p12 : lw_okq (⟨"PennantRopes", "draftLaid", "(II)Z"⟩, 6) := ⟨⟨by decide +kernel, by decide +kernel⟩, List.mem_of_getElem? (i := 16) (by decide +kernel), List.mem_of_getElem? (i := 368) (by decide +kernel), List.mem_of_getElem? (i := 369) (by decide +kernel)⟩
theorem lw_p13 : lw_okq (⟨"PennantRopes$Rope", "setColour", "(II)V"⟩, 4) := ⟨⟨by decide +kernel, by decide +kernel⟩, List.mem_of_getElem? (i := 31) (by decide +kernel), List.mem_of_getElem? (i := 377) (by decide +kernel), List.mem_of_getElem? (i := 378) (by decide +kernel)⟩
theorem lw_p14 : lw_okq (⟨"PennantRopes", "requireHue", "(I)V"⟩, 6) := ⟨⟨by decide +kernel, by decide +kernel⟩, List.mem_of_getElem? (i := 16) (by decide +kernel), List.mem_of_getElem? (i := 403) (by decide +kernel), List.mem_of_getElem? (i := 404) (by decide +kernel)⟩
theorem lw_p15 : lw_okq (⟨"java/lang/Throwable", "fillInStackTrace", "(I)Ljava/lang/Throwable;"⟩, 6) := ⟨⟨by decide +kernel, by decide +kernel⟩, List.mem_of_getElem? (i := 445) (by decide +kernel), List.mem_of_getElem? (i := 443) (by decide +kernel), List.mem_of_getElem? (i := 444) (by decide +kernel)⟩
def lw_privs_1 : List (MethodName × Nat) := [(⟨"PennantRopes", "counted", "(I)I"⟩, 6), (⟨"PennantRopes", "ropeMixed", "(JI)J"⟩, 6), (⟨"PennantRopes", "ropeNumber", "(LPennantRopes$Rope;I)I"⟩, 6), (⟨"PennantRopes", "period", "(LPennantRopes$Rope;)I"⟩, 6), (⟨"PennantRopes", "hueMixed", "(JLPennantRopes$Rope;I)J"⟩, 6), (⟨"PennantRopes$Rope", "fittingPhases", "(II)I"⟩, 4), (⟨"PennantRopes$Rope", "lowestPhase", "(II)I"⟩, 4), (⟨"PennantRopes", "fillingHue", "(LPennantRopes$Rope;)I"⟩, 6), (⟨"PennantRopes", "greatestLength", "(LPennantRopes$Rope;)I"⟩, 6), (⟨"PennantRopes", "huesDueAt", "(LPennantRopes$Rope;I)I"⟩, 6), (⟨"PennantRopes", "reasonAgainstJoining", "(LPennantRopes$Rope;LPennantRopes$Rope;)I"⟩, 6), (⟨"PennantRopes", "draftJoined", "(LPennantRopes$Rope;LPennantRopes$Rope;)Z"⟩, 6), (⟨"PennantRopes", "draftLaid", "(II)Z"⟩, 6), (⟨"PennantRopes$Rope", "setColour", "(II)V"⟩, 4), (⟨"PennantRopes", "requireHue", "(I)V"⟩, 6), (⟨"java/lang/Throwable", "fillInStackTrace", "(I)Ljava/lang/Throwable;"⟩, 6)]
theorem lw_r1 : ∀ q ∈ lw_privs_1, lw_okq q := List.forall_mem_cons.mpr ⟨lw_p0, List.forall_mem_cons.mpr ⟨lw_p1, List.forall_mem_cons.mpr ⟨lw_p2, List.forall_mem_cons.mpr ⟨lw_p3, List.forall_mem_cons.mpr ⟨lw_p4, List.forall_mem_cons.mpr ⟨lw_p5, List.forall_mem_cons.mpr ⟨lw_p6, List.forall_mem_cons.mpr ⟨lw_p7, List.forall_mem_cons.mpr ⟨lw_p8, List.forall_mem_cons.mpr ⟨lw_p9, List.forall_mem_cons.mpr ⟨lw_p10, List.forall_mem_cons.mpr ⟨lw_p11, List.forall_mem_cons.mpr ⟨lw_p12, List.forall_mem_cons.mpr ⟨lw_p13, List.forall_mem_cons.mpr ⟨lw_p14, List.forall_mem_cons.mpr ⟨lw_p15, fun _ h => absurd h List.not_mem_nil⟩⟩⟩⟩⟩⟩⟩⟩⟩⟩⟩⟩⟩⟩⟩⟩
theorem lw_p16 : lw_okq (⟨"PennantRopes$History", "dropOldest", "()V"⟩, 2) := ⟨⟨by decide +kernel, by decide +kernel⟩, List.mem_of_getElem? (i := 70) (by decide +kernel), List.mem_of_getElem? (i := 512) (by decide +kernel), List.mem_of_getElem? (i := 513) (by decide +kernel)⟩
theorem lw_p17 : lw_okq (⟨"PennantRopes$History", "rowAt", "(I)LPennantRopes$State;"⟩, 2) := ⟨⟨by decide +kernel, by decide +kernel⟩, List.mem_of_getElem? (i := 70) (by decide +kernel), List.mem_of_getElem? (i := 516) (by decide +kernel), List.mem_of_getElem? (i := 517) (by decide +kernel)⟩
theorem lw_p18 : lw_okq (⟨"PennantRopes", "requireLength", "(I)V"⟩, 6) := ⟨⟨by decide +kernel, by decide +kernel⟩, List.mem_of_getElem? (i := 16) (by decide +kernel), List.mem_of_getElem? (i := 532) (by decide +kernel), List.mem_of_getElem? (i := 533) (by decide +kernel)⟩
theorem lw_p19 : lw_okq (⟨"PennantRopes", "requireRoomForRope", "()V"⟩, 6) := ⟨⟨by decide +kernel, by decide +kernel⟩, List.mem_of_getElem? (i := 16) (by decide +kernel), List.mem_of_getElem? (i := 537) (by decide +kernel), List.mem_of_getElem? (i := 538) (by decide +kernel)⟩
theorem lw_p20 : lw_okq (⟨"PennantRopes", "existing", "(I)LPennantRopes$Rope;"⟩, 6) := ⟨⟨by decide +kernel, by decide +kernel⟩, List.mem_of_getElem? (i := 16) (by decide +kernel), List.mem_of_getElem? (i := 554) (by decide +kernel), List.mem_of_getElem? (i := 555) (by decide +kernel)⟩
theorem lw_p21 : lw_okq (⟨"PennantRopes", "requirePhase", "(II)V"⟩, 6) := ⟨⟨by decide +kernel, by decide +kernel⟩, List.mem_of_getElem? (i := 16) (by decide +kernel), List.mem_of_getElem? (i := 570) (by decide +kernel), List.mem_of_getElem? (i := 571) (by decide +kernel)⟩
theorem lw_p22 : lw_okq (⟨"PennantRopes", "changeLength", "(LPennantRopes$Rope;I)V"⟩, 6) := ⟨⟨by decide +kernel, by decide +kernel⟩, List.mem_of_getElem? (i := 16) (by decide +kernel), List.mem_of_getElem? (i := 602) (by decide +kernel), List.mem_of_getElem? (i := 603) (by decide +kernel)⟩
theorem lw_p23 : lw_okq (⟨"PennantRopes", "layBack", "(LPennantRopes$Rope;ILPennantRopes$Rope;)V"⟩, 6) := ⟨⟨by decide +kernel, by decide +kernel⟩, List.mem_of_getElem? (i := 16) (by decide +kernel), List.mem_of_getElem? (i := 615) (by decide +kernel), List.mem_of_getElem? (i := 616) (by decide +kernel)⟩
theorem lw_p24 : lw_okq (⟨"PennantRopes", "turnRound", "(LPennantRopes$Rope;)I"⟩, 6) := ⟨⟨by decide +kernel, by decide +kernel⟩, List.mem_of_getElem? (i := 16) (by decide +kernel), List.mem_of_getElem? (i := 630) (by decide +kernel), List.mem_of_getElem? (i := 631) (by decide +kernel)⟩
theorem lw_p25 : lw_okq (⟨"PennantRopes", "playPart", "(II)Z"⟩, 6) := ⟨⟨by decide +kernel, by decide +kernel⟩, List.mem_of_getElem? (i := 16) (by decide +kernel), List.mem_of_getElem? (i := 683) (by decide +kernel), List.mem_of_getElem? (i := 684) (by decide +kernel)⟩
theorem lw_p26 : lw_okq (⟨"PennantRopes", "playLaying", "(LPennantRopes$Rope;II)Z"⟩, 6) := ⟨⟨by decide +kernel, by decide +kernel⟩, List.mem_of_getElem? (i := 16) (by decide +kernel), List.mem_of_getElem? (i := 691) (by decide +kernel), List.mem_of_getElem? (i := 692) (by decide +kernel)⟩
theorem lw_p27 : lw_okq (⟨"PennantRopes", "requireWhat", "(II)V"⟩, 6) := ⟨⟨by decide +kernel, by decide +kernel⟩, List.mem_of_getElem? (i := 16) (by decide +kernel), List.mem_of_getElem? (i := 730) (by decide +kernel), List.mem_of_getElem? (i := 731) (by decide +kernel)⟩
theorem lw_p28 : lw_okq (⟨"PennantRopesModel", "isLaidAnywhere", "(I)Z"⟩, 16) := ⟨⟨by decide +kernel, by decide +kernel⟩, List.mem_of_getElem? (i := 808) (by decide +kernel), List.mem_of_getElem? (i := 877) (by decide +kernel), List.mem_of_getElem? (i := 878) (by decide +kernel)⟩
theorem lw_p29 : lw_okq (⟨"PennantRopesModel", "isLaid", "(II)Z"⟩, 16) := ⟨⟨by decide +kernel, by decide +kernel⟩, List.mem_of_getElem? (i := 808) (by decide +kernel), List.mem_of_getElem? (i := 881) (by decide +kernel), List.mem_of_getElem? (i := 882) (by decide +kernel)⟩
theorem lw_p30 : lw_okq (⟨"PennantRopesModel", "phaseOf", "(II)I"⟩, 16) := ⟨⟨by decide +kernel, by decide +kernel⟩, List.mem_of_getElem? (i := 808) (by decide +kernel), List.mem_of_getElem? (i := 885) (by decide +kernel), List.mem_of_getElem? (i := 886) (by decide +kernel)⟩
theorem lw_p31 : lw_okq (⟨"PennantRopesModel", "holds", "(I)Z"⟩, 16) := ⟨⟨by decide +kernel, by decide +kernel⟩, List.mem_of_getElem? (i := 808) (by decide +kernel), List.mem_of_getElem? (i := 892) (by decide +kernel), List.mem_of_getElem? (i := 893) (by decide +kernel)⟩
def lw_privs_2 : List (MethodName × Nat) := [(⟨"PennantRopes$History", "dropOldest", "()V"⟩, 2), (⟨"PennantRopes$History", "rowAt", "(I)LPennantRopes$State;"⟩, 2), (⟨"PennantRopes", "requireLength", "(I)V"⟩, 6), (⟨"PennantRopes", "requireRoomForRope", "()V"⟩, 6), (⟨"PennantRopes", "existing", "(I)LPennantRopes$Rope;"⟩, 6), (⟨"PennantRopes", "requirePhase", "(II)V"⟩, 6), (⟨"PennantRopes", "changeLength", "(LPennantRopes$Rope;I)V"⟩, 6), (⟨"PennantRopes", "layBack", "(LPennantRopes$Rope;ILPennantRopes$Rope;)V"⟩, 6), (⟨"PennantRopes", "turnRound", "(LPennantRopes$Rope;)I"⟩, 6), (⟨"PennantRopes", "playPart", "(II)Z"⟩, 6), (⟨"PennantRopes", "playLaying", "(LPennantRopes$Rope;II)Z"⟩, 6), (⟨"PennantRopes", "requireWhat", "(II)V"⟩, 6), (⟨"PennantRopesModel", "isLaidAnywhere", "(I)Z"⟩, 16), (⟨"PennantRopesModel", "isLaid", "(II)Z"⟩, 16), (⟨"PennantRopesModel", "phaseOf", "(II)I"⟩, 16), (⟨"PennantRopesModel", "holds", "(I)Z"⟩, 16)]
theorem lw_r2 : ∀ q ∈ lw_privs_2, lw_okq q := List.forall_mem_cons.mpr ⟨lw_p16, List.forall_mem_cons.mpr ⟨lw_p17, List.forall_mem_cons.mpr ⟨lw_p18, List.forall_mem_cons.mpr ⟨lw_p19, List.forall_mem_cons.mpr ⟨lw_p20, List.forall_mem_cons.mpr ⟨lw_p21, List.forall_mem_cons.mpr ⟨lw_p22, List.forall_mem_cons.mpr ⟨lw_p23, List.forall_mem_cons.mpr ⟨lw_p24, List.forall_mem_cons.mpr ⟨lw_p25, List.forall_mem_cons.mpr ⟨lw_p26, List.forall_mem_cons.mpr ⟨lw_p27, List.forall_mem_cons.mpr ⟨lw_p28, List.forall_mem_cons.mpr ⟨lw_p29, List.forall_mem_cons.mpr ⟨lw_p30, List.forall_mem_cons.mpr ⟨lw_p31, fun _ h => absurd h List.not_mem_nil⟩⟩⟩⟩⟩⟩⟩⟩⟩⟩⟩⟩⟩⟩⟩⟩
theorem lw_p32 : lw_okq (⟨"PennantRopesModel", "save", "()V"⟩, 16) := ⟨⟨by decide +kernel, by decide +kernel⟩, List.mem_of_getElem? (i := 808) (by decide +kernel), List.mem_of_getElem? (i := 896) (by decide +kernel), List.mem_of_getElem? (i := 897) (by decide +kernel)⟩
theorem lw_p33 : lw_okq (⟨"PennantRopesModel", "adds", "(I)V"⟩, 16) := ⟨⟨by decide +kernel, by decide +kernel⟩, List.mem_of_getElem? (i := 808) (by decide +kernel), List.mem_of_getElem? (i := 904) (by decide +kernel), List.mem_of_getElem? (i := 905) (by decide +kernel)⟩
theorem lw_p34 : lw_okq (⟨"PennantRopesModel", "clears", "(II)V"⟩, 16) := ⟨⟨by decide +kernel, by decide +kernel⟩, List.mem_of_getElem? (i := 808) (by decide +kernel), List.mem_of_getElem? (i := 908) (by decide +kernel), List.mem_of_getElem? (i := 909) (by decide +kernel)⟩
theorem lw_p35 : lw_okq (⟨"PennantRopesModel", "isRope", "(I)Z"⟩, 16) := ⟨⟨by decide +kernel, by decide +kernel⟩, List.mem_of_getElem? (i := 808) (by decide +kernel), List.mem_of_getElem? (i := 916) (by decide +kernel), List.mem_of_getElem? (i := 917) (by decide +kernel)⟩
theorem lw_p36 : lw_okq (⟨"PennantRopesModel", "drops", "(I)V"⟩, 16) := ⟨⟨by decide +kernel, by decide +kernel⟩, List.mem_of_getElem? (i := 808) (by decide +kernel), List.mem_of_getElem? (i := 920) (by decide +kernel), List.mem_of_getElem? (i := 921) (by decide +kernel)⟩
theorem lw_p37 : lw_okq (⟨"PennantRopesModel", "areThere", "(II)Z"⟩, 16) := ⟨⟨by decide +kernel, by decide +kernel⟩, List.mem_of_getElem? (i := 808) (by decide +kernel), List.mem_of_getElem? (i := 928) (by decide +kernel), List.mem_of_getElem? (i := 929) (by decide +kernel)⟩
theorem lw_p38 : lw_okq (⟨"PennantRopesModel", "isPhase", "(II)Z"⟩, 16) := ⟨⟨by decide +kernel, by decide +kernel⟩, List.mem_of_getElem? (i := 808) (by decide +kernel), List.mem_of_getElem? (i := 932) (by decide +kernel), List.mem_of_getElem? (i := 933) (by decide +kernel)⟩
theorem lw_p39 : lw_okq (⟨"PennantRopesModel", "why", "(III)I"⟩, 16) := ⟨⟨by decide +kernel, by decide +kernel⟩, List.mem_of_getElem? (i := 808) (by decide +kernel), List.mem_of_getElem? (i := 936) (by decide +kernel), List.mem_of_getElem? (i := 937) (by decide +kernel)⟩
theorem lw_p40 : lw_okq (⟨"PennantRopesModel", "hueAt", "(II)I"⟩, 16) := ⟨⟨by decide +kernel, by decide +kernel⟩, List.mem_of_getElem? (i := 808) (by decide +kernel), List.mem_of_getElem? (i := 940) (by decide +kernel), List.mem_of_getElem? (i := 941) (by decide +kernel)⟩
theorem lw_p41 : lw_okq (⟨"PennantRopesModel", "takes", "(III)Z"⟩, 16) := ⟨⟨by decide +kernel, by decide +kernel⟩, List.mem_of_getElem? (i := 808) (by decide +kernel), List.mem_of_getElem? (i := 944) (by decide +kernel), List.mem_of_getElem? (i := 945) (by decide +kernel)⟩
theorem lw_p42 : lw_okq (⟨"PennantRopesModel", "lays", "(III)V"⟩, 16) := ⟨⟨by decide +kernel, by decide +kernel⟩, List.mem_of_getElem? (i := 808) (by decide +kernel), List.mem_of_getElem? (i := 948) (by decide +kernel), List.mem_of_getElem? (i := 949) (by decide +kernel)⟩
theorem lw_p43 : lw_okq (⟨"PennantRopesModel", "placesOf", "(II)I"⟩, 16) := ⟨⟨by decide +kernel, by decide +kernel⟩, List.mem_of_getElem? (i := 808) (by decide +kernel), List.mem_of_getElem? (i := 952) (by decide +kernel), List.mem_of_getElem? (i := 953) (by decide +kernel)⟩
theorem lw_p44 : lw_okq (⟨"PennantRopesModel", "takesOff", "(II)V"⟩, 16) := ⟨⟨by decide +kernel, by decide +kernel⟩, List.mem_of_getElem? (i := 808) (by decide +kernel), List.mem_of_getElem? (i := 960) (by decide +kernel), List.mem_of_getElem? (i := 961) (by decide +kernel)⟩
theorem lw_p45 : lw_okq (⟨"PennantRopesModel", "remembers", "(I)V"⟩, 16) := ⟨⟨by decide +kernel, by decide +kernel⟩, List.mem_of_getElem? (i := 808) (by decide +kernel), List.mem_of_getElem? (i := 964) (by decide +kernel), List.mem_of_getElem? (i := 965) (by decide +kernel)⟩
theorem lw_p46 : lw_okq (⟨"PennantRopesModel", "clash", "(I)I"⟩, 16) := ⟨⟨by decide +kernel, by decide +kernel⟩, List.mem_of_getElem? (i := 808) (by decide +kernel), List.mem_of_getElem? (i := 972) (by decide +kernel), List.mem_of_getElem? (i := 973) (by decide +kernel)⟩
theorem lw_p47 : lw_okq (⟨"PennantRopesModel", "takers", "(II)I"⟩, 16) := ⟨⟨by decide +kernel, by decide +kernel⟩, List.mem_of_getElem? (i := 808) (by decide +kernel), List.mem_of_getElem? (i := 976) (by decide +kernel), List.mem_of_getElem? (i := 977) (by decide +kernel)⟩
def lw_privs_3 : List (MethodName × Nat) := [(⟨"PennantRopesModel", "save", "()V"⟩, 16), (⟨"PennantRopesModel", "adds", "(I)V"⟩, 16), (⟨"PennantRopesModel", "clears", "(II)V"⟩, 16), (⟨"PennantRopesModel", "isRope", "(I)Z"⟩, 16), (⟨"PennantRopesModel", "drops", "(I)V"⟩, 16), (⟨"PennantRopesModel", "areThere", "(II)Z"⟩, 16), (⟨"PennantRopesModel", "isPhase", "(II)Z"⟩, 16), (⟨"PennantRopesModel", "why", "(III)I"⟩, 16), (⟨"PennantRopesModel", "hueAt", "(II)I"⟩, 16), (⟨"PennantRopesModel", "takes", "(III)Z"⟩, 16), (⟨"PennantRopesModel", "lays", "(III)V"⟩, 16), (⟨"PennantRopesModel", "placesOf", "(II)I"⟩, 16), (⟨"PennantRopesModel", "takesOff", "(II)V"⟩, 16), (⟨"PennantRopesModel", "remembers", "(I)V"⟩, 16), (⟨"PennantRopesModel", "clash", "(I)I"⟩, 16), (⟨"PennantRopesModel", "takers", "(II)I"⟩, 16)]
theorem lw_r3 : ∀ q ∈ lw_privs_3, lw_okq q := List.forall_mem_cons.mpr ⟨lw_p32, List.forall_mem_cons.mpr ⟨lw_p33, List.forall_mem_cons.mpr ⟨lw_p34, List.forall_mem_cons.mpr ⟨lw_p35, List.forall_mem_cons.mpr ⟨lw_p36, List.forall_mem_cons.mpr ⟨lw_p37, List.forall_mem_cons.mpr ⟨lw_p38, List.forall_mem_cons.mpr ⟨lw_p39, List.forall_mem_cons.mpr ⟨lw_p40, List.forall_mem_cons.mpr ⟨lw_p41, List.forall_mem_cons.mpr ⟨lw_p42, List.forall_mem_cons.mpr ⟨lw_p43, List.forall_mem_cons.mpr ⟨lw_p44, List.forall_mem_cons.mpr ⟨lw_p45, List.forall_mem_cons.mpr ⟨lw_p46, List.forall_mem_cons.mpr ⟨lw_p47, fun _ h => absurd h List.not_mem_nil⟩⟩⟩⟩⟩⟩⟩⟩⟩⟩⟩⟩⟩⟩⟩⟩
theorem lw_p48 : lw_okq (⟨"PennantRopesModel", "laysFrom", "(II)V"⟩, 16) := ⟨⟨by decide +kernel, by decide +kernel⟩, List.mem_of_getElem? (i := 808) (by decide +kernel), List.mem_of_getElem? (i := 980) (by decide +kernel), List.mem_of_getElem? (i := 981) (by decide +kernel)⟩
theorem lw_p49 : lw_okq (⟨"PennantRopesModel", "unlikeTurned", "(I)I"⟩, 16) := ⟨⟨by decide +kernel, by decide +kernel⟩, List.mem_of_getElem? (i := 808) (by decide +kernel), List.mem_of_getElem? (i := 992) (by decide +kernel), List.mem_of_getElem? (i := 993) (by decide +kernel)⟩
theorem lw_p50 : lw_okq (⟨"PennantRopesModel", "turns", "(I)V"⟩, 16) := ⟨⟨by decide +kernel, by decide +kernel⟩, List.mem_of_getElem? (i := 808) (by decide +kernel), List.mem_of_getElem? (i := 996) (by decide +kernel), List.mem_of_getElem? (i := 997) (by decide +kernel)⟩
theorem lw_p51 : lw_okq (⟨"PennantRopesModel", "lastOf", "(II)I"⟩, 16) := ⟨⟨by decide +kernel, by decide +kernel⟩, List.mem_of_getElem? (i := 808) (by decide +kernel), List.mem_of_getElem? (i := 1000) (by decide +kernel), List.mem_of_getElem? (i := 1001) (by decide +kernel)⟩
theorem lw_p52 : lw_okq (⟨"PennantRopesModel", "whyNotJoined", "(II)I"⟩, 16) := ⟨⟨by decide +kernel, by decide +kernel⟩, List.mem_of_getElem? (i := 808) (by decide +kernel), List.mem_of_getElem? (i := 1008) (by decide +kernel), List.mem_of_getElem? (i := 1009) (by decide +kernel)⟩
theorem lw_p53 : lw_okq (⟨"PennantRopesModel", "phaseBehind", "(III)I"⟩, 16) := ⟨⟨by decide +kernel, by decide +kernel⟩, List.mem_of_getElem? (i := 808) (by decide +kernel), List.mem_of_getElem? (i := 1012) (by decide +kernel), List.mem_of_getElem? (i := 1013) (by decide +kernel)⟩
theorem lw_p54 : lw_okq (⟨"PennantRopesModel", "putAside", "()V"⟩, 16) := ⟨⟨by decide +kernel, by decide +kernel⟩, List.mem_of_getElem? (i := 808) (by decide +kernel), List.mem_of_getElem? (i := 1016) (by decide +kernel), List.mem_of_getElem? (i := 1017) (by decide +kernel)⟩
theorem lw_p55 : lw_okq (⟨"PennantRopesModel", "joinsWith", "(II)V"⟩, 16) := ⟨⟨by decide +kernel, by decide +kernel⟩, List.mem_of_getElem? (i := 808) (by decide +kernel), List.mem_of_getElem? (i := 1020) (by decide +kernel), List.mem_of_getElem? (i := 1021) (by decide +kernel)⟩
theorem lw_p56 : lw_okq (⟨"PennantRopesModel", "putBack", "()V"⟩, 16) := ⟨⟨by decide +kernel, by decide +kernel⟩, List.mem_of_getElem? (i := 808) (by decide +kernel), List.mem_of_getElem? (i := 1024) (by decide +kernel), List.mem_of_getElem? (i := 1025) (by decide +kernel)⟩
theorem lw_p57 : lw_okq (⟨"PennantRopesModel", "goes", "(Z)I"⟩, 16) := ⟨⟨by decide +kernel, by decide +kernel⟩, List.mem_of_getElem? (i := 808) (by decide +kernel), List.mem_of_getElem? (i := 1040) (by decide +kernel), List.mem_of_getElem? (i := 1041) (by decide +kernel)⟩
theorem lw_p58 : lw_okq (⟨"PennantRopesModel", "readsPart", "()V"⟩, 16) := ⟨⟨by decide +kernel, by decide +kernel⟩, List.mem_of_getElem? (i := 808) (by decide +kernel), List.mem_of_getElem? (i := 1044) (by decide +kernel), List.mem_of_getElem? (i := 1045) (by decide +kernel)⟩
theorem lw_p59 : lw_okq (⟨"PennantRopesModel", "readsNumber", "(II)I"⟩, 16) := ⟨⟨by decide +kernel, by decide +kernel⟩, List.mem_of_getElem? (i := 808) (by decide +kernel), List.mem_of_getElem? (i := 1048) (by decide +kernel), List.mem_of_getElem? (i := 1049) (by decide +kernel)⟩
theorem lw_p60 : lw_okq (⟨"PennantRopesModel", "reads", "(II)I"⟩, 16) := ⟨⟨by decide +kernel, by decide +kernel⟩, List.mem_of_getElem? (i := 808) (by decide +kernel), List.mem_of_getElem? (i := 1052) (by decide +kernel), List.mem_of_getElem? (i := 1053) (by decide +kernel)⟩
theorem lw_p61 : lw_okq (⟨"PennantRopesModel", "isNext", "(II)Z"⟩, 16) := ⟨⟨by decide +kernel, by decide +kernel⟩, List.mem_of_getElem? (i := 808) (by decide +kernel), List.mem_of_getElem? (i := 1056) (by decide +kernel), List.mem_of_getElem? (i := 1057) (by decide +kernel)⟩
theorem lw_p62 : lw_okq (⟨"PennantRopesModel", "does", "()Z"⟩, 16) := ⟨⟨by decide +kernel, by decide +kernel⟩, List.mem_of_getElem? (i := 808) (by decide +kernel), List.mem_of_getElem? (i := 1060) (by decide +kernel), List.mem_of_getElem? (i := 1061) (by decide +kernel)⟩
theorem lw_p63 : lw_okq (⟨"PennantRopesModel", "toldOfRope", "(II)I"⟩, 16) := ⟨⟨by decide +kernel, by decide +kernel⟩, List.mem_of_getElem? (i := 808) (by decide +kernel), List.mem_of_getElem? (i := 1088) (by decide +kernel), List.mem_of_getElem? (i := 1089) (by decide +kernel)⟩
def lw_privs_4 : List (MethodName × Nat) := [(⟨"PennantRopesModel", "laysFrom", "(II)V"⟩, 16), (⟨"PennantRopesModel", "unlikeTurned", "(I)I"⟩, 16), (⟨"PennantRopesModel", "turns", "(I)V"⟩, 16), (⟨"PennantRopesModel", "lastOf", "(II)I"⟩, 16), (⟨"PennantRopesModel", "whyNotJoined", "(II)I"⟩, 16), (⟨"PennantRopesModel", "phaseBehind", "(III)I"⟩, 16), (⟨"PennantRopesModel", "putAside", "()V"⟩, 16), (⟨"PennantRopesModel", "joinsWith", "(II)V"⟩, 16), (⟨"PennantRopesModel", "putBack", "()V"⟩, 16), (⟨"PennantRopesModel", "goes", "(Z)I"⟩, 16), (⟨"PennantRopesModel", "readsPart", "()V"⟩, 16), (⟨"PennantRopesModel", "readsNumber", "(II)I"⟩, 16), (⟨"PennantRopesModel", "reads", "(II)I"⟩, 16), (⟨"PennantRopesModel", "isNext", "(II)Z"⟩, 16), (⟨"PennantRopesModel", "does", "()Z"⟩, 16), (⟨"PennantRopesModel", "toldOfRope", "(II)I"⟩, 16)]
theorem lw_r4 : ∀ q ∈ lw_privs_4, lw_okq q := List.forall_mem_cons.mpr ⟨lw_p48, List.forall_mem_cons.mpr ⟨lw_p49, List.forall_mem_cons.mpr ⟨lw_p50, List.forall_mem_cons.mpr ⟨lw_p51, List.forall_mem_cons.mpr ⟨lw_p52, List.forall_mem_cons.mpr ⟨lw_p53, List.forall_mem_cons.mpr ⟨lw_p54, List.forall_mem_cons.mpr ⟨lw_p55, List.forall_mem_cons.mpr ⟨lw_p56, List.forall_mem_cons.mpr ⟨lw_p57, List.forall_mem_cons.mpr ⟨lw_p58, List.forall_mem_cons.mpr ⟨lw_p59, List.forall_mem_cons.mpr ⟨lw_p60, List.forall_mem_cons.mpr ⟨lw_p61, List.forall_mem_cons.mpr ⟨lw_p62, List.forall_mem_cons.mpr ⟨lw_p63, fun _ h => absurd h List.not_mem_nil⟩⟩⟩⟩⟩⟩⟩⟩⟩⟩⟩⟩⟩⟩⟩⟩
theorem lw_p64 : lw_okq (⟨"PennantRopesModel", "holes", "(I)I"⟩, 16) := ⟨⟨by decide +kernel, by decide +kernel⟩, List.mem_of_getElem? (i := 808) (by decide +kernel), List.mem_of_getElem? (i := 1092) (by decide +kernel), List.mem_of_getElem? (i := 1093) (by decide +kernel)⟩
theorem lw_p65 : lw_okq (⟨"PennantRopesModel", "firstHole", "(I)I"⟩, 16) := ⟨⟨by decide +kernel, by decide +kernel⟩, List.mem_of_getElem? (i := 808) (by decide +kernel), List.mem_of_getElem? (i := 1096) (by decide +kernel), List.mem_of_getElem? (i := 1097) (by decide +kernel)⟩
theorem lw_p66 : lw_okq (⟨"PennantRopesModel", "holesSideBySide", "(I)I"⟩, 16) := ⟨⟨by decide +kernel, by decide +kernel⟩, List.mem_of_getElem? (i := 808) (by decide +kernel), List.mem_of_getElem? (i := 1100) (by decide +kernel), List.mem_of_getElem? (i := 1101) (by decide +kernel)⟩
theorem lw_p67 : lw_okq (⟨"PennantRopesModel", "period", "(I)I"⟩, 16) := ⟨⟨by decide +kernel, by decide +kernel⟩, List.mem_of_getElem? (i := 808) (by decide +kernel), List.mem_of_getElem? (i := 1104) (by decide +kernel), List.mem_of_getElem? (i := 1105) (by decide +kernel)⟩
theorem lw_p68 : lw_okq (⟨"PennantRopesModel", "toldOfHue", "(III)I"⟩, 16) := ⟨⟨by decide +kernel, by decide +kernel⟩, List.mem_of_getElem? (i := 808) (by decide +kernel), List.mem_of_getElem? (i := 1115) (by decide +kernel), List.mem_of_getElem? (i := 1116) (by decide +kernel)⟩
theorem lw_p69 : lw_okq (⟨"PennantRopesModel", "orderOf", "(II)I"⟩, 16) := ⟨⟨by decide +kernel, by decide +kernel⟩, List.mem_of_getElem? (i := 808) (by decide +kernel), List.mem_of_getElem? (i := 1119) (by decide +kernel), List.mem_of_getElem? (i := 1120) (by decide +kernel)⟩
theorem lw_p70 : lw_okq (⟨"PennantRopesModel", "counted", "(I)I"⟩, 16) := ⟨⟨by decide +kernel, by decide +kernel⟩, List.mem_of_getElem? (i := 808) (by decide +kernel), List.mem_of_getElem? (i := 1131) (by decide +kernel), List.mem_of_getElem? (i := 1132) (by decide +kernel)⟩
theorem lw_p71 : lw_okq (⟨"PennantRopesModel", "sum", "(Z)I"⟩, 16) := ⟨⟨by decide +kernel, by decide +kernel⟩, List.mem_of_getElem? (i := 808) (by decide +kernel), List.mem_of_getElem? (i := 1135) (by decide +kernel), List.mem_of_getElem? (i := 1136) (by decide +kernel)⟩
theorem lw_p72 : lw_okq (⟨"PennantRopesModel", "huesLaid", "()I"⟩, 16) := ⟨⟨by decide +kernel, by decide +kernel⟩, List.mem_of_getElem? (i := 808) (by decide +kernel), List.mem_of_getElem? (i := 1139) (by decide +kernel), List.mem_of_getElem? (i := 1140) (by decide +kernel)⟩
theorem lw_p73 : lw_okq (⟨"PennantRopesModel", "canMeet", "(IIII)Z"⟩, 16) := ⟨⟨by decide +kernel, by decide +kernel⟩, List.mem_of_getElem? (i := 808) (by decide +kernel), List.mem_of_getElem? (i := 1151) (by decide +kernel), List.mem_of_getElem? (i := 1152) (by decide +kernel)⟩
theorem lw_p74 : lw_okq (⟨"PennantRopesModel", "meet", "(IIII)I"⟩, 16) := ⟨⟨by decide +kernel, by decide +kernel⟩, List.mem_of_getElem? (i := 808) (by decide +kernel), List.mem_of_getElem? (i := 1155) (by decide +kernel), List.mem_of_getElem? (i := 1156) (by decide +kernel)⟩
theorem lw_p75 : lw_okq (⟨"PennantRopesModel", "toldOfPhases", "(III)I"⟩, 16) := ⟨⟨by decide +kernel, by decide +kernel⟩, List.mem_of_getElem? (i := 808) (by decide +kernel), List.mem_of_getElem? (i := 1167) (by decide +kernel), List.mem_of_getElem? (i := 1168) (by decide +kernel)⟩
theorem lw_p76 : lw_okq (⟨"PennantRopesModel", "wouldTake", "(III)I"⟩, 16) := ⟨⟨by decide +kernel, by decide +kernel⟩, List.mem_of_getElem? (i := 808) (by decide +kernel), List.mem_of_getElem? (i := 1171) (by decide +kernel), List.mem_of_getElem? (i := 1172) (by decide +kernel)⟩
theorem lw_p77 : lw_okq (⟨"PennantRopesModel", "best", "(I)I"⟩, 16) := ⟨⟨by decide +kernel, by decide +kernel⟩, List.mem_of_getElem? (i := 808) (by decide +kernel), List.mem_of_getElem? (i := 1179) (by decide +kernel), List.mem_of_getElem? (i := 1180) (by decide +kernel)⟩
theorem lw_p78 : lw_okq (⟨"PennantRopesModel", "share", "()D"⟩, 16) := ⟨⟨by decide +kernel, by decide +kernel⟩, List.mem_of_getElem? (i := 808) (by decide +kernel), List.mem_of_getElem? (i := 1195) (by decide +kernel), List.mem_of_getElem? (i := 1196) (by decide +kernel)⟩
theorem lw_p79 : lw_okq (⟨"PennantRopesModel", "digestOne", "(J)V"⟩, 16) := ⟨⟨by decide +kernel, by decide +kernel⟩, List.mem_of_getElem? (i := 808) (by decide +kernel), List.mem_of_getElem? (i := 1204) (by decide +kernel), List.mem_of_getElem? (i := 1205) (by decide +kernel)⟩
def lw_privs_5 : List (MethodName × Nat) := [(⟨"PennantRopesModel", "holes", "(I)I"⟩, 16), (⟨"PennantRopesModel", "firstHole", "(I)I"⟩, 16), (⟨"PennantRopesModel", "holesSideBySide", "(I)I"⟩, 16), (⟨"PennantRopesModel", "period", "(I)I"⟩, 16), (⟨"PennantRopesModel", "toldOfHue", "(III)I"⟩, 16), (⟨"PennantRopesModel", "orderOf", "(II)I"⟩, 16), (⟨"PennantRopesModel", "counted", "(I)I"⟩, 16), (⟨"PennantRopesModel", "sum", "(Z)I"⟩, 16), (⟨"PennantRopesModel", "huesLaid", "()I"⟩, 16), (⟨"PennantRopesModel", "canMeet", "(IIII)Z"⟩, 16), (⟨"PennantRopesModel", "meet", "(IIII)I"⟩, 16), (⟨"PennantRopesModel", "toldOfPhases", "(III)I"⟩, 16), (⟨"PennantRopesModel", "wouldTake", "(III)I"⟩, 16), (⟨"PennantRopesModel", "best", "(I)I"⟩, 16), (⟨"PennantRopesModel", "share", "()D"⟩, 16), (⟨"PennantRopesModel", "digestOne", "(J)V"⟩, 16)]
theorem lw_r5 : ∀ q ∈ lw_privs_5, lw_okq q := List.forall_mem_cons.mpr ⟨lw_p64, List.forall_mem_cons.mpr ⟨lw_p65, List.forall_mem_cons.mpr ⟨lw_p66, List.forall_mem_cons.mpr ⟨lw_p67, List.forall_mem_cons.mpr ⟨lw_p68, List.forall_mem_cons.mpr ⟨lw_p69, List.forall_mem_cons.mpr ⟨lw_p70, List.forall_mem_cons.mpr ⟨lw_p71, List.forall_mem_cons.mpr ⟨lw_p72, List.forall_mem_cons.mpr ⟨lw_p73, List.forall_mem_cons.mpr ⟨lw_p74, List.forall_mem_cons.mpr ⟨lw_p75, List.forall_mem_cons.mpr ⟨lw_p76, List.forall_mem_cons.mpr ⟨lw_p77, List.forall_mem_cons.mpr ⟨lw_p78, List.forall_mem_cons.mpr ⟨lw_p79, fun _ h => absurd h List.not_mem_nil⟩⟩⟩⟩⟩⟩⟩⟩⟩⟩⟩⟩⟩⟩⟩⟩
theorem lw_p80 : lw_okq (⟨"PennantRopesModel", "digestRope", "(I)V"⟩, 16) := ⟨⟨by decide +kernel, by decide +kernel⟩, List.mem_of_getElem? (i := 808) (by decide +kernel), List.mem_of_getElem? (i := 1209) (by decide +kernel), List.mem_of_getElem? (i := 1210) (by decide +kernel)⟩
def lw_privs_6 : List (MethodName × Nat) := [(⟨"PennantRopesModel", "digestRope", "(I)V"⟩, 16)]
theorem lw_r6 : ∀ q ∈ lw_privs_6, lw_okq q := List.forall_mem_cons.mpr ⟨lw_p80, fun _ h => absurd h List.not_mem_nil⟩
def lw_privs : List (MethodName × Nat) := lw_privs_1 ++ (lw_privs_2 ++ (lw_privs_3 ++ (lw_privs_4 ++ (lw_privs_5 ++ (lw_privs_6)))))
def lw_tbl : List Cond := k2_sels lw_privs ++ tables_1
theorem lw_privs_ok : ∀ q ∈ lw_privs, lw_okq q := by
  show ∀ q ∈ lw_privs_1 ++ (lw_privs_2 ++ (lw_privs_3 ++ (lw_privs_4 ++ (lw_privs_5 ++ (lw_privs_6))))), lw_okq q
  exact List.forall_mem_append.mpr ⟨lw_r1, List.forall_mem_append.mpr ⟨lw_r2, List.forall_mem_append.mpr ⟨lw_r3, List.forall_mem_append.mpr ⟨lw_r4, List.forall_mem_append.mpr ⟨lw_r5, lw_r6⟩⟩⟩⟩⟩
/-- the streams that the claim lets the run draw from -/
abbrev lw_cs : List Choice := [Jvm.Choice.named "NaN.bits"]
theorem lw_bits : nanBits ∈ lw_cs := by first | decide | exact List.mem_cons_self | simp [lw_cs, nanBits]
-- ===== end of PART A; then your names; then what follows =====
end
section
/-! ===== BEGIN words of one list among another's, by their places ===== -/
theorem goodIn_r {big : List Cond} (ws : List Cond) (ps : List Nat) (hp : ws = ps.filterMap (fun i => big[i]?)) (h : ws.all goodWord = true) : GoodIn big ws := by
  intro w hw
  have h1 := List.all_eq_true.mp h w hw
  rw [hp] at hw
  obtain ⟨i, -, hi⟩ := List.mem_filterMap.mp hw
  have hm : w ∈ big := by first | exact List.mem_of_getElem? hi | exact List.getElem?_mem hi
  exact ⟨hm, good_of_word h1⟩
theorem goodIn_app {big a b : List Cond} (ha : GoodIn big a) (hb : GoodIn big b) : GoodIn big (a ++ b) := fun w h => (List.mem_append.mp h).elim (ha w) (hb w)
theorem goodIn_ca {big a b : List Cond} {c : Cond} (ha : GoodIn big (c :: a)) (hb : GoodIn big b) : GoodIn big (c :: (a ++ b)) := fun w h => (List.mem_cons.mp h).elim (fun e => ha w (List.mem_cons.mpr (Or.inl e))) (fun h => (List.mem_append.mp h).elim (fun h => ha w (List.mem_cons.mpr (Or.inr h))) (hb w))
theorem goodIn_sub {big ws : List Cond} (hm : ∀ w ∈ ws, w ∈ big) (h : ws.all goodWord = true) : GoodIn big ws := fun w hw => ⟨hm w hw, good_of_word (List.all_eq_true.mp h w hw)⟩
/-! ===== END ===== -/

/-! ===== BEGIN exceptions that leave a method, and their catching by the caller (launches without stack traces) ===== -/
section VXA
/-! The laws vx_back, vx_callV, vx_callS, vx_callSW, vx_throw0, vx_throwS follow proofs of the library, with one case more: JvmDerived/Free/Laws.lean (Back.of_free), Shelf42/LK1.lean (callV, callS), Shelf/KitTraced.lean (throwNew0V, throwNewS). -/
/-- where a method has thrown q: the class by its name, the cell, what was written, the world -/
def vx_T (XC : String → State → State → Prop) (st : State) (q : Addr) (t : State) (mc ms : Nat) (free : Addr → Prop) : Prop :=
  ∃ (E : String) (ce : Cell) (L : List Loc), XC E st t ∧ t.heap[q]? = some ce ∧ ce.vm = .none ∧ st.vm.findClass E = some ce.cls ∧ st.WarmedH t.vm ∧ st.sameButNew ({ t with vm := st.vm } : State) L mc ms ∧ ∀ z ∈ L, free z.base
def vx_Q (Qc : Array Value → State → Outcome → State → Prop) (XC : String → State → State → Prop) (mc ms : Nat) (free : Addr → Prop) : Array Value → State → Outcome → State → Prop := fun a st o t =>
  (Qc a st o t ∧ ∃ L, FrameEnd st o t L mc ms ∧ ∀ q ∈ L, free q.base) ∨ ∃ q, o = .threw q ∧ vx_T XC st q t mc ms free
/-- a callee that returns or throws -/
def vx_Met (l : Launch) (y : MethodName) (ws : List Cond) (rm : Room) (Pc : Array Value → State → Prop) (Qc : Array Value → State → Outcome → State → Prop) (XC : String → State → State → Prop) (mc ms : Nat) (free : Addr → Prop) : Prop :=
  MetFree l y (headSpec ws rm) Pc (fun _ _ _ _ _ => True) (vx_Q Qc XC mc ms free)
def vx_Post (XC : String → State → State → Prop) (mc ms : Nat) (free : Addr → Prop) : Pt → Array Value → Addr → Pt → Prop := fun A a q B =>
  ∃ (g : JFrame) (mk : MethodId) (t : State) (L : List Loc) (E : String) (ce : Cell), B.U.heap = t.heap ∧ B.U.vm = t.vm ∧ XC E (A.U.calling g mk a) t ∧ t.heap[q]? = some ce ∧ ce.vm = .none ∧ A.U.vm.findClass E = some ce.cls ∧ B.locs = A.locs ++ L ∧ (∀ z ∈ L, free z.base) ∧ B.cells = A.cells + mc ∧ B.slots = A.slots + ms
def vx_Back (l : Launch) (R : Room) (p : Program) (e : Env) (below : List Frame) (s : State) (sargs : Array Value) (y : MethodName) (len W9 : Nat)
    (Pre : Pt → Array Value → Prop) (Post : Pt → Array Value → Option Value → Pt → Prop) (PostX : Pt → Array Value → Addr → Pt → Prop) : Prop :=
  ∀ (m : MethodId) (meth : Method) (c : Code) (A : Pt) (g : JFrame) (ig : Instr) (mk : MethodId) (a : Array Value),
    Stand p l e R s m sargs below meth c A.U A.locs A.cells A.slots → g.method = m → g.locals.size = c.maxLocals → decode c.code g.pc = .ok (ig, len) →
    2 * g.monitorRoom + (g.stack.map fun v => v.category).sum ≤ W9 → A.U.methodNamed? y = some mk → Pre A a →
    (∃ (v : Option Value) (B : Pt), Stand p l e R s m sargs below meth c B.U B.locs B.cells B.slots ∧ Post A a v B ∧
      Steps p.tables e below (doInvoke e (A.U.setTop g) [] mk a).1 (B.U.setTop { g with pc := g.pc + len, stack := v.toList ++ g.stack })) ∨
    (∃ (q : Addr) (B : Pt), Stand p l e R s m sargs below meth c B.U B.locs B.cells B.slots ∧ PostX A a q B ∧
      Steps p.tables e below (doInvoke e (A.U.setTop g) [] mk a).1 ((B.U.setTop g).pushFrame (.throwing q)))
section Payer
variable {l : Launch} {R : Room} {p : Program} {e : Env} {below : List Frame} {s : State} {sargs : Array Value} {y : MethodName} {len W9 : Nat}
theorem vx_back {ws : List Cond} {rm : Room} {Pc : Array Value → State → Prop} {Qc : Array Value → State → Outcome → State → Prop} {XC : String → State → State → Prop} {mc ms : Nat} {free : Addr → Prop} {bytes : ByteArray} {maxL : Nat} {ret : Option FieldType}
    (hM : vx_Met l y ws rm Pc Qc XC mc ms free) (hblind : FrameBlind Pc) (hrc : rm.cells = mc) (hrs : rm.slots = ms)
    (hframes : rm.frames + 1 ≤ R.frames) (hlocals : W9 + (maxL + 11) + rm.locals ≤ R.locals)
    (hws : ∀ w ∈ ws, ∀ a' U, s.WarmedH U.vm → w.before a' U = true) (hcode : Cond.code y bytes maxL ret ∈ ws) (hinit : ∀ a' U, s.WarmedH U.vm → (Cond.initialized y.cls).before a' U = true) :
    vx_Back l R p e below s sargs y len W9 (PreOf R mc ms Pc) (PostOf Qc mc ms free) (vx_Post XC mc ms free) := by
  intro m meth c A g ig mk a X hg hsize hdg hW hn hp
  have h1 : (headSpec ws rm).pre.before a A.U = true := atoms_intro fun w hw => hws w hw _ _ X.warmed
  have h2 : (Cond.code y bytes maxL ret).before a A.U = true := hws _ hcode _ _ X.warmed
  have h3 : (Cond.initialized y.cls).before a A.U = true := hinit _ _ X.warmed
  have h4 : A.cells + (headSpec ws rm).room.cells ≤ R.cells := by rw [show (headSpec ws rm).room.cells = mc from hrc]; exact hp.1
  have h5 : A.slots + (headSpec ws rm).room.slots ≤ R.slots := by rw [show (headSpec ws rm).room.slots = ms from hrs]; exact hp.2.1
  have hPc : Pc a (A.U.calling g mk a) := hblind _ _ _ _ hp.2.2
  obtain ⟨U, Ls, c0, s0⟩ := A
  dsimp only [Pt.U, Pt.locs, Pt.cells, Pt.slots] at h1 h2 h3 h4 h5 X hn hPc ⊢
  obtain ⟨methY, cY, hmY, hcY, -, hlY, -, -, -, -⟩ := Cond.code_spec hn h2
  obtain ⟨kY, hkY, -⟩ := className_of_methodNamed hn
  have hinitY : kY.init = .initialized := Cond.initialized_spec (findClass_of_methodNamed hn) hkY h3
  have h : At U g.method c below := by rw [hg]; exact X.here
  have hlocals9 : W9 + (maxL + 11) + (headSpec ws rm).room.locals ≤ R.locals := hlocals
  have happ : (headSpec ws rm).appliesLoose y e.platform (U.calling g mk a) = true :=
    Spec.appliesLoose_calling (g := g) h hdg hn hkY hinitY
      (X.room_calling (g := g) (R' := (headSpec ws rm).room) hsize hmY hcY hframes (by rw [hlY]; omega) h4 h5) h1
  obtain ⟨mid, hmid⟩ := h.above
  have hfr : (U.setTop g).frames = (.java g :: mid) ++ below := by rw [State.frames_setTop' g h.top, hmid]; rfl
  obtain ⟨o, s₂, hsteps, -, hend, hq⟩ := Steps.callFree hM p X.admits X.cas X.clock (acts := []) hfr happ hPc trivial
  have hq' : vx_Q Qc XC mc ms free a (U.calling g mk a) o s₂ := hq
  rw [State.frames_setTop' g h.top] at hend
  obtain ⟨g₀, hg0⟩ := Option.isSome_iff_exists.mp h.top
  obtain ⟨r, hr⟩ := State.topJava?_eq_some.mp hg0
  have hr' : (({ U with heap := s₂.heap, slotsUsed := s₂.slotsUsed } : State).setVm s₂.vm).frames = .java g₀ :: r := hr
  rcases hq' with ⟨hqc, L, hfe, hL⟩ | ⟨q, rfl, E, ce, L, hx, hce, hcv, hcl, hW₂, hsm, hL⟩
  · obtain ⟨⟨v, rfl⟩, hW₂, e2, q2, q3, q4, q5, q6⟩ := id hfe
    have e3 : s₂ = ({ (U.calling g mk a).setFrames s₂.frames with heap := s₂.heap, slotsUsed := s₂.slotsUsed } : State).setVm s₂.vm := by
      have : s₂ = ({ s₂ with vm := (U.calling g mk a).vm } : State).setVm s₂.vm := rfl
      rw [e2] at this
      exact this
    obtain ⟨c₂, i₂, len₂, hc₂, hd₂, hf₂⟩ := hend
    have hW' : U.WarmedH s₂.vm := hW₂
    have hcc : c₂ = c := by
      have h1 : s₂.code? g.method = U.code? g.method := by
        rw [State.code?_eq, State.code?_eq, hW'.alike.method?]
      exact Option.some.inj (hc₂.symm.trans (h1.trans h.code))
    subst hcc
    have hlen : len₂ = len := by rw [hdg] at hd₂; cases hd₂; rfl
    subst hlen
    have hs₂ : s₂ = (({ U with heap := s₂.heap, slotsUsed := s₂.slotsUsed } : State).setVm s₂.vm).setTop { g with pc := g.pc + len₂, stack := v.toList ++ g.stack } := by
      refine e3.trans ?_
      rw [hf₂, State.calling_eq h.top, State.setFrames_setFrames, State.setTop_of_frames _ hr', hr]
      rfl
    have hsame : U.sameButNew ({ U with heap := s₂.heap, slotsUsed := s₂.slotsUsed } : State) L mc ms := by
      refine ⟨?_, q2, q3, q4, q5, q6⟩
      obtain ⟨t, ht, -⟩ := State.frames_cons hr
      show ({ U with heap := s₂.heap, slotsUsed := s₂.slotsUsed } : State) = { U.setFrames U.frames with heap := s₂.heap, slotsUsed := s₂.slotsUsed }
      rw [State.setFrames_self ht]
    subst hg
    refine Or.inl ⟨v, ⟨(({ U with heap := s₂.heap, slotsUsed := s₂.slotsUsed } : State).setVm s₂.vm), Ls ++ L, c0 + mc, s0 + ms⟩,
      ⟨X.admits, X.cas, X.clock, X.frames, X.room, X.hears, X.method, X.code, (X.here.setHeapUsed s₂.heap s₂.slotsUsed).setVm hW'.alike, X.tail, State.WarmedH.trans X.warmed hW', X.limits, X.bytes, X.same.trans (hsame.setVm s.vm)⟩,
      ⟨g, mk, s₂, L, rfl, rfl, hqc, rfl, hL, rfl, rfl⟩, ?_⟩
    show Steps p.tables e below _ ((({ U with heap := s₂.heap, slotsUsed := s₂.slotsUsed } : State).setVm s₂.vm).setTop { g with pc := g.pc + len₂, stack := v.toList ++ g.stack })
    rw [← hs₂]
    exact hsteps
  · obtain ⟨e2, q2, q3, q4, q5, q6⟩ := id hsm
    have e3 : s₂ = ({ (U.calling g mk a).setFrames s₂.frames with heap := s₂.heap, slotsUsed := s₂.slotsUsed } : State).setVm s₂.vm := by
      have : s₂ = ({ s₂ with vm := (U.calling g mk a).vm } : State).setVm s₂.vm := rfl
      rw [e2] at this
      exact this
    have hf₂ : s₂.frames = .throwing q :: .java g :: U.frames.tail := hend
    have hW' : U.WarmedH s₂.vm := hW₂
    have hs₂ : s₂ = ((({ U with heap := s₂.heap, slotsUsed := s₂.slotsUsed } : State).setVm s₂.vm).setTop g).pushFrame (.throwing q) := by
      refine e3.trans ?_
      rw [hf₂, State.calling_eq h.top, State.setFrames_setFrames, State.pushFrame, State.frames_setTop _ hr', State.setTop_of_frames _ hr', State.setFrames_setFrames, hr]
      rfl
    have hsame : U.sameButNew ({ U with heap := s₂.heap, slotsUsed := s₂.slotsUsed } : State) L mc ms := by
      refine ⟨?_, q2, q3, q4, q5, q6⟩
      obtain ⟨t, ht, -⟩ := State.frames_cons hr
      show ({ U with heap := s₂.heap, slotsUsed := s₂.slotsUsed } : State) = { U.setFrames U.frames with heap := s₂.heap, slotsUsed := s₂.slotsUsed }
      rw [State.setFrames_self ht]
    subst hg
    refine Or.inr ⟨q, ⟨(({ U with heap := s₂.heap, slotsUsed := s₂.slotsUsed } : State).setVm s₂.vm), Ls ++ L, c0 + mc, s0 + ms⟩,
      ⟨X.admits, X.cas, X.clock, X.frames, X.room, X.hears, X.method, X.code, (X.here.setHeapUsed s₂.heap s₂.slotsUsed).setVm hW'.alike, X.tail, State.WarmedH.trans X.warmed hW', X.limits, X.bytes, X.same.trans (hsame.setVm s.vm)⟩,
      ⟨g, mk, s₂, L, E, ce, rfl, rfl, hx, hce, hcv, hcl, rfl, hL, rfl, rfl⟩, ?_⟩
    show Steps p.tables e below _ (((({ U with heap := s₂.heap, slotsUsed := s₂.slotsUsed } : State).setVm s₂.vm).setTop g).pushFrame (.throwing q))
    rw [← hs₂]
    exact hsteps
end Payer
section Calls
variable {p : Program} {l : Launch} {e : Env} {R : Room} {s : State} {m : MethodId} {args : Array Value} {below : List Frame} {meth : Method} {c : Code} {T : State} {locs : List Loc} {cells slots : Nat}
theorem vx_callV (X : Stand p l e R s m args below meth c T locs cells slots) (hexec : p.tables.exec = Jvm.exec) {own C : String} {index : Nat} {y : MethodName} {bytes : ByteArray} {maxL : Nat} {ret : Option FieldType}
    (hown : s.vm.findClass own = some m.cls) (hlink : (Cond.methodLink own index y).before args s = true) (hinst : (Cond.instanceMethod y).before args s = true) (hsel : (Cond.selects C y y).before args s = true)
    (hcode : (Cond.code y bytes maxL ret).before args s = true) (hy : y.cls ≠ "java/lang/invoke/MethodHandle" ∧ y.cls ≠ "java/lang/invoke/VarHandle")
    {W9 : Nat} {Pre : Pt → Array Value → Prop} {Post : Pt → Array Value → Option Value → Pt → Prop} {PostX : Pt → Array Value → Addr → Pt → Prop} (hK : vx_Back l R p e below s args y 3 W9 Pre Post PostX)
    {b : Addr} {cellB : Cell} (hcell : T.heap[b]? = some cellB) (hobj : cellB.vm.isStatics = false) (hcls : s.vm.findClass C = some cellB.cls)
    {g : JFrame} (hg : g.method = m) (hsize : g.locals.size = c.maxLocals) {argsL rest : List Value} (hlen : ∀ sig, parseMethodDescriptor y.desc = some sig → argsL.length = sig.parameters.length)
    (hstack : g.stack = argsL.reverse ++ .ref b :: rest) (hW : 2 * g.monitorRoom + (rest.map fun v => v.category).sum ≤ W9) (hdg : decode c.code g.pc = .ok (.invokevirtual index, 3))
    (hpre : ∀ vm₁, s.WarmedH vm₁ → Pre ⟨T.setVm vm₁, locs, cells, slots⟩ (Value.ref b :: argsL).toArray) :
    (∃ (v : Option Value) (vm₁ : Vm) (B : Pt), s.WarmedH vm₁ ∧ Stand p l e R s m args below meth c B.U B.locs B.cells B.slots ∧ Post ⟨T.setVm vm₁, locs, cells, slots⟩ (Value.ref b :: argsL).toArray v B ∧
      ∀ target, Steps p.tables e below (B.U.setTop { g with pc := g.pc + 3, stack := v.toList ++ rest }) target → Steps p.tables e below (T.setTop g) target) ∨
    (∃ (q : Addr) (vm₁ : Vm) (B : Pt), s.WarmedH vm₁ ∧ Stand p l e R s m args below meth c B.U B.locs B.cells B.slots ∧ PostX ⟨T.setVm vm₁, locs, cells, slots⟩ (Value.ref b :: argsL).toArray q B ∧
      Steps p.tables e below (T.setTop g) ((B.U.setTop { g with stack := rest }).pushFrame (.throwing q))) := by
  obtain ⟨mk, methM, hnamed, hmethM, hstM, habM⟩ := Cond.instanceMethod_spec hinst
  obtain ⟨methM', cM, hmethM', -, -, -, -, -, -, hsigM⟩ := Cond.code_spec hnamed hcode
  cases hmethM.symm.trans hmethM'
  obtain ⟨c2, r2, m2, q1, q2, q3, q4, kP, hkP, hkPi⟩ := Cond.selects_spec hsel
  cases hcls.symm.trans q1
  cases (State.methodFound?_of_named hnamed hy).symm.trans q2
  cases hnamed.symm.trans q3
  have hselP : selectMethod e.platform s.vm cellB.cls mk = .method mk := by rw [Launch.admits_selectMethod X.admits]; exact q4
  obtain ⟨vm₁, X₁, hstep₁⟩ := X.invokevirtual hexec hown hlink hnamed hmethM hstM hkP hkPi hy (a := b) (cell := cellB) hcell
    (fun z h => by rw [h] at hobj; cases hobj) hselP hmethM habM hkP hkPi (g := g) hg (argsL := argsL) (rest := rest) (hlen _ hsigM) hstack hdg
  rcases hK m meth c ⟨T.setVm vm₁, locs, cells, slots⟩ { g with stack := rest } (.invokevirtual index) mk (Value.ref b :: argsL).toArray X₁ hg hsize hdg hW (X₁.named hnamed) (hpre vm₁ X₁.warmed) with ⟨v, B, X', hpost, hsteps⟩ | ⟨q, B, X', hpost, hsteps⟩
  · exact Or.inl ⟨v, vm₁, B, X₁.warmed, X', hpost, fun target h => hstep₁ _ fun acts => by rw [doInvoke_state]; exact hsteps.trans h⟩
  · exact Or.inr ⟨q, vm₁, B, X₁.warmed, X', hpost, hstep₁ _ fun acts => by rw [doInvoke_state]; exact hsteps⟩
theorem vx_callS (X : Stand p l e R s m args below meth c T locs cells slots) (hexec : p.tables.exec = Jvm.exec) {own : String} {index : Nat} {y : MethodName} {bytes : ByteArray} {maxL : Nat} {ret : Option FieldType}
    (hown : s.vm.findClass own = some m.cls) (hlink : (Cond.methodLink own index y).before args s = true) (hstat : (Cond.static y).before args s = true) (hinit : (Cond.initialized y.cls).before args s = true)
    (hcode : (Cond.code y bytes maxL ret).before args s = true) (hy : y.cls ≠ "java/lang/invoke/MethodHandle" ∧ y.cls ≠ "java/lang/invoke/VarHandle")
    {W9 : Nat} {Pre : Pt → Array Value → Prop} {Post : Pt → Array Value → Option Value → Pt → Prop} {PostX : Pt → Array Value → Addr → Pt → Prop} (hK : vx_Back l R p e below s args y 3 W9 Pre Post PostX)
    {g : JFrame} (hg : g.method = m) (hsize : g.locals.size = c.maxLocals) {argsL rest : List Value} (hlen : ∀ sig, parseMethodDescriptor y.desc = some sig → argsL.length = sig.parameters.length)
    (hstack : g.stack = argsL.reverse ++ rest) (hW : 2 * g.monitorRoom + (rest.map fun v => v.category).sum ≤ W9) (hdg : decode c.code g.pc = .ok (.invokestatic index, 3))
    (hpre : ∀ vm₁, s.WarmedH vm₁ → Pre ⟨T.setVm vm₁, locs, cells, slots⟩ argsL.toArray) :
    (∃ (v : Option Value) (vm₁ : Vm) (B : Pt), s.WarmedH vm₁ ∧ Stand p l e R s m args below meth c B.U B.locs B.cells B.slots ∧ Post ⟨T.setVm vm₁, locs, cells, slots⟩ argsL.toArray v B ∧
      ∀ target, Steps p.tables e below (B.U.setTop { g with pc := g.pc + 3, stack := v.toList ++ rest }) target → Steps p.tables e below (T.setTop g) target) ∨
    (∃ (q : Addr) (vm₁ : Vm) (B : Pt), s.WarmedH vm₁ ∧ Stand p l e R s m args below meth c B.U B.locs B.cells B.slots ∧ PostX ⟨T.setVm vm₁, locs, cells, slots⟩ argsL.toArray q B ∧
      Steps p.tables e below (T.setTop g) ((B.U.setTop { g with stack := rest }).pushFrame (.throwing q))) := by
  obtain ⟨mk, hnamed⟩ := Cond.code_named hcode
  obtain ⟨methM, cM, hmethM, -, -, -, -, -, -, hsigM⟩ := Cond.code_spec hnamed hcode
  have hstatic : methM.isStatic = true := Cond.static_spec hnamed hmethM hstat
  obtain ⟨kP, hkP, -⟩ := className_of_methodNamed hnamed
  have hinitP : kP.init = .initialized := Cond.initialized_spec (findClass_of_methodNamed hnamed) hkP hinit
  obtain ⟨vm₁, X₁, hstep₁⟩ := X.invokestatic hexec hown hlink hnamed hmethM hstatic hkP hinitP hy (g := g) hg (argsL := argsL) (rest := rest) (hlen _ hsigM) hstack hdg
  rcases hK m meth c ⟨T.setVm vm₁, locs, cells, slots⟩ { g with stack := rest } (.invokestatic index) mk argsL.toArray X₁ hg hsize hdg hW (X₁.named hnamed) (hpre vm₁ X₁.warmed) with ⟨v, B, X', hpost, hsteps⟩ | ⟨q, B, X', hpost, hsteps⟩
  · exact Or.inl ⟨v, vm₁, B, X₁.warmed, X', hpost, fun target h => hstep₁ _ fun acts => by rw [doInvoke_state]; exact hsteps.trans h⟩
  · exact Or.inr ⟨q, vm₁, B, X₁.warmed, X', hpost, hstep₁ _ fun acts => by rw [doInvoke_state]; exact hsteps⟩
end Calls
theorem vx_cls {s : State} {T : State} {vm₁ : Vm} {E : String} {k : ClassId} (hW : s.WarmedH vm₁) (h : (T.setVm vm₁).vm.findClass E = some k) : s.vm.findClass E = some k := by
  have h1 : vm₁.findClass E = some k := h
  rw [hW.alike.findClass] at h1
  exact h1
/-- the method's frame g, with q thrown over it -/
def vx_W (p : Program) (l : Launch) (e : Env) (R : Room) (s : State) (m : MethodId) (args : Array Value) (below : List Frame) (meth : Method) (c : Code) (H : Heap) (locs : List Loc) (cells slots : Nat) (Q : State → Prop) (g : JFrame) (q : Addr) : Prop :=
  ∀ T : State, T.heap = H → Stand p l e R s m args below meth c T locs cells slots → ∃ t, Steps p.tables e below ((T.setTop g).pushFrame (.throwing q)) t ∧ Q t
def vx_Run (p : Program) (l : Launch) (e : Env) (R : Room) (s : State) (m : MethodId) (args : Array Value) (below : List Frame) (meth : Method) (c : Code) (H : Heap) (locs : List Loc) (cells slots mc ms : Nat) (g : JFrame) (rest : List Value) (Qa : State → Outcome → State → Prop) (XC : String → State → State → Prop) (free : Addr → Prop) : Prop :=
  ∀ T : State, T.heap = H → Stand p l e R s m args below meth c T locs cells slots →
    (∃ (v : Option Value) (st₀ t T' : State) (L : List Loc), st₀.heap = H ∧ Stand p l e R s m args below meth c T' (locs ++ L) (cells + mc) (slots + ms) ∧ (∀ q ∈ L, free q.base) ∧ T'.heap = t.heap ∧ T'.vm = t.vm ∧ Qa st₀ (.returned v) t ∧
      Goes p e below T g T' { g with pc := g.pc + 3, stack := v.toList ++ rest }) ∨
    (∃ (q : Addr) (st₀ t T' : State) (L : List Loc) (E : String) (ce : Cell), st₀.heap = H ∧ Stand p l e R s m args below meth c T' (locs ++ L) (cells + mc) (slots + ms) ∧ (∀ z ∈ L, free z.base) ∧ T'.heap = t.heap ∧ T'.vm = t.vm ∧ XC E st₀ t ∧ t.heap[q]? = some ce ∧ ce.vm = .none ∧ s.vm.findClass E = some ce.cls ∧
      Steps p.tables e below (T.setTop g) ((T'.setTop { g with stack := rest }).pushFrame (.throwing q)))
def vx_X {S : Type} (px : S → Prop) (B : String → S → State → Prop) (A : Nat → Prop) : String → State → State → Prop := fun E st t => ∃ u : S, px u ∧ B E u t ∧ va_F A st t
section Runs
variable {p : Program} {l : Launch} {e : Env} {R : Room} {s : State} {m : MethodId} {args : Array Value} {below : List Frame} {meth : Method} {c : Code} {H : Heap} {locs : List Loc} {cells slots : Nat}
variable {y : MethodName} {bytes cc : ByteArray} {maxL nL mc ms n index : Nat} {ret : Option FieldType} {ws : List Cond} {rm : Room} {Pc : Array Value → State → Prop} {Qc : Array Value → State → Outcome → State → Prop} {XC : String → State → State → Prop} {free : Addr → Prop} {Ts : List Cond} {own C : String} {b : Addr} {As rest : List Value} {g : JFrame}
theorem vx_callBack (cb : CallB R s args own index y bytes maxL ret ws rm mc ms n) (hM : vx_Met l y ws rm Pc Qc XC mc ms free) (hbl : FrameBlind Pc) : vx_Back l R p e below s args y 3 8 (PreOf R mc ms Pc) (PostOf Qc mc ms free) (vx_Post XC mc ms free) := by
  obtain ⟨hrc, hrs, hfr, hlo, hws, hcw, -, hini, -⟩ := cb
  exact vx_back (bytes := bytes) (maxL := maxL) (ret := ret) hM hbl hrc hrs hfr hlo hws hcw (fun a' U hW => word_at hW (Or.inl (by first | rfl | simp [Cond.onTables, Cond.keeps, Cond.steady])) hini)
theorem vx_runV (S : CallFix p m c cc nL s args Ts own) (hM : vx_Met l y ws rm Pc Qc XC mc ms free) (cw : CallW R s args own C index y bytes maxL ret ws rm mc ms n) (hp : PreV s H C b Pc As)
    (hg : g.method = m) (hn : As.length = n) (hsize : g.locals.size = nL) (hstack : g.stack = As.reverse ++ .ref b :: rest) (hW : 2 * g.monitorRoom + (rest.map fun v => v.category).sum ≤ 8) (hdg : decode cc g.pc = .ok (.invokevirtual index, 3)) (hf : cells + mc ≤ R.cells ∧ slots + ms ≤ R.slots) :
    vx_Run p l e R s m args below meth c H locs cells slots mc ms g rest (Qc (Value.ref b :: As).toArray) XC free := by
  have hK : vx_Back l R p e below s args y 3 8 (PreOf R mc ms Pc) (PostOf Qc mc ms free) (vx_Post XC mc ms free) := vx_callBack cw.1 hM hp.1
  obtain ⟨⟨-, -, -, -, -, -, hcode, -, hy, hlen, hl⟩, hin, hse⟩ := cw
  obtain ⟨hx, hb, hml, ho, -⟩ := S
  obtain ⟨-, ⟨cellB, hcB, hoB, hclB⟩, hPc⟩ := hp
  intro T hT X
  rcases vx_callV X hx (C := C) (bytes := bytes) (maxL := maxL) (ret := ret) ho hl hin hse hcode hy hK (by rw [hT]; exact hcB) hoB hclB hg (hsize.trans hml.symm) (argsL := As) (rest := rest) (fun sig h => hn.trans (hlen sig h)) hstack hW (by rw [hb]; exact hdg)
    (fun vm₁ hW₁ => ⟨hf.1, hf.2, hPc (T.setVm vm₁) hT hW₁⟩) with ⟨v, vm₁, ⟨U', l2, c2, s2⟩, hW₁, X', ⟨g', mk, t, L, e1, e2, hq, h1, hL, h2, h3⟩, st⟩ | ⟨q, vm₁, ⟨U', l2, c2, s2⟩, hW₁, X', ⟨g', mk, t, L, E, ce, e1, e2, hq, hce, hcv, hcl, h1, hL, h2, h3⟩, st⟩
  · dsimp only [Pt.U, Pt.locs, Pt.cells, Pt.slots] at X' e1 e2 h1 h2 h3 st
    subst h1; subst h2; subst h3
    exact Or.inl ⟨v, (T.setVm vm₁).calling g' mk (Value.ref b :: As).toArray, t, U', L, hT, X', hL, e1, e2, hq, st⟩
  · dsimp only [Pt.U, Pt.locs, Pt.cells, Pt.slots] at X' e1 e2 h1 h2 h3 st hcl
    subst h1; subst h2; subst h3
    exact Or.inr ⟨q, (T.setVm vm₁).calling g' mk (Value.ref b :: As).toArray, t, U', L, E, ce, hT, X', hL, e1, e2, hq, hce, hcv, vx_cls hW₁ hcl, st⟩
theorem vx_runS (S : CallFix p m c cc nL s args Ts own) (hM : vx_Met l y ws rm Pc Qc XC mc ms free) (cw : CallB R s args own index y bytes maxL ret ws rm mc ms n ∧ (Cond.static y).before args s = true) (hp : PreS s H Pc As)
    (hg : g.method = m) (hn : As.length = n) (hsize : g.locals.size = nL) (hstack : g.stack = As.reverse ++ rest) (hW : 2 * g.monitorRoom + (rest.map fun v => v.category).sum ≤ 8) (hdg : decode cc g.pc = .ok (.invokestatic index, 3)) (hf : cells + mc ≤ R.cells ∧ slots + ms ≤ R.slots) :
    vx_Run p l e R s m args below meth c H locs cells slots mc ms g rest (Qc As.toArray) XC free := by
  have hK : vx_Back l R p e below s args y 3 8 (PreOf R mc ms Pc) (PostOf Qc mc ms free) (vx_Post XC mc ms free) := vx_callBack cw.1 hM hp.1
  obtain ⟨⟨-, -, -, -, -, -, hcode, hini, hy, hlen, hl⟩, hstt⟩ := cw
  obtain ⟨hx, hb, hml, ho, -⟩ := S
  intro T hT X
  rcases vx_callS X hx (bytes := bytes) (maxL := maxL) (ret := ret) ho hl hstt hini hcode hy hK hg (hsize.trans hml.symm) (argsL := As) (rest := rest) (fun sig h => hn.trans (hlen sig h)) hstack hW (by rw [hb]; exact hdg)
    (fun vm₁ hW₁ => ⟨hf.1, hf.2, hp.2 (T.setVm vm₁) hT hW₁⟩) with ⟨v, vm₁, ⟨U', l2, c2, s2⟩, hW₁, X', ⟨g', mk, t, L, e1, e2, hq, h1, hL, h2, h3⟩, st⟩ | ⟨q, vm₁, ⟨U', l2, c2, s2⟩, hW₁, X', ⟨g', mk, t, L, E, ce, e1, e2, hq, hce, hcv, hcl, h1, hL, h2, h3⟩, st⟩
  · dsimp only [Pt.U, Pt.locs, Pt.cells, Pt.slots] at X' e1 e2 h1 h2 h3 st
    subst h1; subst h2; subst h3
    exact Or.inl ⟨v, (T.setVm vm₁).calling g' mk As.toArray, t, U', L, hT, X', hL, e1, e2, hq, st⟩
  · dsimp only [Pt.U, Pt.locs, Pt.cells, Pt.slots] at X' e1 e2 h1 h2 h3 st hcl
    subst h1; subst h2; subst h3
    exact Or.inr ⟨q, (T.setVm vm₁).calling g' mk As.toArray, t, U', L, E, ce, hT, X', hL, e1, e2, hq, hce, hcv, vx_cls hW₁ hcl, st⟩
end Runs
section Rows
variable {p : Program} {l : Launch} {e : Env} {R : Room} {s : State} {m : MethodId} {args : Array Value} {below : List Frame} {meth : Method} {c : Code} {H : Heap} {locs : List Loc} {cells slots : Nat} {Q : State → Prop}
variable {mc ms : Nat} {free : Addr → Prop} {A0 A1 : Nat → Prop} {H0 : Heap} {a : Array Value} {pc : Nat} {ls : Array Slot} {st0 rest : List Value}
theorem vx_keep {st₀ t T' : State} {L : List Loc} (h0 : st₀.heap = H) (e1 : T'.heap = t.heap) (hS : va_S A0 H0 H locs) (hA : ∀ q, q < H.size → A1 q → A0 q) (hf : ∀ q, free q → A0 q) (hL : ∀ q ∈ L, free q.base) (hF : va_F A1 st₀ t) :
    H.size ≤ T'.heap.size ∧ (∀ q : Nat, q < H.size → ¬ A1 q → T'.heap[q]? = H[q]?) ∧ va_S A0 H0 T'.heap (locs ++ L) := by
  obtain ⟨hz, hk⟩ := hF
  rw [h0] at hz hk
  exact ⟨by rw [e1]; exact hz, fun q h1 h2 => by rw [e1]; exact hk q h1 h2,
    ⟨Nat.le_trans hS.1 (by rw [e1]; exact hz), fun q h1 h2 => by rw [e1, hk q (Nat.lt_of_lt_of_le h1 hS.1) (fun z => h2 (hA q (Nat.lt_of_lt_of_le h1 hS.1) z))]; exact hS.2.1 q h1 h2, fun q hq => by
      rcases List.mem_append.mp hq with h | h
      · exact hS.2.2 q h
      · exact hf _ (hL q h)⟩⟩
theorem vx_calli {S SX : Type} {post : Int32 → S → Prop} {px : SX → Prop} {B : S → State → Prop} {BX : String → SX → State → Prop} {AX : Nat → Prop} (hr : vx_Run p l e R s m args below meth c H locs cells slots mc ms (F0 m pc ls st0) rest (va_Qi post B A1 a) (vx_X px BX AX) free) (hS : va_S A0 H0 H locs) (hA : ∀ q, q < H.size → A1 q → A0 q) (hf : ∀ q, free q → A0 q) (hAX : ∀ q, q < H.size → AX q → A0 q)
    (kx : ∀ (E : String) (ce : Cell) (q9 : Addr) (u : SX) (t : State) (H1 : Heap) (locs1 : List Loc), t.heap = H1 → s.vm.Alike t.vm → px u → BX E u t → H.size ≤ H1.size → (∀ q : Nat, q < H.size → ¬ AX q → H1[q]? = H[q]?) → va_S A0 H0 H1 locs1 → H1[q9]? = some ce → ce.vm = .none → s.vm.findClass E = some ce.cls → vx_W p l e R s m args below meth c H1 locs1 (cells + mc) (slots + ms) Q (F0 m pc ls rest) q9)
    (kk : ∀ (r : Int32) (u : S) (t : State) (H1 : Heap) (locs1 : List Loc), t.heap = H1 → s.vm.Alike t.vm → post r u → B u t → H.size ≤ H1.size → (∀ q : Nat, q < H.size → ¬ A1 q → H1[q]? = H[q]?) → va_S A0 H0 H1 locs1 → W p l e R s m args below meth c H1 locs1 (cells + mc) (slots + ms) Q (F0 m (pc + 3) ls (.int r :: rest))) : W p l e R s m args below meth c H locs cells slots Q (F0 m pc ls st0) := by
  intro T hT X
  rcases hr T hT X with ⟨v, st₀, t, T', L, h0, X', hL, e1, e2, ⟨⟨r, u, hv, hp, hb⟩, hF⟩, st⟩ | ⟨q, st₀, t, T', L, E, ce, h0, X', hL, e1, e2, ⟨u, hp, hb, hF⟩, hce, hcv, hcl, st⟩
  · cases hv
    obtain ⟨k1, k2, k3⟩ := vx_keep h0 e1 hS hA hf hL hF
    obtain ⟨t2, a1, b1⟩ := kk r u t T'.heap (locs ++ L) e1.symm (by rw [← e2]; exact X'.warmed.alike) hp hb k1 k2 k3 T' rfl X'
    exact ⟨t2, st t2 a1, b1⟩
  · obtain ⟨k1, k2, k3⟩ := vx_keep h0 e1 hS hAX hf hL hF
    obtain ⟨t2, a1, b1⟩ := kx E ce q u t T'.heap (locs ++ L) e1.symm (by rw [← e2]; exact X'.warmed.alike) hp hb k1 k2 k3 (by rw [e1]; exact hce) hcv hcl T' rfl X'
    exact ⟨t2, st.trans a1, b1⟩
theorem vx_calll {S SX : Type} {post : Int64 → S → Prop} {px : SX → Prop} {B : S → State → Prop} {BX : String → SX → State → Prop} {AX : Nat → Prop} (hr : vx_Run p l e R s m args below meth c H locs cells slots mc ms (F0 m pc ls st0) rest (va_Ql post B A1 a) (vx_X px BX AX) free) (hS : va_S A0 H0 H locs) (hA : ∀ q, q < H.size → A1 q → A0 q) (hf : ∀ q, free q → A0 q) (hAX : ∀ q, q < H.size → AX q → A0 q)
    (kx : ∀ (E : String) (ce : Cell) (q9 : Addr) (u : SX) (t : State) (H1 : Heap) (locs1 : List Loc), t.heap = H1 → s.vm.Alike t.vm → px u → BX E u t → H.size ≤ H1.size → (∀ q : Nat, q < H.size → ¬ AX q → H1[q]? = H[q]?) → va_S A0 H0 H1 locs1 → H1[q9]? = some ce → ce.vm = .none → s.vm.findClass E = some ce.cls → vx_W p l e R s m args below meth c H1 locs1 (cells + mc) (slots + ms) Q (F0 m pc ls rest) q9)
    (kk : ∀ (r : Int64) (u : S) (t : State) (H1 : Heap) (locs1 : List Loc), t.heap = H1 → s.vm.Alike t.vm → post r u → B u t → H.size ≤ H1.size → (∀ q : Nat, q < H.size → ¬ A1 q → H1[q]? = H[q]?) → va_S A0 H0 H1 locs1 → W p l e R s m args below meth c H1 locs1 (cells + mc) (slots + ms) Q (F0 m (pc + 3) ls (.long r :: rest))) : W p l e R s m args below meth c H locs cells slots Q (F0 m pc ls st0) := by
  intro T hT X
  rcases hr T hT X with ⟨v, st₀, t, T', L, h0, X', hL, e1, e2, ⟨⟨r, u, hv, hp, hb⟩, hF⟩, st⟩ | ⟨q, st₀, t, T', L, E, ce, h0, X', hL, e1, e2, ⟨u, hp, hb, hF⟩, hce, hcv, hcl, st⟩
  · cases hv
    obtain ⟨k1, k2, k3⟩ := vx_keep h0 e1 hS hA hf hL hF
    obtain ⟨t2, a1, b1⟩ := kk r u t T'.heap (locs ++ L) e1.symm (by rw [← e2]; exact X'.warmed.alike) hp hb k1 k2 k3 T' rfl X'
    exact ⟨t2, st t2 a1, b1⟩
  · obtain ⟨k1, k2, k3⟩ := vx_keep h0 e1 hS hAX hf hL hF
    obtain ⟨t2, a1, b1⟩ := kx E ce q u t T'.heap (locs ++ L) e1.symm (by rw [← e2]; exact X'.warmed.alike) hp hb k1 k2 k3 (by rw [e1]; exact hce) hcv hcl T' rfl X'
    exact ⟨t2, st.trans a1, b1⟩
theorem vx_callf {S SX : Type} {post : UInt32 → S → Prop} {px : SX → Prop} {B : S → State → Prop} {BX : String → SX → State → Prop} {AX : Nat → Prop} (hr : vx_Run p l e R s m args below meth c H locs cells slots mc ms (F0 m pc ls st0) rest (va_Qf post B A1 a) (vx_X px BX AX) free) (hS : va_S A0 H0 H locs) (hA : ∀ q, q < H.size → A1 q → A0 q) (hf : ∀ q, free q → A0 q) (hAX : ∀ q, q < H.size → AX q → A0 q)
    (kx : ∀ (E : String) (ce : Cell) (q9 : Addr) (u : SX) (t : State) (H1 : Heap) (locs1 : List Loc), t.heap = H1 → s.vm.Alike t.vm → px u → BX E u t → H.size ≤ H1.size → (∀ q : Nat, q < H.size → ¬ AX q → H1[q]? = H[q]?) → va_S A0 H0 H1 locs1 → H1[q9]? = some ce → ce.vm = .none → s.vm.findClass E = some ce.cls → vx_W p l e R s m args below meth c H1 locs1 (cells + mc) (slots + ms) Q (F0 m pc ls rest) q9)
    (kk : ∀ (r : UInt32) (u : S) (t : State) (H1 : Heap) (locs1 : List Loc), t.heap = H1 → s.vm.Alike t.vm → post r u → B u t → H.size ≤ H1.size → (∀ q : Nat, q < H.size → ¬ A1 q → H1[q]? = H[q]?) → va_S A0 H0 H1 locs1 → W p l e R s m args below meth c H1 locs1 (cells + mc) (slots + ms) Q (F0 m (pc + 3) ls (.float r :: rest))) : W p l e R s m args below meth c H locs cells slots Q (F0 m pc ls st0) := by
  intro T hT X
  rcases hr T hT X with ⟨v, st₀, t, T', L, h0, X', hL, e1, e2, ⟨⟨r, u, hv, hp, hb⟩, hF⟩, st⟩ | ⟨q, st₀, t, T', L, E, ce, h0, X', hL, e1, e2, ⟨u, hp, hb, hF⟩, hce, hcv, hcl, st⟩
  · cases hv
    obtain ⟨k1, k2, k3⟩ := vx_keep h0 e1 hS hA hf hL hF
    obtain ⟨t2, a1, b1⟩ := kk r u t T'.heap (locs ++ L) e1.symm (by rw [← e2]; exact X'.warmed.alike) hp hb k1 k2 k3 T' rfl X'
    exact ⟨t2, st t2 a1, b1⟩
  · obtain ⟨k1, k2, k3⟩ := vx_keep h0 e1 hS hAX hf hL hF
    obtain ⟨t2, a1, b1⟩ := kx E ce q u t T'.heap (locs ++ L) e1.symm (by rw [← e2]; exact X'.warmed.alike) hp hb k1 k2 k3 (by rw [e1]; exact hce) hcv hcl T' rfl X'
    exact ⟨t2, st.trans a1, b1⟩
theorem vx_calld {S SX : Type} {post : UInt64 → S → Prop} {px : SX → Prop} {B : S → State → Prop} {BX : String → SX → State → Prop} {AX : Nat → Prop} (hr : vx_Run p l e R s m args below meth c H locs cells slots mc ms (F0 m pc ls st0) rest (va_Qd post B A1 a) (vx_X px BX AX) free) (hS : va_S A0 H0 H locs) (hA : ∀ q, q < H.size → A1 q → A0 q) (hf : ∀ q, free q → A0 q) (hAX : ∀ q, q < H.size → AX q → A0 q)
    (kx : ∀ (E : String) (ce : Cell) (q9 : Addr) (u : SX) (t : State) (H1 : Heap) (locs1 : List Loc), t.heap = H1 → s.vm.Alike t.vm → px u → BX E u t → H.size ≤ H1.size → (∀ q : Nat, q < H.size → ¬ AX q → H1[q]? = H[q]?) → va_S A0 H0 H1 locs1 → H1[q9]? = some ce → ce.vm = .none → s.vm.findClass E = some ce.cls → vx_W p l e R s m args below meth c H1 locs1 (cells + mc) (slots + ms) Q (F0 m pc ls rest) q9)
    (kk : ∀ (r : UInt64) (u : S) (t : State) (H1 : Heap) (locs1 : List Loc), t.heap = H1 → s.vm.Alike t.vm → post r u → B u t → H.size ≤ H1.size → (∀ q : Nat, q < H.size → ¬ A1 q → H1[q]? = H[q]?) → va_S A0 H0 H1 locs1 → W p l e R s m args below meth c H1 locs1 (cells + mc) (slots + ms) Q (F0 m (pc + 3) ls (.double r :: rest))) : W p l e R s m args below meth c H locs cells slots Q (F0 m pc ls st0) := by
  intro T hT X
  rcases hr T hT X with ⟨v, st₀, t, T', L, h0, X', hL, e1, e2, ⟨⟨r, u, hv, hp, hb⟩, hF⟩, st⟩ | ⟨q, st₀, t, T', L, E, ce, h0, X', hL, e1, e2, ⟨u, hp, hb, hF⟩, hce, hcv, hcl, st⟩
  · cases hv
    obtain ⟨k1, k2, k3⟩ := vx_keep h0 e1 hS hA hf hL hF
    obtain ⟨t2, a1, b1⟩ := kk r u t T'.heap (locs ++ L) e1.symm (by rw [← e2]; exact X'.warmed.alike) hp hb k1 k2 k3 T' rfl X'
    exact ⟨t2, st t2 a1, b1⟩
  · obtain ⟨k1, k2, k3⟩ := vx_keep h0 e1 hS hAX hf hL hF
    obtain ⟨t2, a1, b1⟩ := kx E ce q u t T'.heap (locs ++ L) e1.symm (by rw [← e2]; exact X'.warmed.alike) hp hb k1 k2 k3 (by rw [e1]; exact hce) hcv hcl T' rfl X'
    exact ⟨t2, st.trans a1, b1⟩
theorem vx_callv {S SX : Type} {post : S → Prop} {px : SX → Prop} {B : S → State → Prop} {BX : String → SX → State → Prop} {AX : Nat → Prop} (hr : vx_Run p l e R s m args below meth c H locs cells slots mc ms (F0 m pc ls st0) rest (va_Qv post B A1 a) (vx_X px BX AX) free) (hS : va_S A0 H0 H locs) (hA : ∀ q, q < H.size → A1 q → A0 q) (hf : ∀ q, free q → A0 q) (hAX : ∀ q, q < H.size → AX q → A0 q)
    (kx : ∀ (E : String) (ce : Cell) (q9 : Addr) (u : SX) (t : State) (H1 : Heap) (locs1 : List Loc), t.heap = H1 → s.vm.Alike t.vm → px u → BX E u t → H.size ≤ H1.size → (∀ q : Nat, q < H.size → ¬ AX q → H1[q]? = H[q]?) → va_S A0 H0 H1 locs1 → H1[q9]? = some ce → ce.vm = .none → s.vm.findClass E = some ce.cls → vx_W p l e R s m args below meth c H1 locs1 (cells + mc) (slots + ms) Q (F0 m pc ls rest) q9)
    (kk : ∀ (u : S) (t : State) (H1 : Heap) (locs1 : List Loc), t.heap = H1 → s.vm.Alike t.vm → post u → B u t → H.size ≤ H1.size → (∀ q : Nat, q < H.size → ¬ A1 q → H1[q]? = H[q]?) → va_S A0 H0 H1 locs1 → W p l e R s m args below meth c H1 locs1 (cells + mc) (slots + ms) Q (F0 m (pc + 3) ls (rest))) : W p l e R s m args below meth c H locs cells slots Q (F0 m pc ls st0) := by
  intro T hT X
  rcases hr T hT X with ⟨v, st₀, t, T', L, h0, X', hL, e1, e2, ⟨⟨u, hv, hp, hb⟩, hF⟩, st⟩ | ⟨q, st₀, t, T', L, E, ce, h0, X', hL, e1, e2, ⟨u, hp, hb, hF⟩, hce, hcv, hcl, st⟩
  · cases hv
    obtain ⟨k1, k2, k3⟩ := vx_keep h0 e1 hS hA hf hL hF
    obtain ⟨t2, a1, b1⟩ := kk u t T'.heap (locs ++ L) e1.symm (by rw [← e2]; exact X'.warmed.alike) hp hb k1 k2 k3 T' rfl X'
    exact ⟨t2, st t2 a1, b1⟩
  · obtain ⟨k1, k2, k3⟩ := vx_keep h0 e1 hS hAX hf hL hF
    obtain ⟨t2, a1, b1⟩ := kx E ce q u t T'.heap (locs ++ L) e1.symm (by rw [← e2]; exact X'.warmed.alike) hp hb k1 k2 k3 (by rw [e1]; exact hce) hcv hcl T' rfl X'
    exact ⟨t2, st.trans a1, b1⟩
/-- caught by the row x of this method's table; the rows ahead don't take it -/
theorem vx_catch {own name : String} {E : String} {ce : Cell} {q : Addr} (hown : s.vm.findClass own = some m.cls) (pre : List ExceptionTableEntry) (x : ExceptionTableEntry) (suf : List ExceptionTableEntry) (hsplit : c.exceptionTable.toList = pre ++ x :: suf)
    (hpass : ∀ z ∈ pre, covers z pc = false ∨ (z.catchType ≠ 0 ∧ ∃ nm : String, (Cond.classLink own z.catchType nm).before args s = true ∧ va_Nc E nm s)) (hx : covers x pc = true) (h0 : x.catchType ≠ 0)
    (hlink : (Cond.classLink own x.catchType name).before args s = true) (hcast : (Cond.castable E name).before args s = true) (hcell : H[q]? = some ce) (hv : ce.vm = .none) (hcl : s.vm.findClass E = some ce.cls)
    (kk : W p l e R s m args below meth c H locs cells slots Q (F0 m x.handlerPc ls [.ref q])) : vx_W p l e R s m args below meth c H locs cells slots Q (F0 m pc ls rest) q := by
  intro T hT X
  have hpl : e.platform.magicAccessors = ({} : Platform).magicAccessors := by rw [X.admits.platform]
  obtain ⟨c3, c4, hc3, hc4, hasg⟩ := Cond.castable_spec hcast
  cases Option.some.inj (hc3.symm.trans hcl)
  obtain ⟨c5, hc5, hcl5⟩ := Cond.classLink_spec hown hlink e.platform hpl
  cases Option.some.inj (hc4.symm.trans hc5)
  obtain ⟨vm', X', st⟩ := X.thenCaughtThrough q (g := F0 m pc ls rest) rfl (Steps.refl _) (by rw [hT]; exact hcell) (by rw [hv]; rfl) (by obtain ⟨k9, h9, -⟩ := Vm.findClass_spec hcl; exact ⟨k9, h9⟩) pre x suf hsplit
    (fun z hz => by
      rcases hpass z hz with h | ⟨hz0, nm, hl1, hn1⟩
      · exact Or.inl h
      · obtain ⟨c6, hc6, hcl6⟩ := Cond.classLink_spec hown hl1 e.platform hpl
        obtain ⟨a8, b8, h1, h2, h3⟩ := hn1
        cases Option.some.inj (h1.symm.trans hcl)
        cases Option.some.inj (h2.symm.trans hc6)
        exact Or.inr ⟨hz0, _, hcl6, h3⟩) hx (Or.inr ⟨h0, c4, hcl5, hasg⟩)
  obtain ⟨t, a1, b1⟩ := kk (T.setVm vm') hT X'
  exact ⟨t, st.trans a1, b1⟩
end Rows
section Ends
variable {p : Program} {l : Launch} {e : Env} {R : Room} {s : State} {m : MethodId} {args : Array Value} {below : List Frame} {meth : Method} {c : Code} {H : Heap} {locs : List Loc} {cells slots : Nat} {Q : State → Prop}
variable {mc ms : Nat} {free : Addr → Prop} {A0 A1 : Nat → Prop} {H0 : Heap} {a : Array Value} {ls : Array Slot} {st0 rest : List Value}
variable {Qc : Array Value → State → Outcome → State → Prop} {XC : String → State → State → Prop}
/-- what a body that may throw owes at its end -/
def vx_MQ (below : List Frame) (Qc : Array Value → State → Outcome → State → Prop) (XC : String → State → State → Prop) (a : Array Value) (s : State) (mc ms : Nat) (free : Addr → Prop) : State → Prop := fun t =>
  ∃ o, t.status = .running ∧ Ended t below o ∧ vx_Q Qc XC mc ms free a s o t
theorem vx_ret {g : JFrame} {mc ms : Nat} (k : W p l e R s m args below meth c H locs cells slots (MQ below Qc args s mc ms free) g) : W p l e R s m args below meth c H locs cells slots (vx_MQ below Qc XC args s mc ms free) g := by
  intro T hT X
  obtain ⟨t, a1, o, b1, b2, b3, b4⟩ := k T hT X
  exact ⟨t, a1, o, b1, b2, Or.inl ⟨b3, b4⟩⟩
/-- not caught here: it goes on to the caller -/
theorem vx_widen {g : JFrame} {q : Addr} {k n : Nat} (h1 : cells ≤ k) (h2 : slots ≤ n) (kk : vx_W p l e R s m args below meth c H locs k n Q g q) : vx_W p l e R s m args below meth c H locs cells slots Q g q := fun T hT X => kk T hT (stand_widen X h1 h2)
theorem vx_out {pc : Nat} {E : String} {ce : Cell} {q : Addr} {mc ms : Nat} (hout : ∀ x ∈ c.exceptionTable.toList, covers x pc = false) (hlocks : meth.locks = false) (hcell : H[q]? = some ce) (hv : ce.vm = .none) (hcl : s.vm.findClass E = some ce.cls)
    (hx : ∀ t : State, t.heap = H → s.vm.Alike t.vm → XC E s t) (hf : ∀ z ∈ locs, free z.base) (hc : cells ≤ mc) (hs : slots ≤ ms) :
    vx_W p l e R s m args below meth c H locs cells slots (vx_MQ below Qc XC args s mc ms free) (F0 m pc ls rest) q := by
  intro T hT X
  obtain ⟨st1, hrun, hend, hW, hsm⟩ := X.leaveThrown q (g := F0 m pc ls rest) rfl rfl rfl hout hlocks
  have hcell9 : (T.setFrames (.throwing q :: below)).heap[q]? = some ce := by
    show T.heap[q]? = some ce
    rw [hT]; exact hcell
  exact ⟨_, st1, .threw q, hrun, hend, Or.inr ⟨q, rfl, E, ce, locs, hx _ hT hW.alike, hcell9, hv, hcl, hW, hsm.mono hc hs, hf⟩⟩
theorem vx_frame {U : State} {k n : Nat} (h : s.sameButNew ({ U with vm := s.vm } : State) locs k n) : s.heap.size ≤ U.heap.size ∧ ∀ q : Nat, q < s.heap.size → (∀ z ∈ locs, z.base ≠ q) → U.heap[q]? = s.heap[q]? := by
  obtain ⟨-, h2, -, -, -, h6⟩ := h
  refine ⟨h2, fun q hq hz => ?_⟩
  obtain ⟨c9, e1, e2, e3, e4⟩ := h6 q _ (Array.getElem?_eq_getElem hq)
  have hs : c9.slots = (s.heap[q]).slots := Array.ext_getElem? fun i => e4 i fun hm => hz _ hm rfl
  have h9 : c9 = s.heap[q] := by
    rw [hs] at e2
    exact e2
  have e5 : U.heap[q]? = some c9 := e1
  rw [e5, h9, Array.getElem?_eq_getElem hq]
/-- the words of a throw but the four that speak of the heap -/
def vx_no (w : Cond) : Bool := decide (w ≠ .isRef (.static Bundle.tN "UNASSIGNED_STACK" Bundle.steD)) && decide (w ≠ .isRef (.static Bundle.tN "SUPPRESSED_SENTINEL" Bundle.listD)) && decide (w ≠ .laysStatic Bundle.tN "UNASSIGNED_STACK" Bundle.steD) && decide (w ≠ .laysStatic Bundle.tN "SUPPRESSED_SENTINEL" Bundle.listD)
def vx_at0 (own : String) (ic : Nat) (X : String) (names : List String) : List Cond := (Bundle.ownAtoms0 own ic X names).filter vx_no
def vx_atS (own : String) (ic : Nat) (X : String) (names : List String) : List Cond := (Bundle.ownAtoms own ic X names).filter vx_no
/-- a word that the tables alone decide, or a good one -/
def vx_ot (w : Cond) : Bool := w.onTables || goodWord w
theorem vx_ot_at {args a' : Array Value} {s U : State} {w : Cond} (hW : s.WarmedH U.vm) (hvm : s.vm = U.vm) (hg : vx_ot w = true) (h : w.before args s = true) : w.before a' U = true := by
  simp only [vx_ot, Bool.or_eq_true] at hg
  rcases hg with hg | hg
  · exact va_tabs hg hvm h
  · exact word_at hW (good_of_word hg) h
/-- a list's words: the good ones out of the method's own list, the others by premises of their own -/
theorem vx_hat {args : Array Value} {s : State} {L B : List Cond} (h1 : ∀ w ∈ L.filter goodWord, w.before args s = true) (h2 : ∀ w ∈ L.filter (fun w => !goodWord w), w ∈ B) (h3 : ∀ w ∈ B, w.before args s = true) : ∀ w ∈ L, w.before args s = true := by
  intro w hw
  by_cases g : goodWord w = true
  · exact h1 w (List.mem_filter.mpr ⟨hw, g⟩)
  · refine h3 w (h2 w (List.mem_filter.mpr ⟨hw, ?_⟩))
    show (!goodWord w) = true
    cases hgw : goodWord w
    · rfl
    · exact absurd hgw g
theorem vx_c {args : Array Value} {s : State} {w : Cond} {B : List Cond} (h : w.before args s = true) (t : ∀ w ∈ B, w.before args s = true) : ∀ w' ∈ w :: B, w'.before args s = true := fun w' h' => (List.mem_cons.mp h').elim (fun e => by rw [e]; exact h) (t w')
theorem vx_n {args : Array Value} {s : State} : ∀ w ∈ ([] : List Cond), w.before args s = true := fun _ h => nomatch h
theorem vx_own {args : Array Value} {s : State} {L : List Cond} (h1 : ∀ w ∈ L.filter vx_no, w.before args s = true)
    (hU : (Cond.isRef (.static Bundle.tN "UNASSIGNED_STACK" Bundle.steD)).before args s = true) (hN : (Cond.isRef (.static Bundle.tN "SUPPRESSED_SENTINEL" Bundle.listD)).before args s = true)
    (lU : (Cond.laysStatic Bundle.tN "UNASSIGNED_STACK" Bundle.steD).before args s = true) (lN : (Cond.laysStatic Bundle.tN "SUPPRESSED_SENTINEL" Bundle.listD).before args s = true) : ∀ w ∈ L, w.before args s = true := by
  intro w hw
  by_cases e1 : w = .isRef (.static Bundle.tN "UNASSIGNED_STACK" Bundle.steD)
  · rw [e1]; exact hU
  · by_cases e2 : w = .isRef (.static Bundle.tN "SUPPRESSED_SENTINEL" Bundle.listD)
    · rw [e2]; exact hN
    · by_cases e3 : w = .laysStatic Bundle.tN "UNASSIGNED_STACK" Bundle.steD
      · rw [e3]; exact lU
      · by_cases e4 : w = .laysStatic Bundle.tN "SUPPRESSED_SENTINEL" Bundle.listD
        · rw [e4]; exact lN
        · exact h1 w (List.mem_filter.mpr ⟨hw, by unfold vx_no; rw [decide_eq_true e1, decide_eq_true e2, decide_eq_true e3, decide_eq_true e4]; rfl⟩)
/-- where a static field lies, its class's statics cell in H -/
def vx_L (C n d : String) (A : Nat → Prop) (U : State) (H : Heap) : Prop := ∃ (c : ClassId) (k : Class) (i : Nat) (f : Field) (a : Nat) (cell : Cell), U.vm.findClass C = some c ∧ U.fieldFound? C n d = some (c, k, i, f) ∧ f.isStatic = true ∧ k.statics = some a ∧ H[a]? = some cell ∧ cell.vm.isStatics = true ∧ cell.cls = c ∧ f.slot < cell.slots.size ∧ k.staticTypes[f.slot]? = some f.type ∧ ¬ A a
theorem vx_L.moved {C n d : String} {A : Nat → Prop} {u U : State} {H : Heap} (hvm : u.vm.Alike U.vm) (h : vx_L C n d A u H) : vx_L C n d A U H := by
  obtain ⟨c, k, i, f, a, cell, h1, h2, h3, h4, h5, h6, h7, h8, h9, h10⟩ := h
  obtain ⟨k', hi', he⟩ := State.fieldFound?_setVm hvm h2
  exact ⟨c, k', i, f, a, cell, by rw [hvm.findClass]; exact h1, hi', h3, by rw [he]; exact h4, h5, h6, h7, h8, by rw [he]; exact h9, h10⟩
theorem vx_L.kept {C n d : String} {A : Nat → Prop} {U : State} {H H1 : Heap} (h : vx_L C n d A U H) (hq : ∀ a : Nat, a < H.size → ¬ A a → H1[a]? = H[a]?) : vx_L C n d A U H1 := by
  obtain ⟨c, k, i, f, a, cell, h1, h2, h3, h4, h5, h6, h7, h8, h9, h10⟩ := h
  exact ⟨c, k, i, f, a, cell, h1, h2, h3, h4, by rw [hq a (Array.getElem?_eq_some_iff.mp h5).1 h10]; exact h5, h6, h7, h8, h9, h10⟩
theorem vx_L.narrow {C n d : String} {A B : Nat → Prop} {U : State} {H : Heap} (h : vx_L C n d A U H) (hAB : ∀ q, B q → A q) : vx_L C n d B U H := by
  obtain ⟨c, k, i, f, a, cell, h1, h2, h3, h4, h5, h6, h7, h8, h9, h10⟩ := h
  exact ⟨c, k, i, f, a, cell, h1, h2, h3, h4, h5, h6, h7, h8, h9, fun z => h10 (hAB _ z)⟩
theorem vx_L.word {C n d : String} {A : Nat → Prop} {s : State} {args : Array Value} (h : vx_L C n d A s s.heap) : (Cond.laysStatic C n d).before args s = true := by
  obtain ⟨c, k, i, f, a, cell, h1, h2, h3, h4, h5, h6, h7, h8, h9, -⟩ := h
  show (Cond.laysStatic C n d).holds args s none s [] = true
  exact Cond.laysStatic_of h1 h2 h3 h4 h5 h6 h7 h8 h9
/-- .. and what it holds: null or some reference -/
def vx_Zq (C n d : String) (A : Nat → Prop) (U : State) (H : Heap) : Prop := va_Zq C n d A U H ∧ vx_L C n d A U H
theorem vx_Zq.moved {C n d : String} {A : Nat → Prop} {u U : State} {H : Heap} (hvm : u.vm.Alike U.vm) (h : vx_Zq C n d A u H) : vx_Zq C n d A U H := ⟨va_Zq.moved hvm h.1, vx_L.moved hvm h.2⟩
theorem vx_Zq.kept {C n d : String} {A : Nat → Prop} {U : State} {H H1 : Heap} (h : vx_Zq C n d A U H) (hq : ∀ a : Nat, a < H.size → ¬ A a → H1[a]? = H[a]?) : vx_Zq C n d A U H1 := ⟨va_Zq.kept h.1 hq, vx_L.kept h.2 hq⟩
theorem vx_Zq.narrow {C n d : String} {A B : Nat → Prop} {U : State} {H : Heap} (h : vx_Zq C n d A U H) (hAB : ∀ q, B q → A q) : vx_Zq C n d B U H := ⟨va_Zq.narrow h.1 hAB, vx_L.narrow h.2 hAB⟩
theorem vx_Zqof {args : Array Value} {s : State} {C n d : String} {A : Nat → Prop} (hl : (Cond.laysStatic C n d).before args s = true) (hini : (Cond.initialized C).before args s = true) (h : (Cond.isRef (.static C n d)).before args s = true) (hA : ∀ a : Nat, a < s.heap.size → ¬ A a) : vx_Zq C n d A s s.heap := by
  refine ⟨va_Zqof hl hini h hA, ?_⟩
  obtain ⟨c, k, i, f, a, cell, h1, h2, h3, h4, h5, h6, h7, h8, h9⟩ := Cond.laysStatic_spec hl
  exact ⟨c, k, i, f, a, cell, h1, h2, h3, h4, h5, h6, h7, h8, h9, hA a (Array.getElem?_eq_some_iff.mp h5).1⟩
theorem vx_isRef {C n d : String} {v : Value} {A : Nat → Prop} {s : State} {args : Array Value} (h : va_Z C n d v A s s.heap) (hv : v.isRef = true) : (Cond.isRef (.static C n d)).before args s = true := by
  obtain ⟨cf, kf, fi, f, a, cell, h1, h2, h3, h4, h5, h6, h7, -⟩ := h
  have he : (Term.static C n d).eval args s none [] s = some v := by
    simp [Term.eval, State.fieldNamed?, h1, h2, h4, h5, h6, h7]
  simp only [Cond.before, Cond.holds, Cond.value, he]
  cases v <;> simp_all [Value.isRef]
theorem vx_isRefq {C n d : String} {A : Nat → Prop} {s : State} {args : Array Value} (h : va_Zq C n d A s s.heap) : (Cond.isRef (.static C n d)).before args s = true := by
  rcases h with h | ⟨t, h⟩
  · exact vx_isRef h rfl
  · exact vx_isRef h rfl
/-- the same frame, seen from here: as if the method were called anew in this heap -/
theorem vx_rebase {T : State} (X : Stand p l e R s m args below meth c T locs cells slots) {R' : Room} (hf : R'.frames ≤ R.frames) (hl : R'.locals ≤ R.locals) (hc : cells + R'.cells ≤ R.cells) (hs : slots + R'.slots ≤ R.slots) :
    Stand p l e R' ((T.setVm s.vm).setFrames (.invoking m args :: below)) m args below meth c T [] 0 0 := by
  have htop : (T.setVm s.vm).topJava?.isSome := X.here.top
  have hF : ((T.setVm s.vm).setFrames (.invoking m args :: below)).frames = .invoking m args :: below := State.frames_setFrames _ (State.cur_lt_of_top htop)
  obtain ⟨g₀, hg0⟩ := Option.isSome_iff_exists.mp htop
  obtain ⟨r, hr⟩ := State.topJava?_eq_some.mp hg0
  have hl9 : e.platform.stackLimits (T.setVm s.vm).me = e.platform.stackLimits s.me := X.limits
  have hb9 : (T.setVm s.vm).me.stackBytes = s.me.stackBytes := X.bytes
  refine ⟨X.admits, X.cas, X.clock, hF, ?_, X.hears, X.method, X.code, X.here, X.tail, X.warmed, ?_, ?_, ?_⟩
  · have h := X.room
    have hU : ((T.setVm s.vm).setFrames (.invoking m args :: below)).localsInUse = s.localsInUse := by
      rw [State.localsInUse_invoking hF (meth := meth) (c := c) X.method X.code, State.localsInUse_invoking X.frames X.method X.code]
    simp only [State.hasRoom, Bool.and_eq_true, decide_eq_true_eq] at h ⊢
    obtain ⟨⟨⟨⟨h1, h2, h3, h4, h5, h6⟩, h7⟩, h8⟩, h9⟩ := h
    rw [X.frames, List.length_cons] at h2 h3
    have q1 := X.heapSize
    have q2 := X.used
    simp only [hF, hU, List.length_cons, State.stackLimits_setFrames, State.stackBytes_setFrames, hl9, hb9]
    refine ⟨⟨⟨⟨by omega, by omega, by omega, by omega, by omega, h6⟩, ?_⟩, ?_⟩, X.book⟩
    · show T.heap.size + R'.cells ≤ e.platform.maxCells
      omega
    · show T.slotsUsed + R'.slots ≤ e.platform.maxSlots
      omega
  · rw [State.stackLimits_setFrames]; rfl
  · rw [State.stackBytes_setFrames]; rfl
  · refine ⟨?_, Nat.le_refl _, Nat.le_refl _, ?_, ?_, fun a c9 h9 => ⟨c9, h9, rfl, rfl, fun _ _ => rfl⟩⟩
    · obtain ⟨t, ht, -⟩ := State.frames_cons hr
      show T.setVm s.vm = { ((T.setVm s.vm).setFrames (.invoking m args :: below)).setFrames (T.setVm s.vm).frames with heap := T.heap, slotsUsed := T.slotsUsed }
      rw [State.setFrames_setFrames, State.setFrames_self ht]
      rfl
    · show T.slotsUsed = T.slotsUsed + ((T.heap.toList.drop T.heap.size).map (·.slots.size)).sum
      rw [List.drop_eq_nil_of_le (Nat.le_of_eq Array.length_toList)]
      rfl
    · show ((T.heap.toList.drop T.heap.size).map (·.slots.size)).sum ≤ 0
      rw [List.drop_eq_nil_of_le (Nat.le_of_eq Array.length_toList)]
      exact Nat.le_refl _
/-- 'throw new E()': new; dup; invokespecial; athrow -/
theorem vx_throw0 {cc : ByteArray} {pc : Nat} (hexec : p.tables.exec = Jvm.exec) (hb : c.code = cc) (hl : l.stackTraces = false) {own cls : String} {names : List String} {ik ic mc ms : Nat} {A : Nat → Prop}
    (hown : s.vm.findClass own = some m.cls) (hcls : Bundle.fit cls = true) (hnames : ∀ n ∈ names, Bundle.fit n = true)
    (hk : (Cond.classLink own ik cls).before args s = true) (hini : (Cond.initialized cls).before args s = true) (hat : ∀ w ∈ vx_at0 own ic cls names, w.before args s = true)
    (hgood : ∀ w ∈ Cond.classLink own ik cls :: Cond.initialized cls :: vx_at0 own ic cls names, vx_ot w = true)
    (hU : vx_Zq Bundle.tN "UNASSIGNED_STACK" Bundle.steD A s s.heap) (hN : vx_Zq Bundle.tN "SUPPRESSED_SENTINEL" Bundle.listD A s s.heap) (hS : va_S A s.heap H locs) (hsize : ls.size = c.maxLocals)
    (d0 : decode cc pc = .ok (.new ik, 3)) (d3 : decode cc (pc + 3) = .ok (.dup, 1)) (d4 : decode cc (pc + 4) = .ok (.invokespecial ic, 3)) (d7 : decode cc (pc + 7) = .ok (.athrow, 1))
    (hout : ∀ x ∈ c.exceptionTable.toList, covers x (pc + 7) = false)
    (hRframes : names.length + 3 < R.frames) (hRlocals : (rest.map fun v => v.category).sum + (13 * (names.length + 1) + 42) ≤ R.locals) (hRcells : cells + 1 ≤ R.cells) (hRslots : slots + 6 ≤ R.slots) (hlocks : meth.locks = false)
    (hx : ∀ t : State, s.vm.Alike t.vm → H.size ≤ t.heap.size → (∀ q : Nat, q < H.size → t.heap[q]? = H[q]?) → XC cls s t)
    (hf : ∀ z ∈ locs, free z.base) (hc : cells + 1 ≤ mc) (hs : slots + 6 ≤ ms) :
    W p l e R s m args below meth c H locs cells slots (vx_MQ below Qc XC args s mc ms free) (F0 m pc ls rest) := by
  intro T hT X
  have htr : e.platform.stackTraces = false := (show e.platform.stackTraces = l.stackTraces by rw [X.admits.platform]).trans hl
  have Y := vx_rebase X (R' := { frames := R.frames, locals := R.locals, cells := 1, slots := 6 }) (Nat.le_refl _) (Nat.le_refl _) hRcells hRslots
  obtain ⟨s', hA⟩ : ∃ z, z = (T.setVm s.vm).setFrames (.invoking m args :: below) := ⟨_, rfl⟩
  rw [← hA] at Y
  have hvm : s'.vm = s.vm := by rw [hA]; rfl
  have hhp : s'.heap = H := by rw [hA]; exact hT
  have hW0 : s.WarmedH s'.vm := by rw [hvm]; exact State.WarmedH.refl s
  have hat' : ∀ w ∈ vx_at0 own ic cls names, w.before args s' = true := fun w hw => vx_ot_at hW0 hvm.symm (hgood w (List.mem_cons_of_mem _ (List.mem_cons_of_mem _ hw))) (hat w hw)
  have hk' : (Cond.classLink own ik cls).before args s' = true := vx_ot_at hW0 hvm.symm (hgood _ List.mem_cons_self) hk
  have hini' : (Cond.initialized cls).before args s' = true := vx_ot_at hW0 hvm.symm (hgood _ (List.mem_cons_of_mem _ List.mem_cons_self)) hini
  have hU' : vx_Zq Bundle.tN "UNASSIGNED_STACK" Bundle.steD A s' s'.heap := by rw [hhp]; exact vx_Zq.moved hW0.alike (hU.kept hS.2.1)
  have hN' : vx_Zq Bundle.tN "SUPPRESSED_SENTINEL" Bundle.listD A s' s'.heap := by rw [hhp]; exact vx_Zq.moved hW0.alike (hN.kept hS.2.1)
  have h : ∀ w ∈ Bundle.ownAtoms0 own ic cls names, w.before args s' = true := vx_own hat' (vx_isRefq hU'.1) (vx_isRefq hN'.1) hU'.2.word hN'.2.word
  have hown' : s'.vm.findClass own = some m.cls := by rw [hvm]; exact hown
  have hins : (Cond.instantiable cls 6).before args s' = true := h _ (by simp [Bundle.ownAtoms0])
  obtain ⟨vm₁, cX, kX, hfX, hkX, -, -, X₁, st1⟩ := Y.newCold hexec (own := own) (C := cls) (index := ik) (n := 6) hown' hk' hins hini'
    (g := F0 m pc ls rest) rfl (by rw [hb]; exact d0) (Nat.le_refl _) (Nat.le_refl _)
  generalize hT1 : (T.setVm vm₁).pushCell { cls := cX, slots := kX.instanceTypes.map defaultValue, vm := .none } = T1 at X₁ st1
  have hcat : (Value.ref T.heap.size).category = 1 := rfl
  have hcellA : T1.heap[T.heap.size]? = some (freshCell cX kX) := by rw [← hT1]; exact State.heap_pushCell_size _ _
  have d3' : decode c.code (pc + 3) = .ok (.dup, 1) := by rw [hb]; exact d3
  obtain ⟨U, hsteps, hrun, hend, hW, hsame, ce, hce, hO⟩ := X₁.ctorThrow0 hexec htr (own := own) (cls := cls) (names := names) (ic := ic) hown' hcls hnames h (fun x hx => nomatch hx) hfX hkX hcellA (by rw [hhp, hT]; exact Nat.le_refl _)
    (g := { method := m, pc := pc + 4, locals := ls, stack := .ref T.heap.size :: .ref T.heap.size :: rest, locked := none }) rfl hsize rfl rfl (rest := rest) rfl
    (by rw [hb]; exact d4) (by rw [hb]; exact d7) hout hRframes (by simp only [List.map_cons, List.sum_cons, hcat]; omega) hlocks
  obtain ⟨f1, f2⟩ := vx_frame hsame
  rw [hhp] at f1 f2
  have hWs : s.WarmedH U.vm := State.WarmedH.trans hW0 hW
  have hcl : s.vm.findClass cls = some ce.cls := by
    have h9 := hO.cls
    rw [hvm] at h9
    exact h9
  have hall : s.sameButNew ({ U with vm := s.vm } : State) locs mc ms := by
    subst hA
    obtain ⟨e1, e2⟩ := hsame
    rw [State.setFrames_setFrames] at e1
    have h2 : (T.setVm s.vm).sameButNew ({ U with vm := s.vm } : State) [] (0 + 1) (0 + 6) := ⟨e1, e2⟩
    have h3 := X.same.trans h2
    rw [List.append_nil] at h3
    exact h3.mono hc hs
  refine ⟨U, ?_, .threw T.heap.size, hrun, hend, Or.inr ⟨T.heap.size, rfl, cls, ce, locs, hx U hWs.alike f1 (fun q hq => f2 q hq (fun z hz => nomatch hz)), hce, hO.vm, hcl, hWs, hall, hf⟩⟩
  refine st1 _ ?_
  show Steps p.tables e below (T1.setTop { method := m, pc := pc + 3, locals := ls, stack := .ref T.heap.size :: rest, locked := none }) _
  jvm_step X₁.here [X₁.here.top, hexec, d3', Value.category]
  exact hsteps
/-- 'throw new E("text")': new; dup; ldc; invokespecial; athrow -/
theorem vx_throwS {cc : ByteArray} {pc : Nat} (hexec : p.tables.exec = Jvm.exec) (hb : c.code = cc) (hl : l.stackTraces = false) {own cls text : String} {names : List String} {ik is ic mc ms sa : Nat} {A : Nat → Prop}
    (hown : s.vm.findClass own = some m.cls) (hcls : Bundle.fit cls = true) (hnames : ∀ n ∈ names, Bundle.fit n = true)
    (hk : (Cond.classLink own ik cls).before args s = true) (hini : (Cond.initialized cls).before args s = true) (hstr : vk_R own is text sa s) (hat : ∀ w ∈ vx_atS own ic cls names, w.before args s = true)
    (hgood : ∀ w ∈ Cond.classLink own ik cls :: Cond.initialized cls :: vx_atS own ic cls names, vx_ot w = true)
    (hU : vx_Zq Bundle.tN "UNASSIGNED_STACK" Bundle.steD A s s.heap) (hN : vx_Zq Bundle.tN "SUPPRESSED_SENTINEL" Bundle.listD A s s.heap) (hS : va_S A s.heap H locs) (hsize : ls.size = c.maxLocals)
    (d0 : decode cc pc = .ok (.new ik, 3)) (d3 : decode cc (pc + 3) = .ok (.dup, 1)) (d4 : decode cc (pc + 4) = .ok (.ldc is, 2)) (d6 : decode cc (pc + 6) = .ok (.invokespecial ic, 3)) (d9 : decode cc (pc + 9) = .ok (.athrow, 1))
    (hout : ∀ x ∈ c.exceptionTable.toList, covers x (pc + 9) = false)
    (hRframes : names.length + 3 < R.frames) (hRlocals : (rest.map fun v => v.category).sum + (13 * (names.length + 1) + 43) ≤ R.locals) (hRcells : cells + 1 ≤ R.cells) (hRslots : slots + 6 ≤ R.slots) (hlocks : meth.locks = false)
    (hx : ∀ t : State, s.vm.Alike t.vm → H.size ≤ t.heap.size → (∀ q : Nat, q < H.size → t.heap[q]? = H[q]?) → XC cls s t)
    (hf : ∀ z ∈ locs, free z.base) (hc : cells + 1 ≤ mc) (hs : slots + 6 ≤ ms) :
    W p l e R s m args below meth c H locs cells slots (vx_MQ below Qc XC args s mc ms free) (F0 m pc ls rest) := by
  intro T hT X
  have htr : e.platform.stackTraces = false := (show e.platform.stackTraces = l.stackTraces by rw [X.admits.platform]).trans hl
  have Y := vx_rebase X (R' := { frames := R.frames, locals := R.locals, cells := 1, slots := 6 }) (Nat.le_refl _) (Nat.le_refl _) hRcells hRslots
  obtain ⟨s', hA⟩ : ∃ z, z = (T.setVm s.vm).setFrames (.invoking m args :: below) := ⟨_, rfl⟩
  rw [← hA] at Y
  have hvm : s'.vm = s.vm := by rw [hA]; rfl
  have hhp : s'.heap = H := by rw [hA]; exact hT
  have hW0 : s.WarmedH s'.vm := by rw [hvm]; exact State.WarmedH.refl s
  have hat' : ∀ w ∈ vx_atS own ic cls names, w.before args s' = true := fun w hw => vx_ot_at hW0 hvm.symm (hgood w (List.mem_cons_of_mem _ (List.mem_cons_of_mem _ hw))) (hat w hw)
  have hk' : (Cond.classLink own ik cls).before args s' = true := vx_ot_at hW0 hvm.symm (hgood _ List.mem_cons_self) hk
  have hini' : (Cond.initialized cls).before args s' = true := vx_ot_at hW0 hvm.symm (hgood _ (List.mem_cons_of_mem _ List.mem_cons_self)) hini
  have hU' : vx_Zq Bundle.tN "UNASSIGNED_STACK" Bundle.steD A s' s'.heap := by rw [hhp]; exact vx_Zq.moved hW0.alike (hU.kept hS.2.1)
  have hN' : vx_Zq Bundle.tN "SUPPRESSED_SENTINEL" Bundle.listD A s' s'.heap := by rw [hhp]; exact vx_Zq.moved hW0.alike (hN.kept hS.2.1)
  have h : ∀ w ∈ Bundle.ownAtoms own ic cls names, w.before args s' = true := vx_own hat' (vx_isRefq hU'.1) (vx_isRefq hN'.1) hU'.2.word hN'.2.word
  have hown' : s'.vm.findClass own = some m.cls := by rw [hvm]; exact hown
  have hins : (Cond.instantiable cls 6).before args s' = true := h _ (by simp [Bundle.ownAtoms])
  obtain ⟨vm₁, cX, kX, hfX, hkX, -, -, X₁, st1⟩ := Y.newCold hexec (own := own) (C := cls) (index := ik) (n := 6) hown' hk' hins hini'
    (g := F0 m pc ls rest) rfl (by rw [hb]; exact d0) (Nat.le_refl _) (Nat.le_refl _)
  generalize hT1 : (T.setVm vm₁).pushCell { cls := cX, slots := kX.instanceTypes.map defaultValue, vm := .none } = T1 at X₁ st1
  have hcat : (Value.ref T.heap.size).category = 1 := rfl
  have hcellA : T1.heap[T.heap.size]? = some (freshCell cX kX) := by rw [← hT1]; exact State.heap_pushCell_size _ _
  have d3' : decode c.code (pc + 3) = .ok (.dup, 1) := by rw [hb]; exact d3
  have d4' : decode c.code (pc + 4) = .ok (.ldc is, 2) := by rw [hb]; exact d4
  have hstr' : vk_R own is text sa s' := vk_R.warm hW0 hstr
  obtain ⟨U, hsteps, hrun, hend, hW, hsame, ce, hce, hO⟩ := X₁.ctorThrowS hexec htr (own := own) (cls := cls) (names := names) (ic := ic) hown' hcls hnames h (fun x hx => nomatch hx) hfX hkX hcellA (by rw [hhp, hT]; exact Nat.le_refl _) (msg := .ref sa) rfl
    (g := { method := m, pc := pc + 6, locals := ls, stack := .ref sa :: .ref T.heap.size :: .ref T.heap.size :: rest, locked := none }) rfl hsize rfl rfl (rest := rest) rfl
    (by rw [hb]; exact d6) (by rw [hb]; exact d9) hout hRframes (by simp only [List.map_cons, List.sum_cons, hcat]; omega) hlocks
  obtain ⟨f1, f2⟩ := vx_frame hsame
  rw [hhp] at f1 f2
  have hWs : s.WarmedH U.vm := State.WarmedH.trans hW0 hW
  have hcl : s.vm.findClass cls = some ce.cls := by
    have h9 := hO.cls
    rw [hvm] at h9
    exact h9
  have hall : s.sameButNew ({ U with vm := s.vm } : State) locs mc ms := by
    subst hA
    obtain ⟨e1, e2⟩ := hsame
    rw [State.setFrames_setFrames] at e1
    have h2 : (T.setVm s.vm).sameButNew ({ U with vm := s.vm } : State) [] (0 + 1) (0 + 6) := ⟨e1, e2⟩
    have h3 := X.same.trans h2
    rw [List.append_nil] at h3
    exact h3.mono hc hs
  refine ⟨U, ?_, .threw T.heap.size, hrun, hend, Or.inr ⟨T.heap.size, rfl, cls, ce, locs, hx U hWs.alike f1 (fun q hq => f2 q hq (fun z hz => nomatch hz)), hce, hO.vm, hcl, hWs, hall, hf⟩⟩
  refine st1 _ ?_
  show Steps p.tables e below (T1.setTop { method := m, pc := pc + 3, locals := ls, stack := .ref T.heap.size :: rest, locked := none }) _
  jvm_step X₁.here [X₁.here.top, hexec, d3', Value.category]
  exact X₁.ldcString hexec (own := own) (text := text) (index := is) (a := sa) hown' hstr'.1 hstr'.2
    (g := { method := m, pc := pc + 4, locals := ls, stack := .ref T.heap.size :: .ref T.heap.size :: rest, locked := none }) rfl d4' _ hsteps
/-- 'throw new E("text")', the text by a wide index -/
theorem vx_throwSW {cc : ByteArray} {pc : Nat} (hexec : p.tables.exec = Jvm.exec) (hb : c.code = cc) (hl : l.stackTraces = false) {own cls text : String} {names : List String} {ik is ic mc ms sa : Nat} {A : Nat → Prop}
    (hown : s.vm.findClass own = some m.cls) (hcls : Bundle.fit cls = true) (hnames : ∀ n ∈ names, Bundle.fit n = true)
    (hk : (Cond.classLink own ik cls).before args s = true) (hini : (Cond.initialized cls).before args s = true) (hstr : vk_R own is text sa s) (hat : ∀ w ∈ vx_atS own ic cls names, w.before args s = true)
    (hgood : ∀ w ∈ Cond.classLink own ik cls :: Cond.initialized cls :: vx_atS own ic cls names, vx_ot w = true)
    (hU : vx_Zq Bundle.tN "UNASSIGNED_STACK" Bundle.steD A s s.heap) (hN : vx_Zq Bundle.tN "SUPPRESSED_SENTINEL" Bundle.listD A s s.heap) (hS : va_S A s.heap H locs) (hsize : ls.size = c.maxLocals)
    (d0 : decode cc pc = .ok (.new ik, 3)) (d3 : decode cc (pc + 3) = .ok (.dup, 1)) (d4 : decode cc (pc + 4) = .ok (.ldc_w is, 3)) (d7 : decode cc (pc + 7) = .ok (.invokespecial ic, 3)) (d10 : decode cc (pc + 10) = .ok (.athrow, 1))
    (hout : ∀ x ∈ c.exceptionTable.toList, covers x (pc + 10) = false)
    (hRframes : names.length + 3 < R.frames) (hRlocals : (rest.map fun v => v.category).sum + (13 * (names.length + 1) + 43) ≤ R.locals) (hRcells : cells + 1 ≤ R.cells) (hRslots : slots + 6 ≤ R.slots) (hlocks : meth.locks = false)
    (hx : ∀ t : State, s.vm.Alike t.vm → H.size ≤ t.heap.size → (∀ q : Nat, q < H.size → t.heap[q]? = H[q]?) → XC cls s t)
    (hf : ∀ z ∈ locs, free z.base) (hc : cells + 1 ≤ mc) (hs : slots + 6 ≤ ms) :
    W p l e R s m args below meth c H locs cells slots (vx_MQ below Qc XC args s mc ms free) (F0 m pc ls rest) := by
  intro T hT X
  have htr : e.platform.stackTraces = false := (show e.platform.stackTraces = l.stackTraces by rw [X.admits.platform]).trans hl
  have Y := vx_rebase X (R' := { frames := R.frames, locals := R.locals, cells := 1, slots := 6 }) (Nat.le_refl _) (Nat.le_refl _) hRcells hRslots
  obtain ⟨s', hA⟩ : ∃ z, z = (T.setVm s.vm).setFrames (.invoking m args :: below) := ⟨_, rfl⟩
  rw [← hA] at Y
  have hvm : s'.vm = s.vm := by rw [hA]; rfl
  have hhp : s'.heap = H := by rw [hA]; exact hT
  have hW0 : s.WarmedH s'.vm := by rw [hvm]; exact State.WarmedH.refl s
  have hat' : ∀ w ∈ vx_atS own ic cls names, w.before args s' = true := fun w hw => vx_ot_at hW0 hvm.symm (hgood w (List.mem_cons_of_mem _ (List.mem_cons_of_mem _ hw))) (hat w hw)
  have hk' : (Cond.classLink own ik cls).before args s' = true := vx_ot_at hW0 hvm.symm (hgood _ List.mem_cons_self) hk
  have hini' : (Cond.initialized cls).before args s' = true := vx_ot_at hW0 hvm.symm (hgood _ (List.mem_cons_of_mem _ List.mem_cons_self)) hini
  have hU' : vx_Zq Bundle.tN "UNASSIGNED_STACK" Bundle.steD A s' s'.heap := by rw [hhp]; exact vx_Zq.moved hW0.alike (hU.kept hS.2.1)
  have hN' : vx_Zq Bundle.tN "SUPPRESSED_SENTINEL" Bundle.listD A s' s'.heap := by rw [hhp]; exact vx_Zq.moved hW0.alike (hN.kept hS.2.1)
  have h : ∀ w ∈ Bundle.ownAtoms own ic cls names, w.before args s' = true := vx_own hat' (vx_isRefq hU'.1) (vx_isRefq hN'.1) hU'.2.word hN'.2.word
  have hown' : s'.vm.findClass own = some m.cls := by rw [hvm]; exact hown
  have hins : (Cond.instantiable cls 6).before args s' = true := h _ (by simp [Bundle.ownAtoms])
  obtain ⟨vm₁, cX, kX, hfX, hkX, -, -, X₁, st1⟩ := Y.newCold hexec (own := own) (C := cls) (index := ik) (n := 6) hown' hk' hins hini'
    (g := F0 m pc ls rest) rfl (by rw [hb]; exact d0) (Nat.le_refl _) (Nat.le_refl _)
  generalize hT1 : (T.setVm vm₁).pushCell { cls := cX, slots := kX.instanceTypes.map defaultValue, vm := .none } = T1 at X₁ st1
  have hcat : (Value.ref T.heap.size).category = 1 := rfl
  have hcellA : T1.heap[T.heap.size]? = some (freshCell cX kX) := by rw [← hT1]; exact State.heap_pushCell_size _ _
  have d3' : decode c.code (pc + 3) = .ok (.dup, 1) := by rw [hb]; exact d3
  have d4' : decode c.code (pc + 4) = .ok (.ldc_w is, 3) := by rw [hb]; exact d4
  have hstr' : vk_R own is text sa s' := vk_R.warm hW0 hstr
  obtain ⟨U, hsteps, hrun, hend, hW, hsame, ce, hce, hO⟩ := X₁.ctorThrowS hexec htr (own := own) (cls := cls) (names := names) (ic := ic) hown' hcls hnames h (fun x hx => nomatch hx) hfX hkX hcellA (by rw [hhp, hT]; exact Nat.le_refl _) (msg := .ref sa) rfl
    (g := { method := m, pc := pc + 7, locals := ls, stack := .ref sa :: .ref T.heap.size :: .ref T.heap.size :: rest, locked := none }) rfl hsize rfl rfl (rest := rest) rfl
    (by rw [hb]; exact d7) (by rw [hb]; exact d10) hout hRframes (by simp only [List.map_cons, List.sum_cons, hcat]; omega) hlocks
  obtain ⟨f1, f2⟩ := vx_frame hsame
  rw [hhp] at f1 f2
  have hWs : s.WarmedH U.vm := State.WarmedH.trans hW0 hW
  have hcl : s.vm.findClass cls = some ce.cls := by
    have h9 := hO.cls
    rw [hvm] at h9
    exact h9
  have hall : s.sameButNew ({ U with vm := s.vm } : State) locs mc ms := by
    subst hA
    obtain ⟨e1, e2⟩ := hsame
    rw [State.setFrames_setFrames] at e1
    have h2 : (T.setVm s.vm).sameButNew ({ U with vm := s.vm } : State) [] (0 + 1) (0 + 6) := ⟨e1, e2⟩
    have h3 := X.same.trans h2
    rw [List.append_nil] at h3
    exact h3.mono hc hs
  refine ⟨U, ?_, .threw T.heap.size, hrun, hend, Or.inr ⟨T.heap.size, rfl, cls, ce, locs, hx U hWs.alike f1 (fun q hq => f2 q hq (fun z hz => nomatch hz)), hce, hO.vm, hcl, hWs, hall, hf⟩⟩
  refine st1 _ ?_
  show Steps p.tables e below (T1.setTop { method := m, pc := pc + 3, locals := ls, stack := .ref T.heap.size :: rest, locked := none }) _
  jvm_step X₁.here [X₁.here.top, hexec, d3', Value.category]
  exact X₁.ldcStringW hexec (own := own) (text := text) (index := is) (a := sa) hown' hstr'.1 hstr'.2
    (g := { method := m, pc := pc + 4, locals := ls, stack := .ref T.heap.size :: .ref T.heap.size :: rest, locked := none }) rfl d4' _ hsteps
end Ends
section Bodies
variable {l : Launch}
theorem vx_ofW {y : MethodName} {ws ws' : List Cond} {rm : Room} {Pc : Array Value → State → Prop} {Qc : Array Value → State → Outcome → State → Prop} {XC : String → State → State → Prop} {mc ms : Nat} {free : Addr → Prop} {cc : ByteArray} {maxL : Nat} {ret : Option FieldType}
    (hy : plainName y.cls = true) (hw : ws = Cond.code y cc maxL ret :: ws')
    (body : ∀ p e s m args below meth c s₁, BodyLoose p l y (headSpec ws rm) cc maxL ret e s m args below meth c s₁ → c.maxLocals = maxL → (∀ x ∈ c.exceptionTable.toList, False) → Pc args s →
      W p l e (headSpec ws rm).room s m args below meth c s.heap [] 0 0 (vx_MQ below Qc XC args s mc ms free) (entryFrame m args maxL)) : vx_Met l y ws rm Pc Qc XC mc ms free := by
  refine MetFree.of_bodyS (code := cc) (maxLocals := maxL) (ret := ret) hy ?_ ?_
  · intro args s m h hn
    obtain ⟨meth, c, h1, h2, h3, h4, h5, h6, -, -⟩ := Cond.code_spec hn (atoms_spec (ws := ws) h _ (by rw [hw]; exact List.mem_cons_self))
    exact ⟨meth, c, h1, h2, h3, h4, h5, h6⟩
  · intro p e s m args below meth c s₁ B hml hP _
    have hh0 : s₁.heap = s.heap := by rw [B.state]; rfl
    have ht : ∀ x ∈ c.exceptionTable.toList, False := by
      obtain ⟨meth9, c9, h1, h2, -, -, -, -, h7, -⟩ := Cond.code_spec B.named (atoms_spec (ws := ws) B.pre _ (by rw [hw]; exact List.mem_cons_self))
      cases Option.some.inj (h1.symm.trans B.method)
      cases Option.some.inj (h2.symm.trans (Stand.of_body B).code)
      intro x hx
      rw [Array.isEmpty_iff.mp h7] at hx
      cases hx
    obtain ⟨t, a1, o, b1, b2, b3⟩ := body p e s m args below meth c s₁ B hml ht hP s₁ hh0 (Stand.of_body B)
    exact ⟨t, o, a1, b1, b2, b3⟩
/-- the table of a body with handlers -/
theorem vx_table {p : Program} {x y : MethodName} {S : Spec} {cc bytes : ByteArray} {maxL maxL' : Nat} {ret ret' : Option FieldType} {e : Env} {s s₁ : State} {m : MethodId} {args : Array Value} {below : List Frame} {meth : Method} {c : Code} {hh : List (Nat × Nat × Nat × Nat)}
    (B : BodyLoose p l y S cc maxL ret e s m args below meth c s₁) (h : (Cond.codeWith y bytes maxL' ret' hh).before args s = true) : c.exceptionTable.toList = tableOf hh := by
  obtain ⟨m9, meth9, c9, hn9, h1, h2, -, -, h6, -⟩ := Cond.codeWith_spec h
  cases Option.some.inj (hn9.symm.trans B.named)
  cases Option.some.inj (h1.symm.trans B.method)
  cases Option.some.inj (h2.symm.trans (Stand.of_body B).code)
  rw [← h6, table_eq]
end Bodies
end VXA
/-! ===== END ===== -/
/-! ===== BEGIN a static call of a method with an exception table ===== -/
section VXS
variable {p : Program} {l : Launch} {e : Env} {R : Room} {s : State} {m : MethodId} {args : Array Value} {below : List Frame} {meth : Method} {c : Code} {T : State} {H : Heap} {locs : List Loc} {cells slots : Nat}
abbrev vx_CSW (R : Room) (s : State) (args : Array Value) (own : String) (index : Nat) (y : MethodName) (bytes : ByteArray) (maxL : Nat) (ret : Option FieldType) (hh : List (Nat × Nat × Nat × Nat)) (ws : List Cond) (rm : Room) (mc ms n : Nat) : Prop :=
  (rm.cells = mc ∧ rm.slots = ms ∧ rm.frames + 1 ≤ R.frames ∧ 8 + (maxL + 11) + rm.locals ≤ R.locals ∧ (∀ w ∈ ws, ∀ (a' : Array Value) (U : State), s.WarmedH U.vm → w.before a' U = true) ∧ Cond.codeWith y bytes maxL ret hh ∈ ws) ∧
  (Cond.codeWith y bytes maxL ret hh).before args s = true ∧ (Cond.initialized y.cls).before args s = true ∧ (y.cls ≠ "java/lang/invoke/MethodHandle" ∧ y.cls ≠ "java/lang/invoke/VarHandle") ∧
  (∀ sig, parseMethodDescriptor y.desc = some sig → n = sig.parameters.length) ∧ (Cond.methodLink own index y).before args s = true ∧ (Cond.static y).before args s = true
theorem vx_cwSW {own : String} {index maxL mc ms : Nat} {y : MethodName} {bytes : ByteArray} {ret : Option FieldType} {hh : List (Nat × Nat × Nat × Nat)} {Ts ws ws' : List Cond} {rm : Room} (n : Nat) (ht : ∀ w ∈ Ts, w.before args s = true) (hT : GoodIn Ts (va_wsS own index y ws)) (hw : ws = Cond.codeWith y bytes maxL ret hh :: ws') (hrc : rm.cells = mc) (hrs : rm.slots = ms)
    (hd : y.cls ≠ "java/lang/invoke/MethodHandle" ∧ y.cls ≠ "java/lang/invoke/VarHandle" ∧ (parseMethodDescriptor y.desc).map (fun d => d.parameters.length) = some n) (hR : rm.frames + 1 ≤ R.frames ∧ 8 + (maxL + 11) + rm.locals ≤ R.locals) :
    vx_CSW R s args own index y bytes maxL ret hh ws rm mc ms n := by
  have ok : ∀ w ∈ va_wsS own index y ws, w.before args s = true := fun w h => ht w (hT w h).1
  have hG : GoodIn Ts ws := fun w h => hT w (by unfold va_wsS; exact List.mem_append_right _ h)
  have hc : Cond.codeWith y bytes maxL ret hh ∈ ws := by rw [hw]; exact List.mem_cons_self
  refine ⟨⟨hrc, hrs, hR.1, hR.2, pay_in ht hG, hc⟩, ht _ (hG _ hc).1, ok _ (by simp [va_wsS]), ⟨hd.1, hd.2.1⟩, fun sig h => ?_, ok _ (by simp [va_wsS]), ok _ (by simp [va_wsS])⟩
  have h2 := hd.2.2
  rw [h] at h2
  exact (Option.some.inj h2).symm
theorem vx_callSW (X : Stand p l e R s m args below meth c T locs cells slots) (hexec : p.tables.exec = Jvm.exec) {own : String} {index : Nat} {y : MethodName} {bytes : ByteArray} {maxL : Nat} {ret : Option FieldType} {hh : List (Nat × Nat × Nat × Nat)}
    (hown : s.vm.findClass own = some m.cls) (hlink : (Cond.methodLink own index y).before args s = true) (hstat : (Cond.static y).before args s = true) (hinit : (Cond.initialized y.cls).before args s = true)
    (hcode : (Cond.codeWith y bytes maxL ret hh).before args s = true) (hy : y.cls ≠ "java/lang/invoke/MethodHandle" ∧ y.cls ≠ "java/lang/invoke/VarHandle")
    {W9 : Nat} {Pre : Pt → Array Value → Prop} {Post : Pt → Array Value → Option Value → Pt → Prop} (hK : Back l R p e below s args y 3 W9 Pre Post)
    {g : JFrame} (hg : g.method = m) (hsize : g.locals.size = c.maxLocals) {argsL rest : List Value} (hlen : ∀ sig, parseMethodDescriptor y.desc = some sig → argsL.length = sig.parameters.length)
    (hstack : g.stack = argsL.reverse ++ rest) (hW : 2 * g.monitorRoom + (rest.map fun v => v.category).sum ≤ W9) (hdg : decode c.code g.pc = .ok (.invokestatic index, 3))
    (hpre : ∀ vm₁, s.WarmedH vm₁ → Pre ⟨T.setVm vm₁, locs, cells, slots⟩ argsL.toArray) :
    ∃ (v : Option Value) (vm₁ : Vm) (B : Pt), s.WarmedH vm₁ ∧ Stand p l e R s m args below meth c B.U B.locs B.cells B.slots ∧ Post ⟨T.setVm vm₁, locs, cells, slots⟩ argsL.toArray v B ∧
      ∀ target, Steps p.tables e below (B.U.setTop { g with pc := g.pc + 3, stack := v.toList ++ rest }) target → Steps p.tables e below (T.setTop g) target := by
  obtain ⟨mk, methM, cM, hnamed, hmethM, -, -, -, -, -, -, hsigM⟩ := Cond.codeWith_spec hcode
  have hstatic : methM.isStatic = true := Cond.static_spec hnamed hmethM hstat
  obtain ⟨kP, hkP, -⟩ := className_of_methodNamed hnamed
  have hinitP : kP.init = .initialized := Cond.initialized_spec (findClass_of_methodNamed hnamed) hkP hinit
  obtain ⟨vm₁, X₁, hstep₁⟩ := X.invokestatic hexec hown hlink hnamed hmethM hstatic hkP hinitP hy (g := g) hg (argsL := argsL) (rest := rest) (hlen _ hsigM) hstack hdg
  obtain ⟨v, B, X', hpost, hsteps⟩ := hK m meth c ⟨T.setVm vm₁, locs, cells, slots⟩ { g with stack := rest } (.invokestatic index) mk argsL.toArray X₁ hg hsize hdg hW (X₁.named hnamed) (hpre vm₁ X₁.warmed)
  exact ⟨v, vm₁, B, X₁.warmed, X', hpost, fun target h => hstep₁ _ fun acts => by rw [doInvoke_state]; exact hsteps.trans h⟩
theorem vx_runSW {y : MethodName} {bytes cc : ByteArray} {maxL nL mc ms n index : Nat} {ret : Option FieldType} {hh : List (Nat × Nat × Nat × Nat)} {ws : List Cond} {rm : Room} {Pc : Array Value → State → Prop} {Qc : Array Value → State → Outcome → State → Prop} {free : Addr → Prop} {Ts : List Cond} {own : String} {As rest : List Value} {g : JFrame}
    (S : CallFix p m c cc nL s args Ts own) (hM : Met l y ws rm Pc Qc mc ms free) (cw : vx_CSW R s args own index y bytes maxL ret hh ws rm mc ms n) (hp : PreS s H Pc As)
    (hg : g.method = m) (hn : As.length = n) (hsize : g.locals.size = nL) (hstack : g.stack = As.reverse ++ rest) (hW : 2 * g.monitorRoom + (rest.map fun v => v.category).sum ≤ 8) (hdg : decode cc g.pc = .ok (.invokestatic index, 3)) (hf : cells + mc ≤ R.cells ∧ slots + ms ≤ R.slots) :
    va_Run p l e R s m args below meth c H locs cells slots mc ms g rest (Qc As.toArray) (free) := by
  obtain ⟨⟨hrc, hrs, hfr, hlo, hws, hcw⟩, hcode, hini, hy, hlen, hl, hstt⟩ := cw
  have hK : Back l R p e below s args y 3 8 (PreOf R mc ms Pc) (PostOf Qc mc ms free) := va_backW (hh := hh) (bytes := bytes) (maxL := maxL) (ret := ret) hM hp.1 hrc hrs hfr hlo hws hcw (fun a' U hW => word_at hW (Or.inl (by first | rfl | simp [Cond.onTables, Cond.keeps, Cond.steady])) hini)
  obtain ⟨hx, hb, hml, ho, -⟩ := S
  intro T hT X
  obtain ⟨v, vm₁, ⟨U', l2, c2, s2⟩, hW₁, X', ⟨g', mk, t, L, e1, e2, hq, h1, hL, h2, h3⟩, st⟩ := vx_callSW X hx (hh := hh) (bytes := bytes) (maxL := maxL) (ret := ret) ho hl hstt hini hcode hy hK hg (hsize.trans hml.symm) (argsL := As) (rest := rest) (fun sig h => hn.trans (hlen sig h)) hstack hW (by rw [hb]; exact hdg)
    (fun vm₁ hW₁ => ⟨hf.1, hf.2, hp.2 (T.setVm vm₁) hT hW₁⟩)
  dsimp only [Pt.U, Pt.locs, Pt.cells, Pt.slots] at X' e1 e2 h1 h2 h3 st
  subst h1; subst h2; subst h3
  exact ⟨v, (T.setVm vm₁).calling g' mk As.toArray, t, U', L, hT, X', hL, e1, e2, hq, st⟩
/-- not caught here, past rows that name other classes: it goes on to the caller -/
theorem vx_outP {p : Program} {l : Launch} {e : Env} {R : Room} {s : State} {m : MethodId} {args : Array Value} {below : List Frame} {meth : Method} {c : Code} {H : Heap} {locs : List Loc} {cells slots : Nat} {free : Addr → Prop} {ls : Array Slot} {rest : List Value} {Qc : Array Value → State → Outcome → State → Prop} {XC : String → State → State → Prop}
    {pc : Nat} {own E : String} {ce : Cell} {q : Addr} {mc ms : Nat} (hown : s.vm.findClass own = some m.cls) (hlocks : meth.locks = false)
    (hpass : ∀ z ∈ c.exceptionTable.toList, covers z pc = false ∨ (z.catchType ≠ 0 ∧ ∃ nm : String, (Cond.classLink own z.catchType nm).before args s = true ∧ va_Nc E nm s)) (hcell : H[q]? = some ce) (hv : ce.vm = .none) (hcl : s.vm.findClass E = some ce.cls)
    (hx : ∀ t : State, t.heap = H → s.vm.Alike t.vm → XC E s t) (hf : ∀ z ∈ locs, free z.base) (hc : cells ≤ mc) (hs : slots ≤ ms) :
    vx_W p l e R s m args below meth c H locs cells slots (vx_MQ below Qc XC args s mc ms free) (F0 m pc ls rest) q := by
  intro T hT X
  have hpl : e.platform.magicAccessors = ({} : Platform).magicAccessors := by rw [X.admits.platform]
  obtain ⟨vm', hW', X', st⟩ := X.outThrough hlocks q (g := F0 m pc ls rest) rfl rfl rfl (cell := ce) (by rw [hT]; exact hcell) (by rw [hv]; rfl)
    (by obtain ⟨k9, h9, -⟩ := Vm.findClass_spec hcl; exact ⟨k9, h9⟩) (fun z hz => by
      rcases hpass z hz with h | ⟨hz0, nm, hl1, hn1⟩
      · exact Or.inl h
      · obtain ⟨c6, hc6, hcl6⟩ := Cond.classLink_spec hown hl1 e.platform hpl
        obtain ⟨a8, b8, h1, h2, h3⟩ := hn1
        cases Option.some.inj (h1.symm.trans hcl)
        cases Option.some.inj (h2.symm.trans hc6)
        exact Or.inr ⟨hz0, _, hcl6, h3⟩)
  obtain ⟨g₀, hfr⟩ := X'.frames_eq
  have hcell9 : ((T.setVm vm').setFrames (.throwing q :: below)).heap[q]? = some ce := by
    show T.heap[q]? = some ce
    rw [hT]; exact hcell
  have hend : Ended ((T.setVm vm').setFrames (.throwing q :: below)) below (.threw q) := State.frames_setFrames _ (State.cur_lt_of_frames hfr)
  refine ⟨(T.setVm vm').setFrames (.throwing q :: below), ?_, .threw q, X'.here.running, hend, Or.inr ⟨q, rfl, E, ce, locs, hx _ hT (X'.ends _).1.alike, hcell9, hv, hcl, (X'.ends _).1, (X'.ends _).2.mono hc hs, hf⟩⟩
  rw [X.pushThrowing_eq]
  exact st
/-- a thing of a world lies in the heap -/
theorem vx_lt {D : va_G} {cl : List vw_C} {ws : va_W} {H1 : Heap} (h : va_P D cl ws H1) {k : Nat} {q : Nat × va_E} (hk : ws[k]? = some q) : q.1 < H1.size := (h k q hk).lt
end VXS
/-! ===== END ===== -/
/-! ===== BEGIN methods with a table of their own: called by a name, returning or throwing ===== -/
section VXH
/-! vx_backW, vx_callVX, vx_callSX, vx_callVW, vx_runVW, vx_runVX, vx_runSX, vx_ofWH follow the same proofs as their sisters above (Free/Laws.lean, Shelf42/LK1.lean); vx_outP calls Shelf42/NT130.lean (outThrough). -/
section
variable {l : Launch} {R : Room} {p : Program} {e : Env} {below : List Frame} {s : State} {sargs : Array Value} {y : MethodName} {len W9 : Nat}
theorem vx_backW {ws : List Cond} {rm : Room} {Pc : Array Value → State → Prop} {Qc : Array Value → State → Outcome → State → Prop} {XC : String → State → State → Prop} {mc ms : Nat} {free : Addr → Prop} {bytes : ByteArray} {maxL : Nat} {ret : Option FieldType} {hh : List (Nat × Nat × Nat × Nat)}
    (hM : vx_Met l y ws rm Pc Qc XC mc ms free) (hblind : FrameBlind Pc) (hrc : rm.cells = mc) (hrs : rm.slots = ms)
    (hframes : rm.frames + 1 ≤ R.frames) (hlocals : W9 + (maxL + 11) + rm.locals ≤ R.locals)
    (hws : ∀ w ∈ ws, ∀ a' U, s.WarmedH U.vm → w.before a' U = true) (hcode : Cond.codeWith y bytes maxL ret hh ∈ ws) (hinit : ∀ a' U, s.WarmedH U.vm → (Cond.initialized y.cls).before a' U = true) :
    vx_Back l R p e below s sargs y len W9 (PreOf R mc ms Pc) (PostOf Qc mc ms free) (vx_Post XC mc ms free) := by
  intro m meth c A g ig mk a X hg hsize hdg hW hn hp
  have h1 : (headSpec ws rm).pre.before a A.U = true := atoms_intro fun w hw => hws w hw _ _ X.warmed
  have h2 : (Cond.codeWith y bytes maxL ret hh).before a A.U = true := hws _ hcode _ _ X.warmed
  have h3 : (Cond.initialized y.cls).before a A.U = true := hinit _ _ X.warmed
  have h4 : A.cells + (headSpec ws rm).room.cells ≤ R.cells := by rw [show (headSpec ws rm).room.cells = mc from hrc]; exact hp.1
  have h5 : A.slots + (headSpec ws rm).room.slots ≤ R.slots := by rw [show (headSpec ws rm).room.slots = ms from hrs]; exact hp.2.1
  have hPc : Pc a (A.U.calling g mk a) := hblind _ _ _ _ hp.2.2
  obtain ⟨U, Ls, c0, s0⟩ := A
  dsimp only [Pt.U, Pt.locs, Pt.cells, Pt.slots] at h1 h2 h3 h4 h5 X hn hPc ⊢
  obtain ⟨m9, methY, cY, hn9, hmY, hcY, -, hlY, -⟩ := Cond.codeWith_spec h2
  cases Option.some.inj (hn9.symm.trans hn)
  obtain ⟨kY, hkY, -⟩ := className_of_methodNamed hn
  have hinitY : kY.init = .initialized := Cond.initialized_spec (findClass_of_methodNamed hn) hkY h3
  have h : At U g.method c below := by rw [hg]; exact X.here
  have hlocals9 : W9 + (maxL + 11) + (headSpec ws rm).room.locals ≤ R.locals := hlocals
  have happ : (headSpec ws rm).appliesLoose y e.platform (U.calling g mk a) = true :=
    Spec.appliesLoose_calling (g := g) h hdg hn hkY hinitY
      (X.room_calling (g := g) (R' := (headSpec ws rm).room) hsize hmY hcY hframes (by rw [hlY]; omega) h4 h5) h1
  obtain ⟨mid, hmid⟩ := h.above
  have hfr : (U.setTop g).frames = (.java g :: mid) ++ below := by rw [State.frames_setTop' g h.top, hmid]; rfl
  obtain ⟨o, s₂, hsteps, -, hend, hq⟩ := Steps.callFree hM p X.admits X.cas X.clock (acts := []) hfr happ hPc trivial
  have hq' : vx_Q Qc XC mc ms free a (U.calling g mk a) o s₂ := hq
  rw [State.frames_setTop' g h.top] at hend
  obtain ⟨g₀, hg0⟩ := Option.isSome_iff_exists.mp h.top
  obtain ⟨r, hr⟩ := State.topJava?_eq_some.mp hg0
  have hr' : (({ U with heap := s₂.heap, slotsUsed := s₂.slotsUsed } : State).setVm s₂.vm).frames = .java g₀ :: r := hr
  rcases hq' with ⟨hqc, L, hfe, hL⟩ | ⟨q, rfl, E, ce, L, hx, hce, hcv, hcl, hW₂, hsm, hL⟩
  · obtain ⟨⟨v, rfl⟩, hW₂, e2, q2, q3, q4, q5, q6⟩ := id hfe
    have e3 : s₂ = ({ (U.calling g mk a).setFrames s₂.frames with heap := s₂.heap, slotsUsed := s₂.slotsUsed } : State).setVm s₂.vm := by
      have : s₂ = ({ s₂ with vm := (U.calling g mk a).vm } : State).setVm s₂.vm := rfl
      rw [e2] at this
      exact this
    obtain ⟨c₂, i₂, len₂, hc₂, hd₂, hf₂⟩ := hend
    have hW' : U.WarmedH s₂.vm := hW₂
    have hcc : c₂ = c := by
      have h1 : s₂.code? g.method = U.code? g.method := by
        rw [State.code?_eq, State.code?_eq, hW'.alike.method?]
      exact Option.some.inj (hc₂.symm.trans (h1.trans h.code))
    subst hcc
    have hlen : len₂ = len := by rw [hdg] at hd₂; cases hd₂; rfl
    subst hlen
    have hs₂ : s₂ = (({ U with heap := s₂.heap, slotsUsed := s₂.slotsUsed } : State).setVm s₂.vm).setTop { g with pc := g.pc + len₂, stack := v.toList ++ g.stack } := by
      refine e3.trans ?_
      rw [hf₂, State.calling_eq h.top, State.setFrames_setFrames, State.setTop_of_frames _ hr', hr]
      rfl
    have hsame : U.sameButNew ({ U with heap := s₂.heap, slotsUsed := s₂.slotsUsed } : State) L mc ms := by
      refine ⟨?_, q2, q3, q4, q5, q6⟩
      obtain ⟨t, ht, -⟩ := State.frames_cons hr
      show ({ U with heap := s₂.heap, slotsUsed := s₂.slotsUsed } : State) = { U.setFrames U.frames with heap := s₂.heap, slotsUsed := s₂.slotsUsed }
      rw [State.setFrames_self ht]
    subst hg
    refine Or.inl ⟨v, ⟨(({ U with heap := s₂.heap, slotsUsed := s₂.slotsUsed } : State).setVm s₂.vm), Ls ++ L, c0 + mc, s0 + ms⟩,
      ⟨X.admits, X.cas, X.clock, X.frames, X.room, X.hears, X.method, X.code, (X.here.setHeapUsed s₂.heap s₂.slotsUsed).setVm hW'.alike, X.tail, State.WarmedH.trans X.warmed hW', X.limits, X.bytes, X.same.trans (hsame.setVm s.vm)⟩,
      ⟨g, mk, s₂, L, rfl, rfl, hqc, rfl, hL, rfl, rfl⟩, ?_⟩
    show Steps p.tables e below _ ((({ U with heap := s₂.heap, slotsUsed := s₂.slotsUsed } : State).setVm s₂.vm).setTop { g with pc := g.pc + len₂, stack := v.toList ++ g.stack })
    rw [← hs₂]
    exact hsteps
  · obtain ⟨e2, q2, q3, q4, q5, q6⟩ := id hsm
    have e3 : s₂ = ({ (U.calling g mk a).setFrames s₂.frames with heap := s₂.heap, slotsUsed := s₂.slotsUsed } : State).setVm s₂.vm := by
      have : s₂ = ({ s₂ with vm := (U.calling g mk a).vm } : State).setVm s₂.vm := rfl
      rw [e2] at this
      exact this
    have hf₂ : s₂.frames = .throwing q :: .java g :: U.frames.tail := hend
    have hW' : U.WarmedH s₂.vm := hW₂
    have hs₂ : s₂ = ((({ U with heap := s₂.heap, slotsUsed := s₂.slotsUsed } : State).setVm s₂.vm).setTop g).pushFrame (.throwing q) := by
      refine e3.trans ?_
      rw [hf₂, State.calling_eq h.top, State.setFrames_setFrames, State.pushFrame, State.frames_setTop _ hr', State.setTop_of_frames _ hr', State.setFrames_setFrames, hr]
      rfl
    have hsame : U.sameButNew ({ U with heap := s₂.heap, slotsUsed := s₂.slotsUsed } : State) L mc ms := by
      refine ⟨?_, q2, q3, q4, q5, q6⟩
      obtain ⟨t, ht, -⟩ := State.frames_cons hr
      show ({ U with heap := s₂.heap, slotsUsed := s₂.slotsUsed } : State) = { U.setFrames U.frames with heap := s₂.heap, slotsUsed := s₂.slotsUsed }
      rw [State.setFrames_self ht]
    subst hg
    refine Or.inr ⟨q, ⟨(({ U with heap := s₂.heap, slotsUsed := s₂.slotsUsed } : State).setVm s₂.vm), Ls ++ L, c0 + mc, s0 + ms⟩,
      ⟨X.admits, X.cas, X.clock, X.frames, X.room, X.hears, X.method, X.code, (X.here.setHeapUsed s₂.heap s₂.slotsUsed).setVm hW'.alike, X.tail, State.WarmedH.trans X.warmed hW', X.limits, X.bytes, X.same.trans (hsame.setVm s.vm)⟩,
      ⟨g, mk, s₂, L, E, ce, rfl, rfl, hx, hce, hcv, hcl, rfl, hL, rfl, rfl⟩, ?_⟩
    show Steps p.tables e below _ (((({ U with heap := s₂.heap, slotsUsed := s₂.slotsUsed } : State).setVm s₂.vm).setTop g).pushFrame (.throwing q))
    rw [← hs₂]
    exact hsteps
end
variable {p : Program} {l : Launch} {e : Env} {R : Room} {s : State} {m : MethodId} {args : Array Value} {below : List Frame} {meth : Method} {c : Code} {T : State} {H : Heap} {locs : List Loc} {cells slots : Nat}
theorem vx_callVX (X : Stand p l e R s m args below meth c T locs cells slots) (hexec : p.tables.exec = Jvm.exec) {own C : String} {index : Nat} {y : MethodName} {bytes : ByteArray} {maxL : Nat} {ret : Option FieldType} {hh : List (Nat × Nat × Nat × Nat)}
    (hown : s.vm.findClass own = some m.cls) (hlink : (Cond.methodLink own index y).before args s = true) (hinst : (Cond.instanceMethod y).before args s = true) (hsel : (Cond.selects C y y).before args s = true)
    (hcode : (Cond.codeWith y bytes maxL ret hh).before args s = true) (hy : y.cls ≠ "java/lang/invoke/MethodHandle" ∧ y.cls ≠ "java/lang/invoke/VarHandle")
    {W9 : Nat} {Pre : Pt → Array Value → Prop} {Post : Pt → Array Value → Option Value → Pt → Prop} {PostX : Pt → Array Value → Addr → Pt → Prop} (hK : vx_Back l R p e below s args y 3 W9 Pre Post PostX)
    {b : Addr} {cellB : Cell} (hcell : T.heap[b]? = some cellB) (hobj : cellB.vm.isStatics = false) (hcls : s.vm.findClass C = some cellB.cls)
    {g : JFrame} (hg : g.method = m) (hsize : g.locals.size = c.maxLocals) {argsL rest : List Value} (hlen : ∀ sig, parseMethodDescriptor y.desc = some sig → argsL.length = sig.parameters.length)
    (hstack : g.stack = argsL.reverse ++ .ref b :: rest) (hW : 2 * g.monitorRoom + (rest.map fun v => v.category).sum ≤ W9) (hdg : decode c.code g.pc = .ok (.invokevirtual index, 3))
    (hpre : ∀ vm₁, s.WarmedH vm₁ → Pre ⟨T.setVm vm₁, locs, cells, slots⟩ (Value.ref b :: argsL).toArray) :
    (∃ (v : Option Value) (vm₁ : Vm) (B : Pt), s.WarmedH vm₁ ∧ Stand p l e R s m args below meth c B.U B.locs B.cells B.slots ∧ Post ⟨T.setVm vm₁, locs, cells, slots⟩ (Value.ref b :: argsL).toArray v B ∧
      ∀ target, Steps p.tables e below (B.U.setTop { g with pc := g.pc + 3, stack := v.toList ++ rest }) target → Steps p.tables e below (T.setTop g) target) ∨
    (∃ (q : Addr) (vm₁ : Vm) (B : Pt), s.WarmedH vm₁ ∧ Stand p l e R s m args below meth c B.U B.locs B.cells B.slots ∧ PostX ⟨T.setVm vm₁, locs, cells, slots⟩ (Value.ref b :: argsL).toArray q B ∧
      Steps p.tables e below (T.setTop g) ((B.U.setTop { g with stack := rest }).pushFrame (.throwing q))) := by
  obtain ⟨mk, methM, hnamed, hmethM, hstM, habM⟩ := Cond.instanceMethod_spec hinst
  obtain ⟨m8, methM', cM, hn8, hmethM', -, -, -, -, -, -, hsigM⟩ := Cond.codeWith_spec hcode
  cases Option.some.inj (hn8.symm.trans hnamed)
  cases hmethM.symm.trans hmethM'
  obtain ⟨c2, r2, m2, q1, q2, q3, q4, kP, hkP, hkPi⟩ := Cond.selects_spec hsel
  cases hcls.symm.trans q1
  cases (State.methodFound?_of_named hnamed hy).symm.trans q2
  cases hnamed.symm.trans q3
  have hselP : selectMethod e.platform s.vm cellB.cls mk = .method mk := by rw [Launch.admits_selectMethod X.admits]; exact q4
  obtain ⟨vm₁, X₁, hstep₁⟩ := X.invokevirtual hexec hown hlink hnamed hmethM hstM hkP hkPi hy (a := b) (cell := cellB) hcell
    (fun z h => by rw [h] at hobj; cases hobj) hselP hmethM habM hkP hkPi (g := g) hg (argsL := argsL) (rest := rest) (hlen _ hsigM) hstack hdg
  rcases hK m meth c ⟨T.setVm vm₁, locs, cells, slots⟩ { g with stack := rest } (.invokevirtual index) mk (Value.ref b :: argsL).toArray X₁ hg hsize hdg hW (X₁.named hnamed) (hpre vm₁ X₁.warmed) with ⟨v, B, X', hpost, hsteps⟩ | ⟨q, B, X', hpost, hsteps⟩
  · exact Or.inl ⟨v, vm₁, B, X₁.warmed, X', hpost, fun target h => hstep₁ _ fun acts => by rw [doInvoke_state]; exact hsteps.trans h⟩
  · exact Or.inr ⟨q, vm₁, B, X₁.warmed, X', hpost, hstep₁ _ fun acts => by rw [doInvoke_state]; exact hsteps⟩
theorem vx_callSX (X : Stand p l e R s m args below meth c T locs cells slots) (hexec : p.tables.exec = Jvm.exec) {own : String} {index : Nat} {y : MethodName} {bytes : ByteArray} {maxL : Nat} {ret : Option FieldType} {hh : List (Nat × Nat × Nat × Nat)}
    (hown : s.vm.findClass own = some m.cls) (hlink : (Cond.methodLink own index y).before args s = true) (hstat : (Cond.static y).before args s = true) (hinit : (Cond.initialized y.cls).before args s = true)
    (hcode : (Cond.codeWith y bytes maxL ret hh).before args s = true) (hy : y.cls ≠ "java/lang/invoke/MethodHandle" ∧ y.cls ≠ "java/lang/invoke/VarHandle")
    {W9 : Nat} {Pre : Pt → Array Value → Prop} {Post : Pt → Array Value → Option Value → Pt → Prop} {PostX : Pt → Array Value → Addr → Pt → Prop} (hK : vx_Back l R p e below s args y 3 W9 Pre Post PostX)
    {g : JFrame} (hg : g.method = m) (hsize : g.locals.size = c.maxLocals) {argsL rest : List Value} (hlen : ∀ sig, parseMethodDescriptor y.desc = some sig → argsL.length = sig.parameters.length)
    (hstack : g.stack = argsL.reverse ++ rest) (hW : 2 * g.monitorRoom + (rest.map fun v => v.category).sum ≤ W9) (hdg : decode c.code g.pc = .ok (.invokestatic index, 3))
    (hpre : ∀ vm₁, s.WarmedH vm₁ → Pre ⟨T.setVm vm₁, locs, cells, slots⟩ argsL.toArray) :
    (∃ (v : Option Value) (vm₁ : Vm) (B : Pt), s.WarmedH vm₁ ∧ Stand p l e R s m args below meth c B.U B.locs B.cells B.slots ∧ Post ⟨T.setVm vm₁, locs, cells, slots⟩ argsL.toArray v B ∧
      ∀ target, Steps p.tables e below (B.U.setTop { g with pc := g.pc + 3, stack := v.toList ++ rest }) target → Steps p.tables e below (T.setTop g) target) ∨
    (∃ (q : Addr) (vm₁ : Vm) (B : Pt), s.WarmedH vm₁ ∧ Stand p l e R s m args below meth c B.U B.locs B.cells B.slots ∧ PostX ⟨T.setVm vm₁, locs, cells, slots⟩ argsL.toArray q B ∧
      Steps p.tables e below (T.setTop g) ((B.U.setTop { g with stack := rest }).pushFrame (.throwing q))) := by
  obtain ⟨mk, methM, cM, hnamed, hmethM, -, -, -, -, -, -, hsigM⟩ := Cond.codeWith_spec hcode
  have hstatic : methM.isStatic = true := Cond.static_spec hnamed hmethM hstat
  obtain ⟨kP, hkP, -⟩ := className_of_methodNamed hnamed
  have hinitP : kP.init = .initialized := Cond.initialized_spec (findClass_of_methodNamed hnamed) hkP hinit
  obtain ⟨vm₁, X₁, hstep₁⟩ := X.invokestatic hexec hown hlink hnamed hmethM hstatic hkP hinitP hy (g := g) hg (argsL := argsL) (rest := rest) (hlen _ hsigM) hstack hdg
  rcases hK m meth c ⟨T.setVm vm₁, locs, cells, slots⟩ { g with stack := rest } (.invokestatic index) mk argsL.toArray X₁ hg hsize hdg hW (X₁.named hnamed) (hpre vm₁ X₁.warmed) with ⟨v, B, X', hpost, hsteps⟩ | ⟨q, B, X', hpost, hsteps⟩
  · exact Or.inl ⟨v, vm₁, B, X₁.warmed, X', hpost, fun target h => hstep₁ _ fun acts => by rw [doInvoke_state]; exact hsteps.trans h⟩
  · exact Or.inr ⟨q, vm₁, B, X₁.warmed, X', hpost, hstep₁ _ fun acts => by rw [doInvoke_state]; exact hsteps⟩
theorem vx_callVW (X : Stand p l e R s m args below meth c T locs cells slots) (hexec : p.tables.exec = Jvm.exec) {own C : String} {index : Nat} {y : MethodName} {bytes : ByteArray} {maxL : Nat} {ret : Option FieldType} {hh : List (Nat × Nat × Nat × Nat)}
    (hown : s.vm.findClass own = some m.cls) (hlink : (Cond.methodLink own index y).before args s = true) (hinst : (Cond.instanceMethod y).before args s = true) (hsel : (Cond.selects C y y).before args s = true)
    (hcode : (Cond.codeWith y bytes maxL ret hh).before args s = true) (hy : y.cls ≠ "java/lang/invoke/MethodHandle" ∧ y.cls ≠ "java/lang/invoke/VarHandle")
    {W9 : Nat} {Pre : Pt → Array Value → Prop} {Post : Pt → Array Value → Option Value → Pt → Prop} (hK : Back l R p e below s args y 3 W9 Pre Post)
    {b : Addr} {cellB : Cell} (hcell : T.heap[b]? = some cellB) (hobj : cellB.vm.isStatics = false) (hcls : s.vm.findClass C = some cellB.cls)
    {g : JFrame} (hg : g.method = m) (hsize : g.locals.size = c.maxLocals) {argsL rest : List Value} (hlen : ∀ sig, parseMethodDescriptor y.desc = some sig → argsL.length = sig.parameters.length)
    (hstack : g.stack = argsL.reverse ++ .ref b :: rest) (hW : 2 * g.monitorRoom + (rest.map fun v => v.category).sum ≤ W9) (hdg : decode c.code g.pc = .ok (.invokevirtual index, 3))
    (hpre : ∀ vm₁, s.WarmedH vm₁ → Pre ⟨T.setVm vm₁, locs, cells, slots⟩ (Value.ref b :: argsL).toArray) :
    ∃ (v : Option Value) (vm₁ : Vm) (B : Pt), s.WarmedH vm₁ ∧ Stand p l e R s m args below meth c B.U B.locs B.cells B.slots ∧ Post ⟨T.setVm vm₁, locs, cells, slots⟩ (Value.ref b :: argsL).toArray v B ∧
      ∀ target, Steps p.tables e below (B.U.setTop { g with pc := g.pc + 3, stack := v.toList ++ rest }) target → Steps p.tables e below (T.setTop g) target := by
  obtain ⟨mk, methM, hnamed, hmethM, hstM, habM⟩ := Cond.instanceMethod_spec hinst
  obtain ⟨m8, methM', cM, hn8, hmethM', -, -, -, -, -, -, hsigM⟩ := Cond.codeWith_spec hcode
  cases Option.some.inj (hn8.symm.trans hnamed)
  cases hmethM.symm.trans hmethM'
  obtain ⟨c2, r2, m2, q1, q2, q3, q4, kP, hkP, hkPi⟩ := Cond.selects_spec hsel
  cases hcls.symm.trans q1
  cases (State.methodFound?_of_named hnamed hy).symm.trans q2
  cases hnamed.symm.trans q3
  have hselP : selectMethod e.platform s.vm cellB.cls mk = .method mk := by rw [Launch.admits_selectMethod X.admits]; exact q4
  obtain ⟨vm₁, X₁, hstep₁⟩ := X.invokevirtual hexec hown hlink hnamed hmethM hstM hkP hkPi hy (a := b) (cell := cellB) hcell
    (fun z h => by rw [h] at hobj; cases hobj) hselP hmethM habM hkP hkPi (g := g) hg (argsL := argsL) (rest := rest) (hlen _ hsigM) hstack hdg
  obtain ⟨v, B, X', hpost, hsteps⟩ := hK m meth c ⟨T.setVm vm₁, locs, cells, slots⟩ { g with stack := rest } (.invokevirtual index) mk (Value.ref b :: argsL).toArray X₁ hg hsize hdg hW (X₁.named hnamed) (hpre vm₁ X₁.warmed)
  exact ⟨v, vm₁, B, X₁.warmed, X', hpost, fun target h => hstep₁ _ fun acts => by rw [doInvoke_state]; exact hsteps.trans h⟩
abbrev vx_CVW (R : Room) (s : State) (args : Array Value) (own C : String) (index : Nat) (y : MethodName) (bytes : ByteArray) (maxL : Nat) (ret : Option FieldType) (hh : List (Nat × Nat × Nat × Nat)) (ws : List Cond) (rm : Room) (mc ms n : Nat) : Prop :=
  (rm.cells = mc ∧ rm.slots = ms ∧ rm.frames + 1 ≤ R.frames ∧ 8 + (maxL + 11) + rm.locals ≤ R.locals ∧ (∀ w ∈ ws, ∀ (a' : Array Value) (U : State), s.WarmedH U.vm → w.before a' U = true) ∧ Cond.codeWith y bytes maxL ret hh ∈ ws) ∧
  (Cond.codeWith y bytes maxL ret hh).before args s = true ∧ (Cond.initialized y.cls).before args s = true ∧ (y.cls ≠ "java/lang/invoke/MethodHandle" ∧ y.cls ≠ "java/lang/invoke/VarHandle") ∧
  (∀ sig, parseMethodDescriptor y.desc = some sig → n = sig.parameters.length) ∧ (Cond.methodLink own index y).before args s = true ∧ (Cond.instanceMethod y).before args s = true ∧ (Cond.selects C y y).before args s = true
theorem vx_cwVW {own C : String} {index maxL mc ms : Nat} {y : MethodName} {bytes : ByteArray} {ret : Option FieldType} {hh : List (Nat × Nat × Nat × Nat)} {Ts ws ws' : List Cond} {rm : Room} (n : Nat) (ht : ∀ w ∈ Ts, w.before args s = true) (hT : GoodIn Ts (wsV own index C y ws)) (hw : ws = Cond.codeWith y bytes maxL ret hh :: ws') (hrc : rm.cells = mc) (hrs : rm.slots = ms)
    (hd : y.cls = C ∧ y.cls ≠ "java/lang/invoke/MethodHandle" ∧ y.cls ≠ "java/lang/invoke/VarHandle" ∧ (parseMethodDescriptor y.desc).map (fun d => d.parameters.length) = some n) (hR : rm.frames + 1 ≤ R.frames ∧ 8 + (maxL + 11) + rm.locals ≤ R.locals) :
    vx_CVW R s args own C index y bytes maxL ret hh ws rm mc ms n := by
  obtain ⟨hC, hd⟩ := hd
  subst hC
  have ok : ∀ w ∈ wsV own index y.cls y ws, w.before args s = true := fun w h => ht w (hT w h).1
  have hG : GoodIn Ts ws := fun w h => hT w (by unfold wsV; exact List.mem_append_right _ h)
  have hc : Cond.codeWith y bytes maxL ret hh ∈ ws := by rw [hw]; exact List.mem_cons_self
  refine ⟨⟨hrc, hrs, hR.1, hR.2, pay_in ht hG, hc⟩, ht _ (hG _ hc).1, ok _ (by simp [wsV]), ⟨hd.1, hd.2.1⟩, fun sig h => ?_, ok _ (by simp [wsV]), ok _ (by simp [wsV]), ok _ (by simp [wsV])⟩
  have h2 := hd.2.2
  rw [h] at h2
  exact (Option.some.inj h2).symm
theorem vx_runVW {y : MethodName} {bytes cc : ByteArray} {maxL nL mc ms n index : Nat} {ret : Option FieldType} {hh : List (Nat × Nat × Nat × Nat)} {ws : List Cond} {rm : Room} {Pc : Array Value → State → Prop} {Qc : Array Value → State → Outcome → State → Prop} {free : Addr → Prop} {Ts : List Cond} {own C : String} {b : Addr} {As rest : List Value} {g : JFrame}
    (S : CallFix p m c cc nL s args Ts own) (hM : Met l y ws rm Pc Qc mc ms free) (cw : vx_CVW R s args own C index y bytes maxL ret hh ws rm mc ms n) (hp : PreV s H C b Pc As)
    (hg : g.method = m) (hn : As.length = n) (hsize : g.locals.size = nL) (hstack : g.stack = As.reverse ++ .ref b :: rest) (hW : 2 * g.monitorRoom + (rest.map fun v => v.category).sum ≤ 8) (hdg : decode cc g.pc = .ok (.invokevirtual index, 3)) (hf : cells + mc ≤ R.cells ∧ slots + ms ≤ R.slots) :
    va_Run p l e R s m args below meth c H locs cells slots mc ms g rest (Qc (Value.ref b :: As).toArray) free := by
  obtain ⟨⟨hrc, hrs, hfr, hlo, hws, hcw⟩, hcode, hini, hy, hlen, hl, hin, hse⟩ := cw
  have hK : Back l R p e below s args y 3 8 (PreOf R mc ms Pc) (PostOf Qc mc ms free) := va_backW (hh := hh) (bytes := bytes) (maxL := maxL) (ret := ret) hM hp.1 hrc hrs hfr hlo hws hcw (fun a' U hW => word_at hW (Or.inl (by first | rfl | simp [Cond.onTables, Cond.keeps, Cond.steady])) hini)
  obtain ⟨hx, hb, hml, ho, -⟩ := S
  obtain ⟨-, ⟨cellB, hcB, hoB, hclB⟩, hPc⟩ := hp
  intro T hT X
  obtain ⟨v, vm₁, ⟨U', l2, c2, s2⟩, hW₁, X', ⟨g', mk, t, L, e1, e2, hq, h1, hL, h2, h3⟩, st⟩ := vx_callVW X hx (C := C) (hh := hh) (bytes := bytes) (maxL := maxL) (ret := ret) ho hl hin hse hcode hy hK (by rw [hT]; exact hcB) hoB hclB hg (hsize.trans hml.symm) (argsL := As) (rest := rest) (fun sig h => hn.trans (hlen sig h)) hstack hW (by rw [hb]; exact hdg)
    (fun vm₁ hW₁ => ⟨hf.1, hf.2, hPc (T.setVm vm₁) hT hW₁⟩)
  dsimp only [Pt.U, Pt.locs, Pt.cells, Pt.slots] at X' e1 e2 h1 h2 h3 st
  subst h1; subst h2; subst h3
  exact ⟨v, (T.setVm vm₁).calling g' mk (Value.ref b :: As).toArray, t, U', L, hT, X', hL, e1, e2, hq, st⟩
section
variable {y : MethodName} {bytes cc : ByteArray} {maxL nL mc ms n index : Nat} {ret : Option FieldType} {ws : List Cond} {rm : Room} {Pc : Array Value → State → Prop} {Qc : Array Value → State → Outcome → State → Prop} {XC : String → State → State → Prop} {free : Addr → Prop} {Ts : List Cond} {own C : String} {b : Addr} {As rest : List Value} {g : JFrame}
theorem vx_runVX {hh : List (Nat × Nat × Nat × Nat)} (S : CallFix p m c cc nL s args Ts own) (hM : vx_Met l y ws rm Pc Qc XC mc ms free) (cw : vx_CVW R s args own C index y bytes maxL ret hh ws rm mc ms n) (hp : PreV s H C b Pc As)
    (hg : g.method = m) (hn : As.length = n) (hsize : g.locals.size = nL) (hstack : g.stack = As.reverse ++ .ref b :: rest) (hW : 2 * g.monitorRoom + (rest.map fun v => v.category).sum ≤ 8) (hdg : decode cc g.pc = .ok (.invokevirtual index, 3)) (hf : cells + mc ≤ R.cells ∧ slots + ms ≤ R.slots) :
    vx_Run p l e R s m args below meth c H locs cells slots mc ms g rest (Qc (Value.ref b :: As).toArray) XC free := by
  obtain ⟨⟨hrc, hrs, hfr, hlo, hws, hcw⟩, hcode, hini, hy, hlen, hl, hin, hse⟩ := cw
  have hK : vx_Back l R p e below s args y 3 8 (PreOf R mc ms Pc) (PostOf Qc mc ms free) (vx_Post XC mc ms free) := vx_backW (hh := hh) (bytes := bytes) (maxL := maxL) (ret := ret) hM hp.1 hrc hrs hfr hlo hws hcw (fun a' U hW => word_at hW (Or.inl (by first | rfl | simp [Cond.onTables, Cond.keeps, Cond.steady])) hini)
  obtain ⟨hx, hb, hml, ho, -⟩ := S
  obtain ⟨-, ⟨cellB, hcB, hoB, hclB⟩, hPc⟩ := hp
  intro T hT X
  rcases vx_callVX X hx (C := C) (hh := hh) (bytes := bytes) (maxL := maxL) (ret := ret) ho hl hin hse hcode hy hK (by rw [hT]; exact hcB) hoB hclB hg (hsize.trans hml.symm) (argsL := As) (rest := rest) (fun sig h => hn.trans (hlen sig h)) hstack hW (by rw [hb]; exact hdg)
    (fun vm₁ hW₁ => ⟨hf.1, hf.2, hPc (T.setVm vm₁) hT hW₁⟩) with ⟨v, vm₁, ⟨U', l2, c2, s2⟩, hW₁, X', ⟨g', mk, t, L, e1, e2, hq, h1, hL, h2, h3⟩, st⟩ | ⟨q, vm₁, ⟨U', l2, c2, s2⟩, hW₁, X', ⟨g', mk, t, L, E, ce, e1, e2, hq, hce, hcv, hcl, h1, hL, h2, h3⟩, st⟩
  · dsimp only [Pt.U, Pt.locs, Pt.cells, Pt.slots] at X' e1 e2 h1 h2 h3 st
    subst h1; subst h2; subst h3
    exact Or.inl ⟨v, (T.setVm vm₁).calling g' mk (Value.ref b :: As).toArray, t, U', L, hT, X', hL, e1, e2, hq, st⟩
  · dsimp only [Pt.U, Pt.locs, Pt.cells, Pt.slots] at X' e1 e2 h1 h2 h3 st hcl
    subst h1; subst h2; subst h3
    exact Or.inr ⟨q, (T.setVm vm₁).calling g' mk (Value.ref b :: As).toArray, t, U', L, E, ce, hT, X', hL, e1, e2, hq, hce, hcv, vx_cls hW₁ hcl, st⟩
theorem vx_runSX {hh : List (Nat × Nat × Nat × Nat)} (S : CallFix p m c cc nL s args Ts own) (hM : vx_Met l y ws rm Pc Qc XC mc ms free) (cw : vx_CSW R s args own index y bytes maxL ret hh ws rm mc ms n) (hp : PreS s H Pc As)
    (hg : g.method = m) (hn : As.length = n) (hsize : g.locals.size = nL) (hstack : g.stack = As.reverse ++ rest) (hW : 2 * g.monitorRoom + (rest.map fun v => v.category).sum ≤ 8) (hdg : decode cc g.pc = .ok (.invokestatic index, 3)) (hf : cells + mc ≤ R.cells ∧ slots + ms ≤ R.slots) :
    vx_Run p l e R s m args below meth c H locs cells slots mc ms g rest (Qc As.toArray) XC free := by
  obtain ⟨⟨hrc, hrs, hfr, hlo, hws, hcw⟩, hcode, hini, hy, hlen, hl, hstt⟩ := cw
  have hK : vx_Back l R p e below s args y 3 8 (PreOf R mc ms Pc) (PostOf Qc mc ms free) (vx_Post XC mc ms free) := vx_backW (hh := hh) (bytes := bytes) (maxL := maxL) (ret := ret) hM hp.1 hrc hrs hfr hlo hws hcw (fun a' U hW => word_at hW (Or.inl (by first | rfl | simp [Cond.onTables, Cond.keeps, Cond.steady])) hini)
  obtain ⟨hx, hb, hml, ho, -⟩ := S
  intro T hT X
  rcases vx_callSX X hx (hh := hh) (bytes := bytes) (maxL := maxL) (ret := ret) ho hl hstt hini hcode hy hK hg (hsize.trans hml.symm) (argsL := As) (rest := rest) (fun sig h => hn.trans (hlen sig h)) hstack hW (by rw [hb]; exact hdg)
    (fun vm₁ hW₁ => ⟨hf.1, hf.2, hp.2 (T.setVm vm₁) hT hW₁⟩) with ⟨v, vm₁, ⟨U', l2, c2, s2⟩, hW₁, X', ⟨g', mk, t, L, e1, e2, hq, h1, hL, h2, h3⟩, st⟩ | ⟨q, vm₁, ⟨U', l2, c2, s2⟩, hW₁, X', ⟨g', mk, t, L, E, ce, e1, e2, hq, hce, hcv, hcl, h1, hL, h2, h3⟩, st⟩
  · dsimp only [Pt.U, Pt.locs, Pt.cells, Pt.slots] at X' e1 e2 h1 h2 h3 st
    subst h1; subst h2; subst h3
    exact Or.inl ⟨v, (T.setVm vm₁).calling g' mk As.toArray, t, U', L, hT, X', hL, e1, e2, hq, st⟩
  · dsimp only [Pt.U, Pt.locs, Pt.cells, Pt.slots] at X' e1 e2 h1 h2 h3 st hcl
    subst h1; subst h2; subst h3
    exact Or.inr ⟨q, (T.setVm vm₁).calling g' mk As.toArray, t, U', L, E, ce, hT, X', hL, e1, e2, hq, hce, hcv, vx_cls hW₁ hcl, st⟩
end
end VXH
theorem vx_ofWH {l : Launch} {y : MethodName} {ws ws' : List Cond} {rm : Room} {Pc : Array Value → State → Prop} {Qc : Array Value → State → Outcome → State → Prop} {XC : String → State → State → Prop} {mc ms : Nat} {free : Addr → Prop} {cc : ByteArray} {maxL : Nat} {ret : Option FieldType} {hh : List (Nat × Nat × Nat × Nat)}
    (hy : plainName y.cls = true) (hw : ws = Cond.codeWith y cc maxL ret hh :: ws')
    (body : ∀ p e s m args below meth c s₁, BodyLoose p l y (headSpec ws rm) cc maxL ret e s m args below meth c s₁ → c.maxLocals = maxL → Pc args s →
      W p l e (headSpec ws rm).room s m args below meth c s.heap [] 0 0 (vx_MQ below Qc XC args s mc ms free) (entryFrame m args maxL)) : vx_Met l y ws rm Pc Qc XC mc ms free := by
  refine MetFree.of_bodyS (code := cc) (maxLocals := maxL) (ret := ret) hy ?_ ?_
  · intro args s m h hn
    obtain ⟨m9, meth, c, hn9, h1, h2, h3, h4, -, h5, h6, -⟩ := Cond.codeWith_spec (atoms_spec (ws := ws) h _ (by rw [hw]; exact List.mem_cons_self))
    cases hn.symm.trans hn9
    exact ⟨meth, c, h1, h2, h3, h4, h5, h6⟩
  · intro p e s m args below meth c s₁ B hml hP _
    have hh0 : s₁.heap = s.heap := by rw [B.state]; rfl
    obtain ⟨t, a1, o, b1, b2, b3⟩ := body p e s m args below meth c s₁ B hml hP s₁ hh0 (Stand.of_body B)
    exact ⟨t, o, a1, b1, b2, b3⟩
/-! ===== END ===== -/
end
section
/-! ===== BEGIN printed: names, fields, word lists, decode rows ===== -/
def RX0 : String := "PennantRopes$History"
def TX0 : u_T := fun k => match k with
  | 0 => ("PennantRopes$History", "states", "[LPennantRopes$State;", true)
  | _ => ("PennantRopes$History", "size", "I", false)
def tyX0 : Nat → FieldType := fun k => match k with
  | 0 => .array (.object "PennantRopes$State")
  | _ => .int
abbrev wsX00 : List Cond := u_ws RX0 TX0 2
theorem nmX0 : ∀ a, a < 2 → ∀ b, b < 2 → a ≠ b → (TX0 a).2.1 ≠ (TX0 b).2.1 := by decide +kernel
theorem tyX0_ok : ∀ k, k < 2 → parseFieldDescriptor (TX0 k).2.2.1 = some (tyX0 k) := by decide +kernel
abbrev cX0_init : ByteArray := prog_2_method_1_code
def yX0_init : MethodName := ⟨RX0, "<init>", "()V"⟩
abbrev cX0_size : ByteArray := prog_2_method_2_code
def yX0_size : MethodName := ⟨RX0, "size", "()I"⟩
abbrev cX0_save : ByteArray := prog_2_method_3_code
def yX0_save : MethodName := ⟨RX0, "save", "(LPennantRopes$State;)V"⟩
abbrev cX0_restoreLatest : ByteArray := prog_2_method_4_code
def yX0_restoreLatest : MethodName := ⟨RX0, "restoreLatest", "(LPennantRopes$State;)V"⟩
abbrev cX0_rowAt : ByteArray := prog_2_method_5_code
def yX0_rowAt : MethodName := ⟨RX0, "rowAt", "(I)LPennantRopes$State;"⟩
abbrev cX0_dropOldest : ByteArray := prog_2_method_6_code
def yX0_dropOldest : MethodName := ⟨RX0, "dropOldest", "()V"⟩
def RX1 : String := "PennantRopes$Numbers"
def TX1 : u_T := fun k => match k with
  | _ => ("", "", "", false)
def tyX1 : Nat → FieldType := fun k => match k with
  | _ => .int
abbrev wsX10 : List Cond := u_ws RX1 TX1 0
theorem nmX1 : ∀ a, a < 0 → ∀ b, b < 0 → a ≠ b → (TX1 a).2.1 ≠ (TX1 b).2.1 := by decide +kernel
theorem tyX1_ok : ∀ k, k < 0 → parseFieldDescriptor (TX1 k).2.2.1 = some (tyX1 k) := by decide +kernel
abbrev cX1_remainder : ByteArray := prog_3_method_2_code
def yX1_remainder : MethodName := ⟨RX1, "remainder", "(II)I"⟩
abbrev cX1_greatestCommonDivisor : ByteArray := prog_3_method_3_code
def yX1_greatestCommonDivisor : MethodName := ⟨RX1, "greatestCommonDivisor", "(II)I"⟩
abbrev cX1_leastCommonMultiple : ByteArray := prog_3_method_4_code
def yX1_leastCommonMultiple : MethodName := ⟨RX1, "leastCommonMultiple", "(II)I"⟩
abbrev cX1_meetByRemainders : ByteArray := prog_3_method_5_code
def yX1_meetByRemainders : MethodName := ⟨RX1, "meetByRemainders", "(IIII)I"⟩
abbrev cX1_meetByWalking : ByteArray := prog_3_method_6_code
def yX1_meetByWalking : MethodName := ⟨RX1, "meetByWalking", "(IIII)I"⟩
abbrev cX1_bitsOfShare : ByteArray := prog_3_method_7_code
def yX1_bitsOfShare : MethodName := ⟨RX1, "bitsOfShare", "(D)J"⟩
def RX2 : String := "PennantRopes$Rope"
def TX2 : u_T := fun k => match k with
  | 0 => ("PennantRopes$Rope", "colours", "[I", true)
  | 1 => ("PennantRopes$Rope", "orders", "[I", true)
  | 2 => ("PennantRopes$Rope", "length", "I", false)
  | _ => ("PennantRopes$Rope", "hueCount", "I", false)
def tyX2 : Nat → FieldType := fun k => match k with
  | 0 => .array .int
  | 1 => .array .int
  | 2 => .int
  | _ => .int
abbrev wsX20 : List Cond := u_ws RX2 TX2 4
theorem nmX2 : ∀ a, a < 4 → ∀ b, b < 4 → a ≠ b → (TX2 a).2.1 ≠ (TX2 b).2.1 := by decide +kernel
theorem tyX2_ok : ∀ k, k < 4 → parseFieldDescriptor (TX2 k).2.2.1 = some (tyX2 k) := by decide +kernel
abbrev cX2_init : ByteArray := prog_4_method_1_code
def yX2_init : MethodName := ⟨RX2, "<init>", "()V"⟩
abbrev cX2_length : ByteArray := prog_4_method_2_code
def yX2_length : MethodName := ⟨RX2, "length", "()I"⟩
abbrev cX2_hueCount : ByteArray := prog_4_method_3_code
def yX2_hueCount : MethodName := ⟨RX2, "hueCount", "()I"⟩
abbrev cX2_begin : ByteArray := prog_4_method_4_code
def yX2_begin : MethodName := ⟨RX2, "begin", "(I)V"⟩
abbrev cX2_copyFrom : ByteArray := prog_4_method_5_code
def yX2_copyFrom : MethodName := ⟨RX2, "copyFrom", "(LPennantRopes$Rope;)V"⟩
abbrev cX2_colourAt : ByteArray := prog_4_method_6_code
def yX2_colourAt : MethodName := ⟨RX2, "colourAt", "(I)I"⟩
abbrev cX2_setColour : ByteArray := prog_4_method_7_code
def yX2_setColour : MethodName := ⟨RX2, "setColour", "(II)V"⟩
abbrev cX2_hueAt : ByteArray := prog_4_method_8_code
def yX2_hueAt : MethodName := ⟨RX2, "hueAt", "(I)I"⟩
abbrev cX2_orderOf : ByteArray := prog_4_method_9_code
def yX2_orderOf : MethodName := ⟨RX2, "orderOf", "(I)I"⟩
abbrev cX2_firstFrom : ByteArray := prog_4_method_10_code
def yX2_firstFrom : MethodName := ⟨RX2, "firstFrom", "(II)I"⟩
abbrev cX2_lastOf : ByteArray := prog_4_method_11_code
def yX2_lastOf : MethodName := ⟨RX2, "lastOf", "(I)I"⟩
abbrev cX2_placesOf : ByteArray := prog_4_method_12_code
def yX2_placesOf : MethodName := ⟨RX2, "placesOf", "(I)I"⟩
abbrev cX2_placesFrom : ByteArray := prog_4_method_13_code
def yX2_placesFrom : MethodName := ⟨RX2, "placesFrom", "(II)I"⟩
abbrev cX2_reasonAgainst : ByteArray := prog_4_method_14_code
def yX2_reasonAgainst : MethodName := ⟨RX2, "reasonAgainst", "(III)I"⟩
abbrev cX2_put : ByteArray := prog_4_method_15_code
def yX2_put : MethodName := ⟨RX2, "put", "(III)I"⟩
abbrev cX2_remove : ByteArray := prog_4_method_16_code
def yX2_remove : MethodName := ⟨RX2, "remove", "(I)I"⟩
abbrev cX2_differences : ByteArray := prog_4_method_17_code
def yX2_differences : MethodName := ⟨RX2, "differences", "(LPennantRopes$Rope;)I"⟩
abbrev cX2_mostHolesSideBySide : ByteArray := prog_4_method_18_code
def yX2_mostHolesSideBySide : MethodName := ⟨RX2, "mostHolesSideBySide", "()I"⟩
abbrev cX2_hueNumber : ByteArray := prog_4_method_19_code
def yX2_hueNumber : MethodName := ⟨RX2, "hueNumber", "(II)I"⟩
abbrev cX2_phaseNumber : ByteArray := prog_4_method_20_code
def yX2_phaseNumber : MethodName := ⟨RX2, "phaseNumber", "(III)I"⟩
abbrev cX2_fittingPhases : ByteArray := prog_4_method_21_code
def yX2_fittingPhases : MethodName := ⟨RX2, "fittingPhases", "(II)I"⟩
abbrev cX2_lowestPhase : ByteArray := prog_4_method_22_code
def yX2_lowestPhase : MethodName := ⟨RX2, "lowestPhase", "(II)I"⟩
abbrev cX2_fillingPhase : ByteArray := prog_4_method_23_code
def yX2_fillingPhase : MethodName := ⟨RX2, "fillingPhase", "(II)I"⟩
def RX3 : String := "PennantRopes$State"
def TX3 : u_T := fun k => match k with
  | 0 => ("PennantRopes$State", "gaps", "[I", true)
  | 1 => ("PennantRopes$State", "ropes", "[LPennantRopes$Rope;", true)
  | 2 => ("PennantRopes$State", "ropeCount", "I", false)
  | 3 => ("PennantRopes$State", "layings", "I", false)
  | 4 => ("PennantRopes$State", "joins", "I", false)
  | _ => ("PennantRopes$State", "cuts", "I", false)
def tyX3 : Nat → FieldType := fun k => match k with
  | 0 => .array .int
  | 1 => .array (.object "PennantRopes$Rope")
  | 2 => .int
  | 3 => .int
  | 4 => .int
  | _ => .int
abbrev wsX30 : List Cond := u_ws RX3 TX3 6
theorem nmX3 : ∀ a, a < 6 → ∀ b, b < 6 → a ≠ b → (TX3 a).2.1 ≠ (TX3 b).2.1 := by decide +kernel
theorem tyX3_ok : ∀ k, k < 6 → parseFieldDescriptor (TX3 k).2.2.1 = some (tyX3 k) := by decide +kernel
abbrev cX3_init : ByteArray := prog_5_method_1_code
def yX3_init : MethodName := ⟨RX3, "<init>", "()V"⟩
abbrev cX3_copyFrom : ByteArray := prog_5_method_2_code
def yX3_copyFrom : MethodName := ⟨RX3, "copyFrom", "(LPennantRopes$State;)V"⟩
abbrev cX3_gapAt : ByteArray := prog_5_method_3_code
def yX3_gapAt : MethodName := ⟨RX3, "gapAt", "(I)I"⟩
abbrev cX3_setGap : ByteArray := prog_5_method_4_code
def yX3_setGap : MethodName := ⟨RX3, "setGap", "(II)V"⟩
abbrev cX3_ropeCount : ByteArray := prog_5_method_5_code
def yX3_ropeCount : MethodName := ⟨RX3, "ropeCount", "()I"⟩
abbrev cX3_ropeAt : ByteArray := prog_5_method_6_code
def yX3_ropeAt : MethodName := ⟨RX3, "ropeAt", "(I)LPennantRopes$Rope;"⟩
abbrev cX3_addRope : ByteArray := prog_5_method_7_code
def yX3_addRope : MethodName := ⟨RX3, "addRope", "(I)LPennantRopes$Rope;"⟩
abbrev cX3_removeRope : ByteArray := prog_5_method_8_code
def yX3_removeRope : MethodName := ⟨RX3, "removeRope", "(I)V"⟩
abbrev cX3_layOn : ByteArray := prog_5_method_9_code
def yX3_layOn : MethodName := ⟨RX3, "layOn", "(LPennantRopes$Rope;II)I"⟩
abbrev cX3_countJoin : ByteArray := prog_5_method_10_code
def yX3_countJoin : MethodName := ⟨RX3, "countJoin", "()V"⟩
abbrev cX3_countCut : ByteArray := prog_5_method_11_code
def yX3_countCut : MethodName := ⟨RX3, "countCut", "()V"⟩
abbrev cX3_layings : ByteArray := prog_5_method_12_code
def yX3_layings : MethodName := ⟨RX3, "layings", "()I"⟩
abbrev cX3_joins : ByteArray := prog_5_method_13_code
def yX3_joins : MethodName := ⟨RX3, "joins", "()I"⟩
abbrev cX3_cuts : ByteArray := prog_5_method_14_code
def yX3_cuts : MethodName := ⟨RX3, "cuts", "()I"⟩
abbrev cX3_places : ByteArray := prog_5_method_15_code
def yX3_places : MethodName := ⟨RX3, "places", "()I"⟩
abbrev cX3_holes : ByteArray := prog_5_method_16_code
def yX3_holes : MethodName := ⟨RX3, "holes", "()I"⟩
abbrev cX3_laidHues : ByteArray := prog_5_method_17_code
def yX3_laidHues : MethodName := ⟨RX3, "laidHues", "()I"⟩
abbrev cX3_isLaidOnSome : ByteArray := prog_5_method_18_code
def yX3_isLaidOnSome : MethodName := ⟨RX3, "isLaidOnSome", "(I)Z"⟩
def RX4 : String := "PennantRopes$Text"
def TX4 : u_T := fun k => match k with
  | 0 => ("PennantRopes$Text", "codes", "[I", true)
  | _ => ("PennantRopes$Text", "length", "I", false)
def tyX4 : Nat → FieldType := fun k => match k with
  | 0 => .array .int
  | _ => .int
abbrev wsX40 : List Cond := u_ws RX4 TX4 2
theorem nmX4 : ∀ a, a < 2 → ∀ b, b < 2 → a ≠ b → (TX4 a).2.1 ≠ (TX4 b).2.1 := by decide +kernel
theorem tyX4_ok : ∀ k, k < 2 → parseFieldDescriptor (TX4 k).2.2.1 = some (tyX4 k) := by decide +kernel
abbrev cX4_init : ByteArray := prog_6_method_1_code
def yX4_init : MethodName := ⟨RX4, "<init>", "()V"⟩
abbrev cX4_length : ByteArray := prog_6_method_2_code
def yX4_length : MethodName := ⟨RX4, "length", "()I"⟩
abbrev cX4_isFull : ByteArray := prog_6_method_3_code
def yX4_isFull : MethodName := ⟨RX4, "isFull", "()Z"⟩
abbrev cX4_add : ByteArray := prog_6_method_4_code
def yX4_add : MethodName := ⟨RX4, "add", "(I)V"⟩
abbrev cX4_empty : ByteArray := prog_6_method_5_code
def yX4_empty : MethodName := ⟨RX4, "empty", "()V"⟩
abbrev cX4_codeAt : ByteArray := prog_6_method_6_code
def yX4_codeAt : MethodName := ⟨RX4, "codeAt", "(I)I"⟩
abbrev cX4_firstWrong : ByteArray := prog_6_method_7_code
def yX4_firstWrong : MethodName := ⟨RX4, "firstWrong", "()I"⟩
abbrev cX4_isComplete : ByteArray := prog_6_method_8_code
def yX4_isComplete : MethodName := ⟨RX4, "isComplete", "()Z"⟩
abbrev cX4_partEnd : ByteArray := prog_6_method_9_code
def yX4_partEnd : MethodName := ⟨RX4, "partEnd", "(I)I"⟩
abbrev cX4_numberIn : ByteArray := prog_6_method_10_code
def yX4_numberIn : MethodName := ⟨RX4, "numberIn", "(II)I"⟩
abbrev cX4_dueBehind : ByteArray := prog_6_method_11_code
def yX4_dueBehind : MethodName := ⟨RX4, "dueBehind", "(II)I"⟩
abbrev cX4_dueBehindFirst : ByteArray := prog_6_method_12_code
def yX4_dueBehindFirst : MethodName := ⟨RX4, "dueBehindFirst", "(I)I"⟩
abbrev cX4_dueBehindLengthDigit : ByteArray := prog_6_method_13_code
def yX4_dueBehindLengthDigit : MethodName := ⟨RX4, "dueBehindLengthDigit", "(I)I"⟩
abbrev cX4_dueBehindPhaseDigit : ByteArray := prog_6_method_14_code
def yX4_dueBehindPhaseDigit : MethodName := ⟨RX4, "dueBehindPhaseDigit", "(I)I"⟩
abbrev cX4_dueBehindComma : ByteArray := prog_6_method_15_code
def yX4_dueBehindComma : MethodName := ⟨RX4, "dueBehindComma", "(I)I"⟩
abbrev cX4_isHue : ByteArray := prog_6_method_16_code
def yX4_isHue : MethodName := ⟨RX4, "isHue", "(I)Z"⟩
abbrev cX4_isBetween : ByteArray := prog_6_method_17_code
def yX4_isBetween : MethodName := ⟨RX4, "isBetween", "(III)Z"⟩
def RX5 : String := "PennantRopes"
def TX5 : u_T := fun k => match k with
  | 0 => ("PennantRopes", "now", "LPennantRopes$State;", true)
  | 1 => ("PennantRopes", "kept", "LPennantRopes$State;", true)
  | 2 => ("PennantRopes", "history", "LPennantRopes$History;", true)
  | 3 => ("PennantRopes", "text", "LPennantRopes$Text;", true)
  | 4 => ("PennantRopes", "draft", "LPennantRopes$Rope;", true)
  | _ => ("PennantRopes", "hasKept", "Z", false)
def tyX5 : Nat → FieldType := fun k => match k with
  | 0 => .object "PennantRopes$State"
  | 1 => .object "PennantRopes$State"
  | 2 => .object "PennantRopes$History"
  | 3 => .object "PennantRopes$Text"
  | 4 => .object "PennantRopes$Rope"
  | _ => .boolean
abbrev wsX50 : List Cond := u_ws RX5 TX5 6
theorem nmX5 : ∀ a, a < 6 → ∀ b, b < 6 → a ≠ b → (TX5 a).2.1 ≠ (TX5 b).2.1 := by decide +kernel
theorem tyX5_ok : ∀ k, k < 6 → parseFieldDescriptor (TX5 k).2.2.1 = some (tyX5 k) := by decide +kernel
abbrev cX5_init : ByteArray := prog_1_method_1_code
def yX5_init : MethodName := ⟨RX5, "<init>", "()V"⟩
abbrev cX5_gap : ByteArray := prog_1_method_2_code
def yX5_gap : MethodName := ⟨RX5, "gap", "(II)I"⟩
abbrev cX5_rope : ByteArray := prog_1_method_3_code
def yX5_rope : MethodName := ⟨RX5, "rope", "(I)I"⟩
abbrev cX5_drop : ByteArray := prog_1_method_4_code
def yX5_drop : MethodName := ⟨RX5, "drop", "(I)I"⟩
abbrev cX5_lay : ByteArray := prog_1_method_5_code
def yX5_lay : MethodName := ⟨RX5, "lay", "(III)I"⟩
abbrev cX5_take : ByteArray := prog_1_method_6_code
def yX5_take : MethodName := ⟨RX5, "take", "(II)I"⟩
abbrev cX5_stretch : ByteArray := prog_1_method_7_code
def yX5_stretch : MethodName := ⟨RX5, "stretch", "(II)I"⟩
abbrev cX5_cut : ByteArray := prog_1_method_8_code
def yX5_cut : MethodName := ⟨RX5, "cut", "(II)I"⟩
abbrev cX5_turn : ByteArray := prog_1_method_9_code
def yX5_turn : MethodName := ⟨RX5, "turn", "(I)I"⟩
abbrev cX5_join : ByteArray := prog_1_method_10_code
def yX5_join : MethodName := ⟨RX5, "join", "(II)I"⟩
abbrev cX5_append : ByteArray := prog_1_method_11_code
def yX5_append : MethodName := ⟨RX5, "append", "(I)I"⟩
abbrev cX5_clearBuffer : ByteArray := prog_1_method_12_code
def yX5_clearBuffer : MethodName := ⟨RX5, "clearBuffer", "()I"⟩
abbrev cX5_firstError : ByteArray := prog_1_method_13_code
def yX5_firstError : MethodName := ⟨RX5, "firstError", "()I"⟩
abbrev cX5_play : ByteArray := prog_1_method_14_code
def yX5_play : MethodName := ⟨RX5, "play", "()I"⟩
abbrev cX5_undo : ByteArray := prog_1_method_15_code
def yX5_undo : MethodName := ⟨RX5, "undo", "()I"⟩
abbrev cX5_keep : ByteArray := prog_1_method_16_code
def yX5_keep : MethodName := ⟨RX5, "keep", "()I"⟩
abbrev cX5_restore : ByteArray := prog_1_method_17_code
def yX5_restore : MethodName := ⟨RX5, "restore", "()I"⟩
abbrev cX5_place : ByteArray := prog_1_method_18_code
def yX5_place : MethodName := ⟨RX5, "place", "(II)I"⟩
abbrev cX5_ropeOf : ByteArray := prog_1_method_19_code
def yX5_ropeOf : MethodName := ⟨RX5, "ropeOf", "(II)I"⟩
abbrev cX5_hueOf : ByteArray := prog_1_method_20_code
def yX5_hueOf : MethodName := ⟨RX5, "hueOf", "(III)I"⟩
abbrev cX5_gapOf : ByteArray := prog_1_method_21_code
def yX5_gapOf : MethodName := ⟨RX5, "gapOf", "(I)I"⟩
abbrev cX5_count : ByteArray := prog_1_method_22_code
def yX5_count : MethodName := ⟨RX5, "count", "(I)I"⟩
abbrev cX5_refusal : ByteArray := prog_1_method_23_code
def yX5_refusal : MethodName := ⟨RX5, "refusal", "(III)I"⟩
abbrev cX5_meeting : ByteArray := prog_1_method_24_code
def yX5_meeting : MethodName := ⟨RX5, "meeting", "(IIII)I"⟩
abbrev cX5_walked : ByteArray := prog_1_method_25_code
def yX5_walked : MethodName := ⟨RX5, "walked", "(IIII)I"⟩
abbrev cX5_phases : ByteArray := prog_1_method_26_code
def yX5_phases : MethodName := ⟨RX5, "phases", "(III)I"⟩
abbrev cX5_bestHue : ByteArray := prog_1_method_27_code
def yX5_bestHue : MethodName := ⟨RX5, "bestHue", "(I)I"⟩
abbrev cX5_joining : ByteArray := prog_1_method_28_code
def yX5_joining : MethodName := ⟨RX5, "joining", "(II)I"⟩
abbrev cX5_greatest : ByteArray := prog_1_method_29_code
def yX5_greatest : MethodName := ⟨RX5, "greatest", "(I)I"⟩
abbrev cX5_fullness : ByteArray := prog_1_method_30_code
def yX5_fullness : MethodName := ⟨RX5, "fullness", "()D"⟩
abbrev cX5_digest : ByteArray := prog_1_method_31_code
def yX5_digest : MethodName := ⟨RX5, "digest", "()J"⟩
abbrev cX5_existing : ByteArray := prog_1_method_32_code
def yX5_existing : MethodName := ⟨RX5, "existing", "(I)LPennantRopes$Rope;"⟩
abbrev cX5_requireHue : ByteArray := prog_1_method_33_code
def yX5_requireHue : MethodName := ⟨RX5, "requireHue", "(I)V"⟩
abbrev cX5_requirePhase : ByteArray := prog_1_method_34_code
def yX5_requirePhase : MethodName := ⟨RX5, "requirePhase", "(II)V"⟩
abbrev cX5_requireLength : ByteArray := prog_1_method_35_code
def yX5_requireLength : MethodName := ⟨RX5, "requireLength", "(I)V"⟩
abbrev cX5_requireWhat : ByteArray := prog_1_method_36_code
def yX5_requireWhat : MethodName := ⟨RX5, "requireWhat", "(II)V"⟩
abbrev cX5_requireRoomForRope : ByteArray := prog_1_method_37_code
def yX5_requireRoomForRope : MethodName := ⟨RX5, "requireRoomForRope", "()V"⟩
abbrev cX5_changeLength : ByteArray := prog_1_method_38_code
def yX5_changeLength : MethodName := ⟨RX5, "changeLength", "(LPennantRopes$Rope;I)V"⟩
abbrev cX5_layBack : ByteArray := prog_1_method_39_code
def yX5_layBack : MethodName := ⟨RX5, "layBack", "(LPennantRopes$Rope;ILPennantRopes$Rope;)V"⟩
abbrev cX5_turnRound : ByteArray := prog_1_method_40_code
def yX5_turnRound : MethodName := ⟨RX5, "turnRound", "(LPennantRopes$Rope;)I"⟩
abbrev cX5_draftJoined : ByteArray := prog_1_method_41_code
def yX5_draftJoined : MethodName := ⟨RX5, "draftJoined", "(LPennantRopes$Rope;LPennantRopes$Rope;)Z"⟩
abbrev cX5_draftLaid : ByteArray := prog_1_method_42_code
def yX5_draftLaid : MethodName := ⟨RX5, "draftLaid", "(II)Z"⟩
abbrev cX5_playPart : ByteArray := prog_1_method_43_code
def yX5_playPart : MethodName := ⟨RX5, "playPart", "(II)Z"⟩
abbrev cX5_playLaying : ByteArray := prog_1_method_44_code
def yX5_playLaying : MethodName := ⟨RX5, "playLaying", "(LPennantRopes$Rope;II)Z"⟩
abbrev cX5_reasonAgainstJoining : ByteArray := prog_1_method_45_code
def yX5_reasonAgainstJoining : MethodName := ⟨RX5, "reasonAgainstJoining", "(LPennantRopes$Rope;LPennantRopes$Rope;)I"⟩
abbrev cX5_greatestLength : ByteArray := prog_1_method_46_code
def yX5_greatestLength : MethodName := ⟨RX5, "greatestLength", "(LPennantRopes$Rope;)I"⟩
abbrev cX5_huesDueAt : ByteArray := prog_1_method_47_code
def yX5_huesDueAt : MethodName := ⟨RX5, "huesDueAt", "(LPennantRopes$Rope;I)I"⟩
abbrev cX5_fillingHue : ByteArray := prog_1_method_48_code
def yX5_fillingHue : MethodName := ⟨RX5, "fillingHue", "(LPennantRopes$Rope;)I"⟩
abbrev cX5_period : ByteArray := prog_1_method_49_code
def yX5_period : MethodName := ⟨RX5, "period", "(LPennantRopes$Rope;)I"⟩
abbrev cX5_ropeNumber : ByteArray := prog_1_method_50_code
def yX5_ropeNumber : MethodName := ⟨RX5, "ropeNumber", "(LPennantRopes$Rope;I)I"⟩
abbrev cX5_counted : ByteArray := prog_1_method_51_code
def yX5_counted : MethodName := ⟨RX5, "counted", "(I)I"⟩
abbrev cX5_mixed : ByteArray := prog_1_method_52_code
def yX5_mixed : MethodName := ⟨RX5, "mixed", "(JJ)J"⟩
abbrev cX5_ropeMixed : ByteArray := prog_1_method_53_code
def yX5_ropeMixed : MethodName := ⟨RX5, "ropeMixed", "(JI)J"⟩
abbrev cX5_hueMixed : ByteArray := prog_1_method_54_code
def yX5_hueMixed : MethodName := ⟨RX5, "hueMixed", "(JLPennantRopes$Rope;I)J"⟩
def RX6 : String := "PennantRopesModel"
def TX6 : u_T := fun k => match k with
  | 0 => ("PennantRopesModel", "thrown", "I", false)
  | 1 => ("PennantRopesModel", "s", "[I", true)
  | 2 => ("PennantRopesModel", "aside", "[I", true)
  | 3 => ("PennantRopesModel", "snapshot", "[I", true)
  | 4 => ("PennantRopesModel", "isKept", "Z", false)
  | 5 => ("PennantRopesModel", "saved", "[I", true)
  | 6 => ("PennantRopesModel", "savedMany", "I", false)
  | 7 => ("PennantRopesModel", "text", "[I", true)
  | 8 => ("PennantRopesModel", "length", "I", false)
  | 9 => ("PennantRopesModel", "old", "[I", true)
  | 10 => ("PennantRopesModel", "position", "I", false)
  | 11 => ("PennantRopesModel", "isWrong", "Z", false)
  | 12 => ("PennantRopesModel", "sign", "I", false)
  | 13 => ("PennantRopesModel", "first", "I", false)
  | 14 => ("PennantRopesModel", "second", "I", false)
  | _ => ("PennantRopesModel", "digested", "J", false)
def tyX6 : Nat → FieldType := fun k => match k with
  | 0 => .int
  | 1 => .array .int
  | 2 => .array .int
  | 3 => .array .int
  | 4 => .boolean
  | 5 => .array .int
  | 6 => .int
  | 7 => .array .int
  | 8 => .int
  | 9 => .array .int
  | 10 => .int
  | 11 => .boolean
  | 12 => .int
  | 13 => .int
  | 14 => .int
  | _ => .long
abbrev wsX60 : List Cond := u_ws RX6 TX6 16
theorem nmX6 : ∀ a, a < 16 → ∀ b, b < 16 → a ≠ b → (TX6 a).2.1 ≠ (TX6 b).2.1 := by decide +kernel
theorem tyX6_ok : ∀ k, k < 16 → parseFieldDescriptor (TX6 k).2.2.1 = some (tyX6 k) := by decide +kernel
abbrev cX6_init : ByteArray := prog_8_method_1_code
def yX6_init : MethodName := ⟨RX6, "<init>", "()V"⟩
abbrev cX6_thrown : ByteArray := prog_8_method_2_code
def yX6_thrown : MethodName := ⟨RX6, "thrown", "()I"⟩
abbrev cX6_in : ByteArray := prog_8_method_3_code
def yX6_in : MethodName := ⟨RX6, "in", "(III)Z"⟩
abbrev cX6_holds : ByteArray := prog_8_method_4_code
def yX6_holds : MethodName := ⟨RX6, "holds", "(I)Z"⟩
abbrev cX6_isHue : ByteArray := prog_8_method_5_code
def yX6_isHue : MethodName := ⟨RX6, "isHue", "(I)Z"⟩
abbrev cX6_isRope : ByteArray := prog_8_method_6_code
def yX6_isRope : MethodName := ⟨RX6, "isRope", "(I)Z"⟩
abbrev cX6_isPhase : ByteArray := prog_8_method_7_code
def yX6_isPhase : MethodName := ⟨RX6, "isPhase", "(II)Z"⟩
abbrev cX6_of : ByteArray := prog_8_method_8_code
def yX6_of : MethodName := ⟨RX6, "of", "(II)I"⟩
abbrev cX6_phaseOf : ByteArray := prog_8_method_9_code
def yX6_phaseOf : MethodName := ⟨RX6, "phaseOf", "(II)I"⟩
abbrev cX6_isLaid : ByteArray := prog_8_method_10_code
def yX6_isLaid : MethodName := ⟨RX6, "isLaid", "(II)Z"⟩
abbrev cX6_save : ByteArray := prog_8_method_11_code
def yX6_save : MethodName := ⟨RX6, "save", "()V"⟩
abbrev cX6_putAside : ByteArray := prog_8_method_12_code
def yX6_putAside : MethodName := ⟨RX6, "putAside", "()V"⟩
abbrev cX6_putBack : ByteArray := prog_8_method_13_code
def yX6_putBack : MethodName := ⟨RX6, "putBack", "()V"⟩
abbrev cX6_takes : ByteArray := prog_8_method_14_code
def yX6_takes : MethodName := ⟨RX6, "takes", "(III)Z"⟩
abbrev cX6_hueAt : ByteArray := prog_8_method_15_code
def yX6_hueAt : MethodName := ⟨RX6, "hueAt", "(II)I"⟩
abbrev cX6_takers : ByteArray := prog_8_method_16_code
def yX6_takers : MethodName := ⟨RX6, "takers", "(II)I"⟩
abbrev cX6_clash : ByteArray := prog_8_method_17_code
def yX6_clash : MethodName := ⟨RX6, "clash", "(I)I"⟩
abbrev cX6_placesOf : ByteArray := prog_8_method_18_code
def yX6_placesOf : MethodName := ⟨RX6, "placesOf", "(II)I"⟩
abbrev cX6_lastOf : ByteArray := prog_8_method_19_code
def yX6_lastOf : MethodName := ⟨RX6, "lastOf", "(II)I"⟩
abbrev cX6_clears : ByteArray := prog_8_method_20_code
def yX6_clears : MethodName := ⟨RX6, "clears", "(II)V"⟩
abbrev cX6_lays : ByteArray := prog_8_method_21_code
def yX6_lays : MethodName := ⟨RX6, "lays", "(III)V"⟩
abbrev cX6_remembers : ByteArray := prog_8_method_22_code
def yX6_remembers : MethodName := ⟨RX6, "remembers", "(I)V"⟩
abbrev cX6_laysFrom : ByteArray := prog_8_method_23_code
def yX6_laysFrom : MethodName := ⟨RX6, "laysFrom", "(II)V"⟩
abbrev cX6_drops : ByteArray := prog_8_method_24_code
def yX6_drops : MethodName := ⟨RX6, "drops", "(I)V"⟩
abbrev cX6_turns : ByteArray := prog_8_method_25_code
def yX6_turns : MethodName := ⟨RX6, "turns", "(I)V"⟩
abbrev cX6_unlikeTurned : ByteArray := prog_8_method_26_code
def yX6_unlikeTurned : MethodName := ⟨RX6, "unlikeTurned", "(I)I"⟩
abbrev cX6_takesOff : ByteArray := prog_8_method_27_code
def yX6_takesOff : MethodName := ⟨RX6, "takesOff", "(II)V"⟩
abbrev cX6_isLaidAnywhere : ByteArray := prog_8_method_28_code
def yX6_isLaidAnywhere : MethodName := ⟨RX6, "isLaidAnywhere", "(I)Z"⟩
abbrev cX6_gap : ByteArray := prog_8_method_29_code
def yX6_gap : MethodName := ⟨RX6, "gap", "(II)I"⟩
abbrev cX6_adds : ByteArray := prog_8_method_30_code
def yX6_adds : MethodName := ⟨RX6, "adds", "(I)V"⟩
abbrev cX6_rope : ByteArray := prog_8_method_31_code
def yX6_rope : MethodName := ⟨RX6, "rope", "(I)I"⟩
abbrev cX6_drop : ByteArray := prog_8_method_32_code
def yX6_drop : MethodName := ⟨RX6, "drop", "(I)I"⟩
abbrev cX6_why : ByteArray := prog_8_method_33_code
def yX6_why : MethodName := ⟨RX6, "why", "(III)I"⟩
abbrev cX6_areThere : ByteArray := prog_8_method_34_code
def yX6_areThere : MethodName := ⟨RX6, "areThere", "(II)Z"⟩
abbrev cX6_lay : ByteArray := prog_8_method_35_code
def yX6_lay : MethodName := ⟨RX6, "lay", "(III)I"⟩
abbrev cX6_take : ByteArray := prog_8_method_36_code
def yX6_take : MethodName := ⟨RX6, "take", "(II)I"⟩
abbrev cX6_stretch : ByteArray := prog_8_method_37_code
def yX6_stretch : MethodName := ⟨RX6, "stretch", "(II)I"⟩
abbrev cX6_cut : ByteArray := prog_8_method_38_code
def yX6_cut : MethodName := ⟨RX6, "cut", "(II)I"⟩
abbrev cX6_turn : ByteArray := prog_8_method_39_code
def yX6_turn : MethodName := ⟨RX6, "turn", "(I)I"⟩
abbrev cX6_phaseBehind : ByteArray := prog_8_method_40_code
def yX6_phaseBehind : MethodName := ⟨RX6, "phaseBehind", "(III)I"⟩
abbrev cX6_joinsWith : ByteArray := prog_8_method_41_code
def yX6_joinsWith : MethodName := ⟨RX6, "joinsWith", "(II)V"⟩
abbrev cX6_whyNotJoined : ByteArray := prog_8_method_42_code
def yX6_whyNotJoined : MethodName := ⟨RX6, "whyNotJoined", "(II)I"⟩
abbrev cX6_join : ByteArray := prog_8_method_43_code
def yX6_join : MethodName := ⟨RX6, "join", "(II)I"⟩
abbrev cX6_append : ByteArray := prog_8_method_44_code
def yX6_append : MethodName := ⟨RX6, "append", "(I)I"⟩
abbrev cX6_clearBuffer : ByteArray := prog_8_method_45_code
def yX6_clearBuffer : MethodName := ⟨RX6, "clearBuffer", "()I"⟩
abbrev cX6_isNext : ByteArray := prog_8_method_46_code
def yX6_isNext : MethodName := ⟨RX6, "isNext", "(II)Z"⟩
abbrev cX6_reads : ByteArray := prog_8_method_47_code
def yX6_reads : MethodName := ⟨RX6, "reads", "(II)I"⟩
abbrev cX6_readsNumber : ByteArray := prog_8_method_48_code
def yX6_readsNumber : MethodName := ⟨RX6, "readsNumber", "(II)I"⟩
abbrev cX6_readsPart : ByteArray := prog_8_method_49_code
def yX6_readsPart : MethodName := ⟨RX6, "readsPart", "()V"⟩
abbrev cX6_does : ByteArray := prog_8_method_50_code
def yX6_does : MethodName := ⟨RX6, "does", "()Z"⟩
abbrev cX6_goes : ByteArray := prog_8_method_51_code
def yX6_goes : MethodName := ⟨RX6, "goes", "(Z)I"⟩
abbrev cX6_firstError : ByteArray := prog_8_method_52_code
def yX6_firstError : MethodName := ⟨RX6, "firstError", "()I"⟩
abbrev cX6_play : ByteArray := prog_8_method_53_code
def yX6_play : MethodName := ⟨RX6, "play", "()I"⟩
abbrev cX6_undo : ByteArray := prog_8_method_54_code
def yX6_undo : MethodName := ⟨RX6, "undo", "()I"⟩
abbrev cX6_keep : ByteArray := prog_8_method_55_code
def yX6_keep : MethodName := ⟨RX6, "keep", "()I"⟩
abbrev cX6_restore : ByteArray := prog_8_method_56_code
def yX6_restore : MethodName := ⟨RX6, "restore", "()I"⟩
abbrev cX6_place : ByteArray := prog_8_method_57_code
def yX6_place : MethodName := ⟨RX6, "place", "(II)I"⟩
abbrev cX6_holes : ByteArray := prog_8_method_58_code
def yX6_holes : MethodName := ⟨RX6, "holes", "(I)I"⟩
abbrev cX6_firstHole : ByteArray := prog_8_method_59_code
def yX6_firstHole : MethodName := ⟨RX6, "firstHole", "(I)I"⟩
abbrev cX6_holesSideBySide : ByteArray := prog_8_method_60_code
def yX6_holesSideBySide : MethodName := ⟨RX6, "holesSideBySide", "(I)I"⟩
abbrev cX6_divisor : ByteArray := prog_8_method_61_code
def yX6_divisor : MethodName := ⟨RX6, "divisor", "(II)I"⟩
abbrev cX6_period : ByteArray := prog_8_method_62_code
def yX6_period : MethodName := ⟨RX6, "period", "(I)I"⟩
abbrev cX6_toldOfRope : ByteArray := prog_8_method_63_code
def yX6_toldOfRope : MethodName := ⟨RX6, "toldOfRope", "(II)I"⟩
abbrev cX6_ropeOf : ByteArray := prog_8_method_64_code
def yX6_ropeOf : MethodName := ⟨RX6, "ropeOf", "(II)I"⟩
abbrev cX6_orderOf : ByteArray := prog_8_method_65_code
def yX6_orderOf : MethodName := ⟨RX6, "orderOf", "(II)I"⟩
abbrev cX6_toldOfHue : ByteArray := prog_8_method_66_code
def yX6_toldOfHue : MethodName := ⟨RX6, "toldOfHue", "(III)I"⟩
abbrev cX6_hueOf : ByteArray := prog_8_method_67_code
def yX6_hueOf : MethodName := ⟨RX6, "hueOf", "(III)I"⟩
abbrev cX6_gapOf : ByteArray := prog_8_method_68_code
def yX6_gapOf : MethodName := ⟨RX6, "gapOf", "(I)I"⟩
abbrev cX6_sum : ByteArray := prog_8_method_69_code
def yX6_sum : MethodName := ⟨RX6, "sum", "(Z)I"⟩
abbrev cX6_huesLaid : ByteArray := prog_8_method_70_code
def yX6_huesLaid : MethodName := ⟨RX6, "huesLaid", "()I"⟩
abbrev cX6_counted : ByteArray := prog_8_method_71_code
def yX6_counted : MethodName := ⟨RX6, "counted", "(I)I"⟩
abbrev cX6_count : ByteArray := prog_8_method_72_code
def yX6_count : MethodName := ⟨RX6, "count", "(I)I"⟩
abbrev cX6_refusal : ByteArray := prog_8_method_73_code
def yX6_refusal : MethodName := ⟨RX6, "refusal", "(III)I"⟩
abbrev cX6_meet : ByteArray := prog_8_method_74_code
def yX6_meet : MethodName := ⟨RX6, "meet", "(IIII)I"⟩
abbrev cX6_canMeet : ByteArray := prog_8_method_75_code
def yX6_canMeet : MethodName := ⟨RX6, "canMeet", "(IIII)Z"⟩
abbrev cX6_meeting : ByteArray := prog_8_method_76_code
def yX6_meeting : MethodName := ⟨RX6, "meeting", "(IIII)I"⟩
abbrev cX6_walked : ByteArray := prog_8_method_77_code
def yX6_walked : MethodName := ⟨RX6, "walked", "(IIII)I"⟩
abbrev cX6_wouldTake : ByteArray := prog_8_method_78_code
def yX6_wouldTake : MethodName := ⟨RX6, "wouldTake", "(III)I"⟩
abbrev cX6_toldOfPhases : ByteArray := prog_8_method_79_code
def yX6_toldOfPhases : MethodName := ⟨RX6, "toldOfPhases", "(III)I"⟩
abbrev cX6_phases : ByteArray := prog_8_method_80_code
def yX6_phases : MethodName := ⟨RX6, "phases", "(III)I"⟩
abbrev cX6_best : ByteArray := prog_8_method_81_code
def yX6_best : MethodName := ⟨RX6, "best", "(I)I"⟩
abbrev cX6_bestHue : ByteArray := prog_8_method_82_code
def yX6_bestHue : MethodName := ⟨RX6, "bestHue", "(I)I"⟩
abbrev cX6_joining : ByteArray := prog_8_method_83_code
def yX6_joining : MethodName := ⟨RX6, "joining", "(II)I"⟩
abbrev cX6_greatest : ByteArray := prog_8_method_84_code
def yX6_greatest : MethodName := ⟨RX6, "greatest", "(I)I"⟩
abbrev cX6_share : ByteArray := prog_8_method_85_code
def yX6_share : MethodName := ⟨RX6, "share", "()D"⟩
abbrev cX6_fullness : ByteArray := prog_8_method_86_code
def yX6_fullness : MethodName := ⟨RX6, "fullness", "()D"⟩
abbrev cX6_bitsOf : ByteArray := prog_8_method_87_code
def yX6_bitsOf : MethodName := ⟨RX6, "bitsOf", "(D)J"⟩
abbrev cX6_digestOne : ByteArray := prog_8_method_88_code
def yX6_digestOne : MethodName := ⟨RX6, "digestOne", "(J)V"⟩
abbrev cX6_digestRope : ByteArray := prog_8_method_89_code
def yX6_digestRope : MethodName := ⟨RX6, "digestRope", "(I)V"⟩
abbrev cX6_digest : ByteArray := prog_8_method_90_code
def yX6_digest : MethodName := ⟨RX6, "digest", "()J"⟩
def RJ9 : String := "java/lang/Math"
def TJ9 : u_T := fun k => match k with
  | _ => ("", "", "", false)
def tyJ9 : Nat → FieldType := fun k => match k with
  | _ => .int
abbrev wsJ90 : List Cond := u_ws RJ9 TJ9 0
theorem nmJ9 : ∀ a, a < 0 → ∀ b, b < 0 → a ≠ b → (TJ9 a).2.1 ≠ (TJ9 b).2.1 := by decide +kernel
theorem tyJ9_ok : ∀ k, k < 0 → parseFieldDescriptor (TJ9 k).2.2.1 = some (tyJ9 k) := by decide +kernel
abbrev cJ9_max_7cf53 : ByteArray := prog_13_method_65_code
def yJ9_max_7cf53 : MethodName := ⟨RJ9, "max", "(II)I"⟩
abbrev cJ9_min_7cf53 : ByteArray := prog_13_method_69_code
def yJ9_min_7cf53 : MethodName := ⟨RJ9, "min", "(II)I"⟩
def RJ0 : String := "java/lang/String"
def TJ0 : u_T := fun k => match k with
  | _ => ("", "", "", false)
def tyJ0 : Nat → FieldType := fun k => match k with
  | _ => .int
abbrev wsJ00 : List Cond := u_ws RJ0 TJ0 0
theorem nmJ0 : ∀ a, a < 0 → ∀ b, b < 0 → a ≠ b → (TJ0 a).2.1 ≠ (TJ0 b).2.1 := by decide +kernel
theorem tyJ0_ok : ∀ k, k < 0 → parseFieldDescriptor (TJ0 k).2.2.1 = some (tyJ0 k) := by decide +kernel
def RL : String := "PennantRopesLaw"
abbrev cL_gap : ByteArray := method_3_code
def yL_gap : MethodName := ⟨RL, "gap", "(LPennantRopes;II[J)I"⟩
abbrev cL_rope : ByteArray := method_4_code
def yL_rope : MethodName := ⟨RL, "rope", "(LPennantRopes;I[J)I"⟩
abbrev cL_drop : ByteArray := method_5_code
def yL_drop : MethodName := ⟨RL, "drop", "(LPennantRopes;I[J)I"⟩
abbrev cL_lay : ByteArray := method_6_code
def yL_lay : MethodName := ⟨RL, "lay", "(LPennantRopes;III[J)I"⟩
abbrev cL_take : ByteArray := method_7_code
def yL_take : MethodName := ⟨RL, "take", "(LPennantRopes;II[J)I"⟩
abbrev cL_stretch : ByteArray := method_8_code
def yL_stretch : MethodName := ⟨RL, "stretch", "(LPennantRopes;II[J)I"⟩
abbrev cL_cut : ByteArray := method_9_code
def yL_cut : MethodName := ⟨RL, "cut", "(LPennantRopes;II[J)I"⟩
abbrev cL_turn : ByteArray := method_10_code
def yL_turn : MethodName := ⟨RL, "turn", "(LPennantRopes;I[J)I"⟩
abbrev cL_join : ByteArray := method_11_code
def yL_join : MethodName := ⟨RL, "join", "(LPennantRopes;II[J)I"⟩
abbrev cL_append : ByteArray := method_12_code
def yL_append : MethodName := ⟨RL, "append", "(LPennantRopes;I[J)I"⟩
abbrev cL_play : ByteArray := method_13_code
def yL_play : MethodName := ⟨RL, "play", "(LPennantRopes;[J)I"⟩
abbrev cL_undo : ByteArray := method_14_code
def yL_undo : MethodName := ⟨RL, "undo", "(LPennantRopes;[J)I"⟩
abbrev cL_restore : ByteArray := method_15_code
def yL_restore : MethodName := ⟨RL, "restore", "(LPennantRopes;[J)I"⟩
abbrev cL_place : ByteArray := method_16_code
def yL_place : MethodName := ⟨RL, "place", "(LPennantRopes;II[J)I"⟩
abbrev cL_ropeOf : ByteArray := method_17_code
def yL_ropeOf : MethodName := ⟨RL, "ropeOf", "(LPennantRopes;II[J)I"⟩
abbrev cL_hueOf : ByteArray := method_18_code
def yL_hueOf : MethodName := ⟨RL, "hueOf", "(LPennantRopes;III[J)I"⟩
abbrev cL_gapOf : ByteArray := method_19_code
def yL_gapOf : MethodName := ⟨RL, "gapOf", "(LPennantRopes;I[J)I"⟩
abbrev cL_count : ByteArray := method_20_code
def yL_count : MethodName := ⟨RL, "count", "(LPennantRopes;I[J)I"⟩
abbrev cL_refusal : ByteArray := method_21_code
def yL_refusal : MethodName := ⟨RL, "refusal", "(LPennantRopes;III[J)I"⟩
abbrev cL_meeting : ByteArray := method_22_code
def yL_meeting : MethodName := ⟨RL, "meeting", "(LPennantRopes;IIII[J)I"⟩
abbrev cL_walked : ByteArray := method_23_code
def yL_walked : MethodName := ⟨RL, "walked", "(LPennantRopes;IIII[J)I"⟩
abbrev cL_phases : ByteArray := method_24_code
def yL_phases : MethodName := ⟨RL, "phases", "(LPennantRopes;III[J)I"⟩
abbrev cL_bestHue : ByteArray := method_25_code
def yL_bestHue : MethodName := ⟨RL, "bestHue", "(LPennantRopes;I[J)I"⟩
abbrev cL_joining : ByteArray := method_26_code
def yL_joining : MethodName := ⟨RL, "joining", "(LPennantRopes;II[J)I"⟩
abbrev cL_greatest : ByteArray := method_27_code
def yL_greatest : MethodName := ⟨RL, "greatest", "(LPennantRopes;I[J)I"⟩
abbrev cL_law : ByteArray := code
def yL_law : MethodName := ⟨RL, "law", "([I)Z"⟩
def wsX2_init : List Cond := .code yX2_init cX2_init 1 none :: ([.methodLink RX2 3 objectInit, .instanceMethod objectInit, .code objectInit ⟨#[0xb1]⟩ 1 none, .arrayClass .int, .fieldLink RX2 9 "PennantRopes$Rope" "colours" "[I", .fieldLink RX2 15 "PennantRopes$Rope" "orders" "[I", .fieldLink RX2 18 "PennantRopes$Rope" "length" "I", .fieldLink RX2 22 "PennantRopes$Rope" "hueCount" "I"] ++ wsX20)
def wsX3_init : List Cond := .code yX3_init cX3_init 2 none :: ([.methodLink RX3 3 objectInit, .instanceMethod objectInit, .code objectInit ⟨#[0xb1]⟩ 1 none, .arrayClass .int, .fieldLink RX3 9 "PennantRopes$State" "gaps" "[I", .classLink RX3 15 RX2, .fieldLink RX3 17 "PennantRopes$State" "ropes" "[LPennantRopes$Rope;", .instantiable RX2 4, .initialized RX2, .fieldLink RX3 22 "PennantRopes$State" "ropeCount" "I", .fieldLink RX3 26 "PennantRopes$State" "layings" "I", .fieldLink RX3 29 "PennantRopes$State" "joins" "I", .fieldLink RX3 32 "PennantRopes$State" "cuts" "I", .methodLink RX3 21 yX2_init, .instanceMethod yX2_init, .code yX2_init cX2_init 1 none, .methodLink RX2 3 objectInit, .fieldLink RX2 9 "PennantRopes$Rope" "colours" "[I", .fieldLink RX2 15 "PennantRopes$Rope" "orders" "[I", .fieldLink RX2 18 "PennantRopes$Rope" "length" "I", .fieldLink RX2 22 "PennantRopes$Rope" "hueCount" "I"] ++ wsX30 ++ wsX20)
def wsL_law0_r1 : List Cond := [Cond.classLink RL 8 RX5, Cond.instantiable RX5 6, Cond.initialized RX5, Cond.classLink RL 96 RX6, Cond.instantiable RX6 16, Cond.initialized RX6, Cond.arrayClass .long, Cond.methodLink RL 95 yX5_init, Cond.instanceMethod yX5_init, Cond.code yX5_init cX5_init 1 none, Cond.methodLink RX5 1 objectInit, Cond.instanceMethod objectInit, Cond.code objectInit ⟨#[0xb1]⟩ 1 none, Cond.classLink RX5 7 RX3, Cond.instantiable RX3 6, Cond.initialized RX3, Cond.fieldLink RX5 10 "PennantRopes" "now" "LPennantRopes$State;", Cond.fieldLink RX5 16 "PennantRopes" "kept" "LPennantRopes$State;", Cond.classLink RX5 19 RX0, Cond.instantiable RX0 2, Cond.initialized RX0, Cond.fieldLink RX5 22 "PennantRopes" "history" "LPennantRopes$History;", Cond.classLink RX5 26 RX4, Cond.instantiable RX4 2]
def wsL_law0_r2 : List Cond := [Cond.initialized RX4, Cond.fieldLink RX5 29 "PennantRopes" "text" "LPennantRopes$Text;", Cond.classLink RX5 33 RX2, Cond.instantiable RX2 4, Cond.initialized RX2, Cond.fieldLink RX5 36 "PennantRopes" "draft" "LPennantRopes$Rope;", Cond.fieldLink RX5 40 "PennantRopes" "hasKept" "Z", Cond.methodLink RX5 9 yX3_init, Cond.instanceMethod yX3_init, Cond.code yX3_init cX3_init 2 none, Cond.methodLink RX3 3 objectInit, Cond.arrayClass .int, Cond.fieldLink RX3 9 "PennantRopes$State" "gaps" "[I", Cond.classLink RX3 15 RX2, Cond.fieldLink RX3 17 "PennantRopes$State" "ropes" "[LPennantRopes$Rope;", Cond.fieldLink RX3 22 "PennantRopes$State" "ropeCount" "I", Cond.fieldLink RX3 26 "PennantRopes$State" "layings" "I", Cond.fieldLink RX3 29 "PennantRopes$State" "joins" "I", Cond.fieldLink RX3 32 "PennantRopes$State" "cuts" "I", Cond.methodLink RX3 21 yX2_init, Cond.instanceMethod yX2_init, Cond.code yX2_init cX2_init 1 none, Cond.methodLink RX2 3 objectInit, Cond.fieldLink RX2 9 "PennantRopes$Rope" "colours" "[I"]
def wsL_law0_r3 : List Cond := [Cond.fieldLink RX2 15 "PennantRopes$Rope" "orders" "[I", Cond.fieldLink RX2 18 "PennantRopes$Rope" "length" "I", Cond.fieldLink RX2 22 "PennantRopes$Rope" "hueCount" "I", Cond.methodLink RX5 21 yX0_init, Cond.instanceMethod yX0_init, Cond.code yX0_init cX0_init 2 none, Cond.methodLink RX0 3 objectInit, Cond.classLink RX0 9 RX3, Cond.fieldLink RX0 11 "PennantRopes$History" "states" "[LPennantRopes$State;", Cond.fieldLink RX0 18 "PennantRopes$History" "size" "I", Cond.methodLink RX0 17 yX3_init, Cond.methodLink RX5 28 yX4_init, Cond.instanceMethod yX4_init, Cond.code yX4_init cX4_init 1 none, Cond.methodLink RX4 3 objectInit, Cond.fieldLink RX4 9 "PennantRopes$Text" "codes" "[I", Cond.fieldLink RX4 15 "PennantRopes$Text" "length" "I", Cond.methodLink RX5 35 yX2_init, Cond.methodLink RL 98 yX6_init, Cond.instanceMethod yX6_init, Cond.code yX6_init cX6_init 2 none, Cond.methodLink RX6 1 objectInit, Cond.fieldLink RX6 7 "PennantRopesModel" "s" "[I", Cond.fieldLink RX6 13 "PennantRopesModel" "aside" "[I"]
def wsL_law0_r4 : List Cond := [Cond.fieldLink RX6 16 "PennantRopesModel" "snapshot" "[I", Cond.fieldLink RX6 19 "PennantRopesModel" "saved" "[I", Cond.fieldLink RX6 22 "PennantRopesModel" "text" "[I", Cond.fieldLink RX6 25 "PennantRopesModel" "old" "[I", Cond.methodLink RL 99 yL_gap, Cond.static yL_gap, Cond.initialized RL, Cond.codeWith yL_gap cL_gap 5 (some .int) [(0, 10, 13, 13), (0, 10, 17, 15), (0, 10, 21, 17)], Cond.classLink RL 13 "java/lang/IndexOutOfBoundsException", Cond.classLink RL 15 "java/lang/IllegalArgumentException", Cond.classLink RL 17 "java/lang/IllegalStateException", Cond.methodLink RL 7 yX5_gap, Cond.instanceMethod yX5_gap, Cond.selects RX5 yX5_gap yX5_gap, Cond.code yX5_gap cX5_gap 4 (some .int), Cond.classLink RX5 48 "java/lang/IllegalArgumentException", Cond.initialized "java/lang/IllegalArgumentException", Cond.classLink RX5 59 "java/lang/IllegalStateException", Cond.initialized "java/lang/IllegalStateException", Cond.methodLink RX5 44 yX5_requireHue, Cond.instanceMethod yX5_requireHue, Cond.selects RX5 yX5_requireHue yX5_requireHue, Cond.code yX5_requireHue cX5_requireHue 2 none, Cond.classLink RX5 204 "java/lang/IndexOutOfBoundsException"]
def wsL_law0_r5 : List Cond := [Cond.initialized "java/lang/IndexOutOfBoundsException", Cond.methodLink RX5 55 yX3_isLaidOnSome, Cond.instanceMethod yX3_isLaidOnSome, Cond.selects RX3 yX3_isLaidOnSome yX3_isLaidOnSome, Cond.code yX3_isLaidOnSome cX3_isLaidOnSome 4 (some .boolean), Cond.methodLink RX3 35 yX3_ropeAt, Cond.instanceMethod yX3_ropeAt, Cond.selects RX3 yX3_ropeAt yX3_ropeAt, Cond.code yX3_ropeAt cX3_ropeAt 2 (some (.object "PennantRopes$Rope")), Cond.methodLink RX3 66 yX2_orderOf, Cond.instanceMethod yX2_orderOf, Cond.selects RX2 yX2_orderOf yX2_orderOf, Cond.code yX2_orderOf cX2_orderOf 3 (some .int), Cond.methodLink RX5 64 yX0_save, Cond.instanceMethod yX0_save, Cond.selects RX0 yX0_save yX0_save, Cond.code yX0_save cX0_save 3 none, Cond.methodLink RX0 22 yX0_dropOldest, Cond.instanceMethod yX0_dropOldest, Cond.selects RX0 yX0_dropOldest yX0_dropOldest, Cond.code yX0_dropOldest cX0_dropOldest 3 none, Cond.methodLink RX0 25 yX0_rowAt, Cond.instanceMethod yX0_rowAt, Cond.selects RX0 yX0_rowAt yX0_rowAt]
def wsL_law0_r6 : List Cond := [Cond.code yX0_rowAt cX0_rowAt 2 (some (.object "PennantRopes$State")), Cond.methodLink RX0 29 yX3_copyFrom, Cond.instanceMethod yX3_copyFrom, Cond.selects RX3 yX3_copyFrom yX3_copyFrom, Cond.code yX3_copyFrom cX3_copyFrom 5 none, Cond.methodLink RX3 39 yX2_copyFrom, Cond.instanceMethod yX2_copyFrom, Cond.selects RX2 yX2_copyFrom yX2_copyFrom, Cond.code yX2_copyFrom cX2_copyFrom 3 none, Cond.methodLink RX5 68 yX3_gapAt, Cond.instanceMethod yX3_gapAt, Cond.selects RX3 yX3_gapAt yX3_gapAt, Cond.code yX3_gapAt cX3_gapAt 2 (some .int), Cond.methodLink RX5 72 yX3_setGap, Cond.instanceMethod yX3_setGap, Cond.selects RX3 yX3_setGap yX3_setGap, Cond.code yX3_setGap cX3_setGap 3 none, Cond.methodLink RL 104 yX6_gap, Cond.instanceMethod yX6_gap, Cond.selects RX6 yX6_gap yX6_gap, Cond.code yX6_gap cX6_gap 4 (some .int), Cond.methodLink RX6 74 yX6_isHue, Cond.static yX6_isHue, Cond.code yX6_isHue cX6_isHue 1 (some .boolean)]
def wsL_law0_r7 : List Cond := [Cond.methodLink RX6 32 yX6_in, Cond.static yX6_in, Cond.code yX6_in cX6_in 3 (some .boolean), Cond.methodLink RX6 78 yX6_isLaidAnywhere, Cond.instanceMethod yX6_isLaidAnywhere, Cond.selects RX6 yX6_isLaidAnywhere yX6_isLaidAnywhere, Cond.code yX6_isLaidAnywhere cX6_isLaidAnywhere 4 (some .boolean), Cond.methodLink RX6 70 yX6_isLaid, Cond.instanceMethod yX6_isLaid, Cond.selects RX6 yX6_isLaid yX6_isLaid, Cond.code yX6_isLaid cX6_isLaid 3 (some .boolean), Cond.methodLink RX6 40 yX6_phaseOf, Cond.instanceMethod yX6_phaseOf, Cond.selects RX6 yX6_phaseOf yX6_phaseOf, Cond.code yX6_phaseOf cX6_phaseOf 3 (some .int), Cond.methodLink RX6 36 yX6_of, Cond.static yX6_of, Cond.code yX6_of cX6_of 2 (some .int), Cond.methodLink RX6 81 yX6_holds, Cond.instanceMethod yX6_holds, Cond.selects RX6 yX6_holds yX6_holds, Cond.code yX6_holds cX6_holds 2 (some .boolean), Cond.fieldLink RX6 28 "PennantRopesModel" "thrown" "I", Cond.methodLink RX6 84 yX6_save]
def wsL_law0_r8 : List Cond := [Cond.instanceMethod yX6_save, Cond.selects RX6 yX6_save yX6_save, Cond.code yX6_save cX6_save 2 none, Cond.fieldLink RX6 43 "PennantRopesModel" "savedMany" "I", Cond.methodLink RL 105 yX6_thrown, Cond.instanceMethod yX6_thrown, Cond.selects RX6 yX6_thrown yX6_thrown, Cond.code yX6_thrown cX6_thrown 1 (some .int), Cond.methodLink RL 108 yL_rope, Cond.static yL_rope, Cond.codeWith yL_rope cL_rope 4 (some .int) [(0, 9, 12, 15), (0, 9, 15, 17)], Cond.methodLink RL 19 yX5_rope, Cond.instanceMethod yX5_rope, Cond.selects RX5 yX5_rope yX5_rope, Cond.code yX5_rope cX5_rope 2 (some .int), Cond.methodLink RX5 76 yX5_requireLength, Cond.instanceMethod yX5_requireLength, Cond.selects RX5 yX5_requireLength yX5_requireLength, Cond.code yX5_requireLength cX5_requireLength 2 none, Cond.methodLink RX5 79 yX5_requireRoomForRope, Cond.instanceMethod yX5_requireRoomForRope, Cond.selects RX5 yX5_requireRoomForRope yX5_requireRoomForRope, Cond.code yX5_requireRoomForRope cX5_requireRoomForRope 1 none, Cond.methodLink RX5 86 yX3_ropeCount]
def wsL_law0_r9 : List Cond := [Cond.instanceMethod yX3_ropeCount, Cond.selects RX3 yX3_ropeCount yX3_ropeCount, Cond.code yX3_ropeCount cX3_ropeCount 1 (some .int), Cond.methodLink RX5 82 yX3_addRope, Cond.instanceMethod yX3_addRope, Cond.selects RX3 yX3_addRope yX3_addRope, Cond.code yX3_addRope cX3_addRope 3 (some (.object "PennantRopes$Rope")), Cond.methodLink RX3 43 yX2_begin, Cond.instanceMethod yX2_begin, Cond.selects RX2 yX2_begin yX2_begin, Cond.code yX2_begin cX2_begin 3 none, Cond.methodLink RX2 25 Lib.Math.min.name, Cond.static Lib.Math.min.name, Cond.initialized "java/lang/Math", Cond.code Lib.Math.min.name Lib.Math.min.code 2 (some .int), Cond.methodLink RX2 31 Lib.Math.max.name, Cond.static Lib.Math.max.name, Cond.code Lib.Math.max.name Lib.Math.max.code 2 (some .int), Cond.methodLink RL 111 yX6_rope, Cond.instanceMethod yX6_rope, Cond.selects RX6 yX6_rope yX6_rope, Cond.code yX6_rope cX6_rope 2 (some .int), Cond.methodLink RX6 87 yX6_adds, Cond.instanceMethod yX6_adds]
def wsL_law0_r10 : List Cond := [Cond.selects RX6 yX6_adds yX6_adds, Cond.code yX6_adds cX6_adds 2 none, Cond.methodLink RX6 66 yX6_clears, Cond.instanceMethod yX6_clears, Cond.selects RX6 yX6_clears yX6_clears, Cond.code yX6_clears cX6_clears 4 none, Cond.methodLink RL 112 yL_drop, Cond.static yL_drop, Cond.codeWith yL_drop cL_drop 4 (some .int) [(0, 9, 12, 13)], Cond.methodLink RL 23 yX5_drop, Cond.instanceMethod yX5_drop, Cond.selects RX5 yX5_drop yX5_drop, Cond.code yX5_drop cX5_drop 2 (some .int), Cond.methodLink RX5 90 yX5_existing, Cond.instanceMethod yX5_existing, Cond.selects RX5 yX5_existing yX5_existing, Cond.code yX5_existing cX5_existing 3 (some (.object "PennantRopes$Rope")), Cond.methodLink RX5 268 yX3_ropeAt, Cond.methodLink RX5 93 yX3_removeRope, Cond.instanceMethod yX3_removeRope, Cond.selects RX3 yX3_removeRope yX3_removeRope, Cond.code yX3_removeRope cX3_removeRope 4 none, Cond.methodLink RL 114 yX6_drop, Cond.instanceMethod yX6_drop]
def wsL_law0_r11 : List Cond := [Cond.selects RX6 yX6_drop yX6_drop, Cond.code yX6_drop cX6_drop 2 (some .int), Cond.methodLink RX6 90 yX6_isRope, Cond.instanceMethod yX6_isRope, Cond.selects RX6 yX6_isRope yX6_isRope, Cond.code yX6_isRope cX6_isRope 2 (some .boolean), Cond.methodLink RX6 93 yX6_drops, Cond.instanceMethod yX6_drops, Cond.selects RX6 yX6_drops yX6_drops, Cond.code yX6_drops cX6_drops 3 none, Cond.methodLink RL 115 yL_lay, Cond.static yL_lay, Cond.codeWith yL_lay cL_lay 6 (some .int) [(0, 12, 15, 13), (0, 12, 19, 15), (0, 12, 23, 17)], Cond.methodLink RL 26 yX5_lay, Cond.instanceMethod yX5_lay, Cond.selects RX5 yX5_lay yX5_lay, Cond.code yX5_lay cX5_lay 5 (some .int), Cond.methodLink RX5 96 yX5_requirePhase, Cond.instanceMethod yX5_requirePhase, Cond.selects RX5 yX5_requirePhase yX5_requirePhase, Cond.code yX5_requirePhase cX5_requirePhase 3 none, Cond.methodLink RX5 99 yX2_reasonAgainst, Cond.instanceMethod yX2_reasonAgainst, Cond.selects RX2 yX2_reasonAgainst yX2_reasonAgainst]
def wsL_law0_r12 : List Cond := [Cond.code yX2_reasonAgainst cX2_reasonAgainst 6 (some .int), Cond.methodLink RX2 38 yX2_orderOf, Cond.methodLink RX2 34 yX2_colourAt, Cond.instanceMethod yX2_colourAt, Cond.selects RX2 yX2_colourAt yX2_colourAt, Cond.code yX2_colourAt cX2_colourAt 2 (some .int), Cond.methodLink RX5 105 yX3_layOn, Cond.instanceMethod yX3_layOn, Cond.selects RX3 yX3_layOn yX3_layOn, Cond.code yX3_layOn cX3_layOn 4 (some .int), Cond.methodLink RX3 47 yX3_gapAt, Cond.methodLink RX3 51 yX2_put, Cond.instanceMethod yX2_put, Cond.selects RX2 yX2_put yX2_put, Cond.code yX2_put cX2_put 7 (some .int), Cond.methodLink RX2 41 yX2_setColour, Cond.instanceMethod yX2_setColour, Cond.selects RX2 yX2_setColour yX2_setColour, Cond.code yX2_setColour cX2_setColour 3 none, Cond.methodLink RL 118 yX6_lay, Cond.instanceMethod yX6_lay, Cond.selects RX6 yX6_lay yX6_lay, Cond.code yX6_lay cX6_lay 4 (some .int), Cond.methodLink RX6 96 yX6_areThere]
def wsL_law0_r13 : List Cond := [Cond.instanceMethod yX6_areThere, Cond.selects RX6 yX6_areThere yX6_areThere, Cond.code yX6_areThere cX6_areThere 3 (some .boolean), Cond.methodLink RX6 99 yX6_isPhase, Cond.instanceMethod yX6_isPhase, Cond.selects RX6 yX6_isPhase yX6_isPhase, Cond.code yX6_isPhase cX6_isPhase 3 (some .boolean), Cond.methodLink RX6 102 yX6_why, Cond.instanceMethod yX6_why, Cond.selects RX6 yX6_why yX6_why, Cond.code yX6_why cX6_why 6 (some .int), Cond.methodLink RX6 63 yX6_hueAt, Cond.instanceMethod yX6_hueAt, Cond.selects RX6 yX6_hueAt yX6_hueAt, Cond.code yX6_hueAt cX6_hueAt 5 (some .int), Cond.methodLink RX6 46 yX6_takes, Cond.instanceMethod yX6_takes, Cond.selects RX6 yX6_takes yX6_takes, Cond.code yX6_takes cX6_takes 5 (some .boolean), Cond.methodLink RX6 52 yX6_lays, Cond.instanceMethod yX6_lays, Cond.selects RX6 yX6_lays yX6_lays, Cond.code yX6_lays cX6_lays 4 none, Cond.methodLink RX6 106 yX6_placesOf]
def wsL_law0_r14 : List Cond := [Cond.instanceMethod yX6_placesOf, Cond.selects RX6 yX6_placesOf yX6_placesOf, Cond.code yX6_placesOf cX6_placesOf 5 (some .int), Cond.methodLink RL 119 yL_take, Cond.static yL_take, Cond.codeWith yL_take cL_take 5 (some .int) [(0, 10, 13, 13), (0, 10, 17, 17)], Cond.methodLink RL 30 yX5_take, Cond.instanceMethod yX5_take, Cond.selects RX5 yX5_take yX5_take, Cond.code yX5_take cX5_take 4 (some .int), Cond.methodLink RX5 109 yX2_orderOf, Cond.methodLink RX5 114 yX2_remove, Cond.instanceMethod yX2_remove, Cond.selects RX2 yX2_remove yX2_remove, Cond.code yX2_remove cX2_remove 5 (some .int), Cond.methodLink RX2 45 yX2_placesOf, Cond.instanceMethod yX2_placesOf, Cond.selects RX2 yX2_placesOf yX2_placesOf, Cond.code yX2_placesOf cX2_placesOf 4 (some .int), Cond.methodLink RL 121 yX6_take, Cond.instanceMethod yX6_take, Cond.selects RX6 yX6_take yX6_take, Cond.code yX6_take cX6_take 4 (some .int), Cond.methodLink RX6 109 yX6_takesOff]
def wsL_law0_r15 : List Cond := [Cond.instanceMethod yX6_takesOff, Cond.selects RX6 yX6_takesOff yX6_takesOff, Cond.code yX6_takesOff cX6_takesOff 4 none, Cond.methodLink RX6 56 yX6_remembers, Cond.instanceMethod yX6_remembers, Cond.selects RX6 yX6_remembers yX6_remembers, Cond.code yX6_remembers cX6_remembers 3 none, Cond.methodLink RL 122 yL_stretch, Cond.static yL_stretch, Cond.codeWith yL_stretch cL_stretch 5 (some .int) [(0, 10, 13, 13), (0, 10, 17, 15), (0, 10, 21, 17)], Cond.methodLink RL 33 yX5_stretch, Cond.instanceMethod yX5_stretch, Cond.selects RX5 yX5_stretch yX5_stretch, Cond.code yX5_stretch cX5_stretch 5 (some .int), Cond.methodLink RX5 117 yX5_greatestLength, Cond.instanceMethod yX5_greatestLength, Cond.selects RX5 yX5_greatestLength yX5_greatestLength, Cond.code yX5_greatestLength cX5_greatestLength 3 (some .int), Cond.methodLink RX5 130 yX2_length, Cond.instanceMethod yX2_length, Cond.selects RX2 yX2_length yX2_length, Cond.code yX2_length cX2_length 1 (some .int), Cond.methodLink RX5 314 yX5_huesDueAt, Cond.instanceMethod yX5_huesDueAt]
def wsL_law0_r16 : List Cond := [Cond.selects RX5 yX5_huesDueAt yX5_huesDueAt, Cond.code yX5_huesDueAt cX5_huesDueAt 6 (some .int), Cond.methodLink RX5 123 yX2_hueCount, Cond.instanceMethod yX2_hueCount, Cond.selects RX2 yX2_hueCount yX2_hueCount, Cond.code yX2_hueCount cX2_hueCount 1 (some .int), Cond.methodLink RX5 286 yX2_hueAt, Cond.instanceMethod yX2_hueAt, Cond.selects RX2 yX2_hueAt yX2_hueAt, Cond.code yX2_hueAt cX2_hueAt 2 (some .int), Cond.methodLink RX5 289 yX2_firstFrom, Cond.instanceMethod yX2_firstFrom, Cond.selects RX2 yX2_firstFrom yX2_firstFrom, Cond.code yX2_firstFrom cX2_firstFrom 4 (some .int), Cond.methodLink RX5 304 yX1_remainder, Cond.static yX1_remainder, Cond.initialized RX1, Cond.code yX1_remainder cX1_remainder 2 (some .int), Cond.methodLink RX5 126 yX5_changeLength, Cond.instanceMethod yX5_changeLength, Cond.selects RX5 yX5_changeLength yX5_changeLength, Cond.code yX5_changeLength cX5_changeLength 5 none, Cond.methodLink RX5 283 yX2_begin, Cond.methodLink RX5 292 yX2_put]
def wsL_law0_r17 : List Cond := [Cond.methodLink RX5 155 yX2_copyFrom, Cond.methodLink RL 124 yX6_stretch, Cond.instanceMethod yX6_stretch, Cond.selects RX6 yX6_stretch yX6_stretch, Cond.code yX6_stretch cX6_stretch 3 (some .int), Cond.methodLink RX6 112 yX6_clash, Cond.instanceMethod yX6_clash, Cond.selects RX6 yX6_clash yX6_clash, Cond.code yX6_clash cX6_clash 3 (some .int), Cond.methodLink RX6 49 yX6_takers, Cond.instanceMethod yX6_takers, Cond.selects RX6 yX6_takers yX6_takers, Cond.code yX6_takers cX6_takers 5 (some .int), Cond.methodLink RX6 116 yX6_laysFrom, Cond.instanceMethod yX6_laysFrom, Cond.selects RX6 yX6_laysFrom yX6_laysFrom, Cond.code yX6_laysFrom cX6_laysFrom 6 none, Cond.methodLink RL 125 yL_cut, Cond.static yL_cut, Cond.codeWith yL_cut cL_cut 5 (some .int) [(0, 10, 13, 13), (0, 10, 17, 15), (0, 10, 21, 17)], Cond.methodLink RL 36 yX5_cut, Cond.instanceMethod yX5_cut, Cond.selects RX5 yX5_cut yX5_cut, Cond.code yX5_cut cX5_cut 5 (some .int)]
def wsL_law0_r18 : List Cond := [Cond.methodLink RX5 135 yX5_layBack, Cond.instanceMethod yX5_layBack, Cond.selects RX5 yX5_layBack yX5_layBack, Cond.code yX5_layBack cX5_layBack 7 none, Cond.methodLink RX5 139 yX3_countCut, Cond.instanceMethod yX3_countCut, Cond.selects RX3 yX3_countCut yX3_countCut, Cond.code yX3_countCut cX3_countCut 1 none, Cond.methodLink RL 127 yX6_cut, Cond.instanceMethod yX6_cut, Cond.selects RX6 yX6_cut yX6_cut, Cond.code yX6_cut cX6_cut 4 (some .int), Cond.methodLink RL 128 yL_turn, Cond.static yL_turn, Cond.codeWith yL_turn cL_turn 4 (some .int) [(0, 9, 12, 13)], Cond.methodLink RL 39 yX5_turn, Cond.instanceMethod yX5_turn, Cond.selects RX5 yX5_turn yX5_turn, Cond.code yX5_turn cX5_turn 3 (some .int), Cond.methodLink RX5 142 yX5_turnRound, Cond.instanceMethod yX5_turnRound, Cond.selects RX5 yX5_turnRound yX5_turnRound, Cond.code yX5_turnRound cX5_turnRound 4 (some .int), Cond.methodLink RX5 295 yX2_lastOf]
def wsL_law0_r19 : List Cond := [Cond.instanceMethod yX2_lastOf, Cond.selects RX2 yX2_lastOf yX2_lastOf, Cond.code yX2_lastOf cX2_lastOf 3 (some .int), Cond.methodLink RX5 298 yX2_differences, Cond.instanceMethod yX2_differences, Cond.selects RX2 yX2_differences yX2_differences, Cond.code yX2_differences cX2_differences 4 (some .int), Cond.methodLink RL 130 yX6_turn, Cond.instanceMethod yX6_turn, Cond.selects RX6 yX6_turn yX6_turn, Cond.code yX6_turn cX6_turn 3 (some .int), Cond.methodLink RX6 119 yX6_unlikeTurned, Cond.instanceMethod yX6_unlikeTurned, Cond.selects RX6 yX6_unlikeTurned yX6_unlikeTurned, Cond.code yX6_unlikeTurned cX6_unlikeTurned 4 (some .int), Cond.methodLink RX6 122 yX6_turns, Cond.instanceMethod yX6_turns, Cond.selects RX6 yX6_turns yX6_turns, Cond.code yX6_turns cX6_turns 4 none, Cond.methodLink RX6 60 yX6_lastOf, Cond.instanceMethod yX6_lastOf, Cond.selects RX6 yX6_lastOf yX6_lastOf, Cond.code yX6_lastOf cX6_lastOf 5 (some .int), Cond.methodLink RL 131 yL_join]
def wsL_law0_r20 : List Cond := [Cond.static yL_join, Cond.codeWith yL_join cL_join 5 (some .int) [(0, 10, 13, 13), (0, 10, 17, 17)], Cond.methodLink RL 42 yX5_join, Cond.instanceMethod yX5_join, Cond.selects RX5 yX5_join yX5_join, Cond.code yX5_join cX5_join 5 (some .int), Cond.methodLink RX5 145 yX5_reasonAgainstJoining, Cond.instanceMethod yX5_reasonAgainstJoining, Cond.selects RX5 yX5_reasonAgainstJoining yX5_reasonAgainstJoining, Cond.code yX5_reasonAgainstJoining cX5_reasonAgainstJoining 6 (some .int), Cond.methodLink RX5 151 yX5_draftJoined, Cond.instanceMethod yX5_draftJoined, Cond.selects RX5 yX5_draftJoined yX5_draftJoined, Cond.code yX5_draftJoined cX5_draftJoined 7 (some .boolean), Cond.methodLink RX5 301 yX5_draftLaid, Cond.instanceMethod yX5_draftLaid, Cond.selects RX5 yX5_draftLaid yX5_draftLaid, Cond.code yX5_draftLaid cX5_draftLaid 4 (some .boolean), Cond.methodLink RX5 159 yX3_countJoin, Cond.instanceMethod yX3_countJoin, Cond.selects RX3 yX3_countJoin yX3_countJoin, Cond.code yX3_countJoin cX3_countJoin 1 none, Cond.methodLink RL 133 yX6_join, Cond.instanceMethod yX6_join]
def wsL_law0_r21 : List Cond := [Cond.selects RX6 yX6_join yX6_join, Cond.code yX6_join cX6_join 4 (some .int), Cond.methodLink RX6 137 yX6_whyNotJoined, Cond.instanceMethod yX6_whyNotJoined, Cond.selects RX6 yX6_whyNotJoined yX6_whyNotJoined, Cond.code yX6_whyNotJoined cX6_whyNotJoined 6 (some .int), Cond.methodLink RX6 125 yX6_phaseBehind, Cond.instanceMethod yX6_phaseBehind, Cond.selects RX6 yX6_phaseBehind yX6_phaseBehind, Cond.code yX6_phaseBehind cX6_phaseBehind 4 (some .int), Cond.methodLink RX6 128 yX6_putAside, Cond.instanceMethod yX6_putAside, Cond.selects RX6 yX6_putAside yX6_putAside, Cond.code yX6_putAside cX6_putAside 2 none, Cond.methodLink RX6 131 yX6_joinsWith, Cond.instanceMethod yX6_joinsWith, Cond.selects RX6 yX6_joinsWith yX6_joinsWith, Cond.code yX6_joinsWith cX6_joinsWith 5 none, Cond.methodLink RX6 134 yX6_putBack, Cond.instanceMethod yX6_putBack, Cond.selects RX6 yX6_putBack yX6_putBack, Cond.code yX6_putBack cX6_putBack 2 none, Cond.methodLink RL 134 yL_append, Cond.static yL_append]
def wsL_law0_r22 : List Cond := [Cond.codeWith yL_append cL_append 4 (some .int) [(0, 9, 12, 15), (0, 9, 15, 17)], Cond.methodLink RL 45 yX5_append, Cond.instanceMethod yX5_append, Cond.selects RX5 yX5_append yX5_append, Cond.code yX5_append cX5_append 2 (some .int), Cond.methodLink RX5 164 yX4_isFull, Cond.instanceMethod yX4_isFull, Cond.selects RX4 yX4_isFull yX4_isFull, Cond.code yX4_isFull cX4_isFull 1 (some .boolean), Cond.methodLink RX5 170 yX4_add, Cond.instanceMethod yX4_add, Cond.selects RX4 yX4_add yX4_add, Cond.code yX4_add cX4_add 2 none, Cond.methodLink RX5 173 yX4_length, Cond.instanceMethod yX4_length, Cond.selects RX4 yX4_length yX4_length, Cond.code yX4_length cX4_length 1 (some .int), Cond.methodLink RL 136 yX6_append, Cond.instanceMethod yX6_append, Cond.selects RX6 yX6_append yX6_append, Cond.code yX6_append cX6_append 2 (some .int), Cond.fieldLink RX6 140 "PennantRopesModel" "length" "I", Cond.methodLink RL 137 yX5_clearBuffer, Cond.instanceMethod yX5_clearBuffer]
def wsL_law0_r23 : List Cond := [Cond.selects RX5 yX5_clearBuffer yX5_clearBuffer, Cond.code yX5_clearBuffer cX5_clearBuffer 2 (some .int), Cond.methodLink RX5 174 yX4_empty, Cond.instanceMethod yX4_empty, Cond.selects RX4 yX4_empty yX4_empty, Cond.code yX4_empty cX4_empty 1 none, Cond.methodLink RL 140 yX6_clearBuffer, Cond.instanceMethod yX6_clearBuffer, Cond.selects RX6 yX6_clearBuffer yX6_clearBuffer, Cond.code yX6_clearBuffer cX6_clearBuffer 2 (some .int), Cond.methodLink RL 141 yX5_firstError, Cond.instanceMethod yX5_firstError, Cond.selects RX5 yX5_firstError yX5_firstError, Cond.code yX5_firstError cX5_firstError 1 (some .int), Cond.methodLink RX5 177 yX4_firstWrong, Cond.instanceMethod yX4_firstWrong, Cond.selects RX4 yX4_firstWrong yX4_firstWrong, Cond.code yX4_firstWrong cX4_firstWrong 3 (some .int), Cond.methodLink RX4 19 yX4_codeAt, Cond.instanceMethod yX4_codeAt, Cond.selects RX4 yX4_codeAt yX4_codeAt, Cond.code yX4_codeAt cX4_codeAt 2 (some .int), Cond.methodLink RX4 23 yX4_dueBehind, Cond.static yX4_dueBehind]
def wsL_law0_r24 : List Cond := [Cond.code yX4_dueBehind cX4_dueBehind 2 (some .int), Cond.methodLink RX4 27 yX4_dueBehindFirst, Cond.static yX4_dueBehindFirst, Cond.code yX4_dueBehindFirst cX4_dueBehindFirst 1 (some .int), Cond.methodLink RX4 36 yX4_isHue, Cond.static yX4_isHue, Cond.code yX4_isHue cX4_isHue 1 (some .boolean), Cond.methodLink RX4 40 yX4_isBetween, Cond.static yX4_isBetween, Cond.code yX4_isBetween cX4_isBetween 3 (some .boolean), Cond.methodLink RX4 30 yX4_dueBehindLengthDigit, Cond.static yX4_dueBehindLengthDigit, Cond.code yX4_dueBehindLengthDigit cX4_dueBehindLengthDigit 1 (some .int), Cond.methodLink RX4 33 yX4_dueBehindPhaseDigit, Cond.static yX4_dueBehindPhaseDigit, Cond.code yX4_dueBehindPhaseDigit cX4_dueBehindPhaseDigit 1 (some .int), Cond.methodLink RX4 44 yX4_dueBehindComma, Cond.static yX4_dueBehindComma, Cond.code yX4_dueBehindComma cX4_dueBehindComma 1 (some .int), Cond.methodLink RL 144 yX6_firstError, Cond.instanceMethod yX6_firstError, Cond.selects RX6 yX6_firstError yX6_firstError, Cond.code yX6_firstError cX6_firstError 2 (some .int), Cond.fieldLink RX6 143 "PennantRopesModel" "isWrong" "Z"]
def wsL_law0_r25 : List Cond := [Cond.fieldLink RX6 147 "PennantRopesModel" "position" "I", Cond.methodLink RX6 175 yX6_goes, Cond.instanceMethod yX6_goes, Cond.selects RX6 yX6_goes yX6_goes, Cond.code yX6_goes cX6_goes 6 (some .int), Cond.methodLink RX6 168 yX6_readsPart, Cond.instanceMethod yX6_readsPart, Cond.selects RX6 yX6_readsPart yX6_readsPart, Cond.code yX6_readsPart cX6_readsPart 2 none, Cond.fieldLink RX6 156 "PennantRopesModel" "sign" "I", Cond.fieldLink RX6 162 "PennantRopesModel" "first" "I", Cond.fieldLink RX6 165 "PennantRopesModel" "second" "I", Cond.methodLink RX6 159 yX6_readsNumber, Cond.instanceMethod yX6_readsNumber, Cond.selects RX6 yX6_readsNumber yX6_readsNumber, Cond.code yX6_readsNumber cX6_readsNumber 5 (some .int), Cond.methodLink RX6 150 yX6_reads, Cond.instanceMethod yX6_reads, Cond.selects RX6 yX6_reads yX6_reads, Cond.code yX6_reads cX6_reads 4 (some .int), Cond.methodLink RX6 153 yX6_isNext, Cond.instanceMethod yX6_isNext, Cond.selects RX6 yX6_isNext yX6_isNext, Cond.code yX6_isNext cX6_isNext 3 (some .boolean)]
def wsL_law0_r26 : List Cond := [Cond.methodLink RX6 171 yX6_does, Cond.instanceMethod yX6_does, Cond.selects RX6 yX6_does yX6_does, Cond.code yX6_does cX6_does 2 (some .boolean), Cond.methodLink RL 145 yL_play, Cond.static yL_play, Cond.codeWith yL_play cL_play 3 (some .int) [(0, 8, 11, 15)], Cond.methodLink RL 48 yX5_play, Cond.instanceMethod yX5_play, Cond.selects RX5 yX5_play yX5_play, Cond.code yX5_play cX5_play 5 (some .int), Cond.methodLink RX5 180 yX4_isComplete, Cond.instanceMethod yX4_isComplete, Cond.selects RX4 yX4_isComplete yX4_isComplete, Cond.code yX4_isComplete cX4_isComplete 3 (some .boolean), Cond.methodLink RX5 185 yX4_partEnd, Cond.instanceMethod yX4_partEnd, Cond.selects RX4 yX4_partEnd yX4_partEnd, Cond.code yX4_partEnd cX4_partEnd 3 (some .int), Cond.methodLink RX5 188 yX5_playPart, Cond.instanceMethod yX5_playPart, Cond.selects RX5 yX5_playPart yX5_playPart, Cond.code yX5_playPart cX5_playPart 5 (some .boolean), Cond.methodLink RX5 265 yX4_codeAt]
def wsL_law0_r27 : List Cond := [Cond.methodLink RX5 307 yX4_numberIn, Cond.instanceMethod yX4_numberIn, Cond.selects RX4 yX4_numberIn yX4_numberIn, Cond.code yX4_numberIn cX4_numberIn 5 (some .int), Cond.methodLink RX5 310 yX5_playLaying, Cond.instanceMethod yX5_playLaying, Cond.selects RX5 yX5_playLaying yX5_playLaying, Cond.code yX5_playLaying cX5_playLaying 5 (some .boolean), Cond.methodLink RL 148 yX6_play, Cond.instanceMethod yX6_play, Cond.selects RX6 yX6_play yX6_play, Cond.code yX6_play cX6_play 3 (some .int), Cond.methodLink RL 149 yL_undo, Cond.static yL_undo, Cond.codeWith yL_undo cL_undo 3 (some .int) [(0, 8, 11, 17)], Cond.methodLink RL 52 yX5_undo, Cond.instanceMethod yX5_undo, Cond.selects RX5 yX5_undo yX5_undo, Cond.code yX5_undo cX5_undo 1 (some .int), Cond.methodLink RX5 192 yX0_size, Cond.instanceMethod yX0_size, Cond.selects RX0 yX0_size yX0_size, Cond.code yX0_size cX0_size 1 (some .int), Cond.methodLink RX5 197 yX0_restoreLatest]
def wsL_law0_r28 : List Cond := [Cond.instanceMethod yX0_restoreLatest, Cond.selects RX0 yX0_restoreLatest yX0_restoreLatest, Cond.code yX0_restoreLatest cX0_restoreLatest 3 none, Cond.methodLink RL 151 yX6_undo, Cond.instanceMethod yX6_undo, Cond.selects RX6 yX6_undo yX6_undo, Cond.code yX6_undo cX6_undo 2 (some .int), Cond.methodLink RL 152 yX5_keep, Cond.instanceMethod yX5_keep, Cond.selects RX5 yX5_keep yX5_keep, Cond.code yX5_keep cX5_keep 1 (some .int), Cond.methodLink RX5 200 yX3_copyFrom, Cond.methodLink RL 155 yX6_keep, Cond.instanceMethod yX6_keep, Cond.selects RX6 yX6_keep yX6_keep, Cond.code yX6_keep cX6_keep 2 (some .int), Cond.fieldLink RX6 179 "PennantRopesModel" "isKept" "Z", Cond.methodLink RL 156 yL_restore, Cond.static yL_restore, Cond.codeWith yL_restore cL_restore 3 (some .int) [(0, 8, 11, 17)], Cond.methodLink RL 55 yX5_restore, Cond.instanceMethod yX5_restore, Cond.selects RX5 yX5_restore yX5_restore, Cond.code yX5_restore cX5_restore 1 (some .int)]
def wsL_law0_r29 : List Cond := [Cond.methodLink RL 158 yX6_restore, Cond.instanceMethod yX6_restore, Cond.selects RX6 yX6_restore yX6_restore, Cond.code yX6_restore cX6_restore 2 (some .int), Cond.methodLink RL 159 yL_place, Cond.static yL_place, Cond.codeWith yL_place cL_place 5 (some .int) [(0, 10, 13, 13)], Cond.methodLink RL 58 yX5_place, Cond.instanceMethod yX5_place, Cond.selects RX5 yX5_place yX5_place, Cond.code yX5_place cX5_place 4 (some .int), Cond.methodLink RX5 209 yX2_colourAt, Cond.methodLink RL 161 yX6_place, Cond.instanceMethod yX6_place, Cond.selects RX6 yX6_place yX6_place, Cond.code yX6_place cX6_place 3 (some .int), Cond.methodLink RL 162 yL_ropeOf, Cond.static yL_ropeOf, Cond.codeWith yL_ropeOf cL_ropeOf 5 (some .int) [(0, 10, 13, 13), (0, 10, 17, 15)], Cond.methodLink RL 61 yX5_ropeOf, Cond.instanceMethod yX5_ropeOf, Cond.selects RX5 yX5_ropeOf yX5_ropeOf, Cond.code yX5_ropeOf cX5_ropeOf 4 (some .int), Cond.methodLink RX5 212 yX5_requireWhat]
def wsL_law0_r30 : List Cond := [Cond.instanceMethod yX5_requireWhat, Cond.selects RX5 yX5_requireWhat yX5_requireWhat, Cond.code yX5_requireWhat cX5_requireWhat 3 none, Cond.methodLink RX5 215 yX5_ropeNumber, Cond.instanceMethod yX5_ropeNumber, Cond.selects RX5 yX5_ropeNumber yX5_ropeNumber, Cond.code yX5_ropeNumber cX5_ropeNumber 3 (some .int), Cond.methodLink RX5 326 yX2_placesOf, Cond.methodLink RX5 329 yX2_mostHolesSideBySide, Cond.instanceMethod yX2_mostHolesSideBySide, Cond.selects RX2 yX2_mostHolesSideBySide yX2_mostHolesSideBySide, Cond.code yX2_mostHolesSideBySide cX2_mostHolesSideBySide 4 (some .int), Cond.methodLink RX5 332 yX5_period, Cond.instanceMethod yX5_period, Cond.selects RX5 yX5_period yX5_period, Cond.code yX5_period cX5_period 4 (some .int), Cond.methodLink RX5 323 yX1_leastCommonMultiple, Cond.static yX1_leastCommonMultiple, Cond.code yX1_leastCommonMultiple cX1_leastCommonMultiple 3 (some .int), Cond.methodLink RX1 11 yX1_greatestCommonDivisor, Cond.static yX1_greatestCommonDivisor, Cond.code yX1_greatestCommonDivisor cX1_greatestCommonDivisor 6 (some .int), Cond.methodLink RL 164 yX6_ropeOf, Cond.instanceMethod yX6_ropeOf]
def wsL_law0_r31 : List Cond := [Cond.selects RX6 yX6_ropeOf yX6_ropeOf, Cond.code yX6_ropeOf cX6_ropeOf 3 (some .int), Cond.methodLink RX6 197 yX6_toldOfRope, Cond.instanceMethod yX6_toldOfRope, Cond.selects RX6 yX6_toldOfRope yX6_toldOfRope, Cond.code yX6_toldOfRope cX6_toldOfRope 3 (some .int), Cond.methodLink RX6 185 yX6_holes, Cond.instanceMethod yX6_holes, Cond.selects RX6 yX6_holes yX6_holes, Cond.code yX6_holes cX6_holes 4 (some .int), Cond.methodLink RX6 188 yX6_firstHole, Cond.instanceMethod yX6_firstHole, Cond.selects RX6 yX6_firstHole yX6_firstHole, Cond.code yX6_firstHole cX6_firstHole 4 (some .int), Cond.methodLink RX6 191 yX6_holesSideBySide, Cond.instanceMethod yX6_holesSideBySide, Cond.selects RX6 yX6_holesSideBySide yX6_holesSideBySide, Cond.code yX6_holesSideBySide cX6_holesSideBySide 5 (some .int), Cond.methodLink RX6 194 yX6_period, Cond.instanceMethod yX6_period, Cond.selects RX6 yX6_period yX6_period, Cond.code yX6_period cX6_period 4 (some .int), Cond.methodLink RX6 182 yX6_divisor, Cond.static yX6_divisor]
def wsL_law0_r32 : List Cond := [Cond.code yX6_divisor cX6_divisor 5 (some .int), Cond.methodLink RL 165 yL_hueOf, Cond.static yL_hueOf, Cond.codeWith yL_hueOf cL_hueOf 6 (some .int) [(0, 12, 15, 13), (0, 12, 19, 15)], Cond.methodLink RL 64 yX5_hueOf, Cond.instanceMethod yX5_hueOf, Cond.selects RX5 yX5_hueOf yX5_hueOf, Cond.code yX5_hueOf cX5_hueOf 5 (some .int), Cond.methodLink RX5 219 yX2_hueNumber, Cond.instanceMethod yX2_hueNumber, Cond.selects RX2 yX2_hueNumber yX2_hueNumber, Cond.code yX2_hueNumber cX2_hueNumber 4 (some .int), Cond.methodLink RX2 48 yX2_firstFrom, Cond.methodLink RX2 51 yX2_lastOf, Cond.methodLink RL 167 yX6_hueOf, Cond.instanceMethod yX6_hueOf, Cond.selects RX6 yX6_hueOf yX6_hueOf, Cond.code yX6_hueOf cX6_hueOf 4 (some .int), Cond.methodLink RX6 203 yX6_toldOfHue, Cond.instanceMethod yX6_toldOfHue, Cond.selects RX6 yX6_toldOfHue yX6_toldOfHue, Cond.code yX6_toldOfHue cX6_toldOfHue 4 (some .int), Cond.methodLink RX6 200 yX6_orderOf, Cond.instanceMethod yX6_orderOf]
def wsL_law0_r33 : List Cond := [Cond.selects RX6 yX6_orderOf yX6_orderOf, Cond.code yX6_orderOf cX6_orderOf 5 (some .int), Cond.methodLink RL 168 yL_gapOf, Cond.static yL_gapOf, Cond.codeWith yL_gapOf cL_gapOf 4 (some .int) [(0, 9, 12, 13)], Cond.methodLink RL 67 yX5_gapOf, Cond.instanceMethod yX5_gapOf, Cond.selects RX5 yX5_gapOf yX5_gapOf, Cond.code yX5_gapOf cX5_gapOf 2 (some .int), Cond.methodLink RL 170 yX6_gapOf, Cond.instanceMethod yX6_gapOf, Cond.selects RX6 yX6_gapOf yX6_gapOf, Cond.code yX6_gapOf cX6_gapOf 2 (some .int), Cond.methodLink RL 171 yL_count, Cond.static yL_count, Cond.codeWith yL_count cL_count 4 (some .int) [(0, 9, 12, 15)], Cond.methodLink RL 70 yX5_count, Cond.instanceMethod yX5_count, Cond.selects RX5 yX5_count yX5_count, Cond.code yX5_count cX5_count 2 (some .int), Cond.methodLink RX5 223 yX5_counted, Cond.instanceMethod yX5_counted, Cond.selects RX5 yX5_counted yX5_counted, Cond.code yX5_counted cX5_counted 2 (some .int)]
def wsL_law0_r34 : List Cond := [Cond.methodLink RX5 241 yX3_places, Cond.instanceMethod yX3_places, Cond.selects RX3 yX3_places yX3_places, Cond.code yX3_places cX3_places 4 (some .int), Cond.methodLink RX3 55 yX2_length, Cond.methodLink RX5 244 yX3_holes, Cond.instanceMethod yX3_holes, Cond.selects RX3 yX3_holes yX3_holes, Cond.code yX3_holes cX3_holes 4 (some .int), Cond.methodLink RX3 59 yX2_placesOf, Cond.methodLink RX5 335 yX3_laidHues, Cond.instanceMethod yX3_laidHues, Cond.selects RX3 yX3_laidHues yX3_laidHues, Cond.code yX3_laidHues cX3_laidHues 3 (some .int), Cond.methodLink RX3 62 yX3_isLaidOnSome, Cond.methodLink RX5 338 yX3_layings, Cond.instanceMethod yX3_layings, Cond.selects RX3 yX3_layings yX3_layings, Cond.code yX3_layings cX3_layings 1 (some .int), Cond.methodLink RX5 341 yX3_joins, Cond.instanceMethod yX3_joins, Cond.selects RX3 yX3_joins yX3_joins, Cond.code yX3_joins cX3_joins 1 (some .int), Cond.methodLink RX5 344 yX3_cuts]
def wsL_law0_r35 : List Cond := [Cond.instanceMethod yX3_cuts, Cond.selects RX3 yX3_cuts yX3_cuts, Cond.code yX3_cuts cX3_cuts 1 (some .int), Cond.methodLink RL 173 yX6_count, Cond.instanceMethod yX6_count, Cond.selects RX6 yX6_count yX6_count, Cond.code yX6_count cX6_count 2 (some .int), Cond.methodLink RX6 213 yX6_counted, Cond.instanceMethod yX6_counted, Cond.selects RX6 yX6_counted yX6_counted, Cond.code yX6_counted cX6_counted 2 (some .int), Cond.methodLink RX6 206 yX6_sum, Cond.instanceMethod yX6_sum, Cond.selects RX6 yX6_sum yX6_sum, Cond.code yX6_sum cX6_sum 4 (some .int), Cond.methodLink RX6 209 yX6_huesLaid, Cond.instanceMethod yX6_huesLaid, Cond.selects RX6 yX6_huesLaid yX6_huesLaid, Cond.code yX6_huesLaid cX6_huesLaid 3 (some .int), Cond.methodLink RL 174 yL_refusal, Cond.static yL_refusal, Cond.codeWith yL_refusal cL_refusal 6 (some .int) [(0, 12, 15, 13), (0, 12, 19, 15)], Cond.methodLink RL 73 yX5_refusal, Cond.instanceMethod yX5_refusal]
def wsL_law0_r36 : List Cond := [Cond.selects RX5 yX5_refusal yX5_refusal, Cond.code yX5_refusal cX5_refusal 5 (some .int), Cond.methodLink RL 176 yX6_refusal, Cond.instanceMethod yX6_refusal, Cond.selects RX6 yX6_refusal yX6_refusal, Cond.code yX6_refusal cX6_refusal 4 (some .int), Cond.methodLink RL 177 yL_meeting, Cond.static yL_meeting, Cond.codeWith yL_meeting cL_meeting 7 (some .int) [(0, 14, 17, 13), (0, 14, 21, 15)], Cond.methodLink RL 76 yX5_meeting, Cond.instanceMethod yX5_meeting, Cond.selects RX5 yX5_meeting yX5_meeting, Cond.code yX5_meeting cX5_meeting 5 (some .int), Cond.methodLink RX5 226 yX1_meetByRemainders, Cond.static yX1_meetByRemainders, Cond.code yX1_meetByRemainders cX1_meetByRemainders 7 (some .int), Cond.methodLink RX1 15 yX1_remainder, Cond.methodLink RL 180 yX6_meeting, Cond.instanceMethod yX6_meeting, Cond.selects RX6 yX6_meeting yX6_meeting, Cond.code yX6_meeting cX6_meeting 5 (some .int), Cond.methodLink RX6 216 yX6_canMeet, Cond.instanceMethod yX6_canMeet, Cond.selects RX6 yX6_canMeet yX6_canMeet]
def wsL_law0_r37 : List Cond := [Cond.code yX6_canMeet cX6_canMeet 6 (some .boolean), Cond.methodLink RX6 220 yX6_meet, Cond.instanceMethod yX6_meet, Cond.selects RX6 yX6_meet yX6_meet, Cond.code yX6_meet cX6_meet 6 (some .int), Cond.methodLink RL 181 yL_walked, Cond.static yL_walked, Cond.codeWith yL_walked cL_walked 7 (some .int) [(0, 14, 17, 13), (0, 14, 21, 15)], Cond.methodLink RL 80 yX5_walked, Cond.instanceMethod yX5_walked, Cond.selects RX5 yX5_walked yX5_walked, Cond.code yX5_walked cX5_walked 5 (some .int), Cond.methodLink RX5 232 yX1_meetByWalking, Cond.static yX1_meetByWalking, Cond.code yX1_meetByWalking cX1_meetByWalking 7 (some .int), Cond.methodLink RL 183 yX6_walked, Cond.instanceMethod yX6_walked, Cond.selects RX6 yX6_walked yX6_walked, Cond.code yX6_walked cX6_walked 5 (some .int), Cond.methodLink RL 184 yL_phases, Cond.static yL_phases, Cond.codeWith yL_phases cL_phases 6 (some .int) [(0, 12, 15, 13), (0, 12, 19, 15)], Cond.methodLink RL 83 yX5_phases, Cond.instanceMethod yX5_phases]
def wsL_law0_r38 : List Cond := [Cond.selects RX5 yX5_phases yX5_phases, Cond.code yX5_phases cX5_phases 5 (some .int), Cond.methodLink RX5 235 yX2_phaseNumber, Cond.instanceMethod yX2_phaseNumber, Cond.selects RX2 yX2_phaseNumber yX2_phaseNumber, Cond.code yX2_phaseNumber cX2_phaseNumber 4 (some .int), Cond.methodLink RX2 54 yX2_fittingPhases, Cond.instanceMethod yX2_fittingPhases, Cond.selects RX2 yX2_fittingPhases yX2_fittingPhases, Cond.code yX2_fittingPhases cX2_fittingPhases 5 (some .int), Cond.methodLink RX2 63 yX2_reasonAgainst, Cond.methodLink RX2 57 yX2_lowestPhase, Cond.instanceMethod yX2_lowestPhase, Cond.selects RX2 yX2_lowestPhase yX2_lowestPhase, Cond.code yX2_lowestPhase cX2_lowestPhase 4 (some .int), Cond.methodLink RX2 60 yX2_fillingPhase, Cond.instanceMethod yX2_fillingPhase, Cond.selects RX2 yX2_fillingPhase yX2_fillingPhase, Cond.code yX2_fillingPhase cX2_fillingPhase 7 (some .int), Cond.methodLink RX2 67 yX2_placesFrom, Cond.instanceMethod yX2_placesFrom, Cond.selects RX2 yX2_placesFrom yX2_placesFrom, Cond.code yX2_placesFrom cX2_placesFrom 6 (some .int), Cond.methodLink RL 186 yX6_phases]
def wsL_law0_r39 : List Cond := [Cond.instanceMethod yX6_phases, Cond.selects RX6 yX6_phases yX6_phases, Cond.code yX6_phases cX6_phases 4 (some .int), Cond.methodLink RX6 227 yX6_toldOfPhases, Cond.instanceMethod yX6_toldOfPhases, Cond.selects RX6 yX6_toldOfPhases yX6_toldOfPhases, Cond.code yX6_toldOfPhases cX6_toldOfPhases 9 (some .int), Cond.methodLink RX6 224 yX6_wouldTake, Cond.instanceMethod yX6_wouldTake, Cond.selects RX6 yX6_wouldTake yX6_wouldTake, Cond.code yX6_wouldTake cX6_wouldTake 4 (some .int), Cond.methodLink RL 187 yL_bestHue, Cond.static yL_bestHue, Cond.codeWith yL_bestHue cL_bestHue 4 (some .int) [(0, 9, 12, 13)], Cond.methodLink RL 86 yX5_bestHue, Cond.instanceMethod yX5_bestHue, Cond.selects RX5 yX5_bestHue yX5_bestHue, Cond.code yX5_bestHue cX5_bestHue 2 (some .int), Cond.methodLink RX5 238 yX5_fillingHue, Cond.instanceMethod yX5_fillingHue, Cond.selects RX5 yX5_fillingHue yX5_fillingHue, Cond.code yX5_fillingHue cX5_fillingHue 8 (some .int), Cond.methodLink RX5 317 yX2_fillingPhase, Cond.methodLink RX5 320 yX2_placesFrom]
def wsL_law0_r40 : List Cond := [Cond.methodLink RL 189 yX6_bestHue, Cond.instanceMethod yX6_bestHue, Cond.selects RX6 yX6_bestHue yX6_bestHue, Cond.code yX6_bestHue cX6_bestHue 2 (some .int), Cond.methodLink RX6 230 yX6_best, Cond.instanceMethod yX6_best, Cond.selects RX6 yX6_best yX6_best, Cond.code yX6_best cX6_best 7 (some .int), Cond.methodLink RL 190 yL_joining, Cond.static yL_joining, Cond.codeWith yL_joining cL_joining 5 (some .int) [(0, 10, 13, 13)], Cond.methodLink RL 89 yX5_joining, Cond.instanceMethod yX5_joining, Cond.selects RX5 yX5_joining yX5_joining, Cond.code yX5_joining cX5_joining 5 (some .int), Cond.methodLink RL 192 yX6_joining, Cond.instanceMethod yX6_joining, Cond.selects RX6 yX6_joining yX6_joining, Cond.code yX6_joining cX6_joining 3 (some .int), Cond.methodLink RL 193 yL_greatest, Cond.static yL_greatest, Cond.codeWith yL_greatest cL_greatest 4 (some .int) [(0, 9, 12, 13)], Cond.methodLink RL 92 yX5_greatest, Cond.instanceMethod yX5_greatest]
def wsL_law0_r41 : List Cond := [Cond.selects RX5 yX5_greatest yX5_greatest, Cond.code yX5_greatest cX5_greatest 2 (some .int), Cond.methodLink RL 195 yX6_greatest, Cond.instanceMethod yX6_greatest, Cond.selects RX6 yX6_greatest yX6_greatest, Cond.code yX6_greatest cX6_greatest 2 (some .int), Cond.methodLink RL 196 yX5_fullness, Cond.instanceMethod yX5_fullness, Cond.selects RX5 yX5_fullness yX5_fullness, Cond.code yX5_fullness cX5_fullness 3 (some .double), Cond.methodLink RL 200 yX6_fullness, Cond.instanceMethod yX6_fullness, Cond.selects RX6 yX6_fullness yX6_fullness, Cond.code yX6_fullness cX6_fullness 1 (some .double), Cond.methodLink RX6 233 yX6_share, Cond.instanceMethod yX6_share, Cond.selects RX6 yX6_share yX6_share, Cond.code yX6_share cX6_share 1 (some .double), Cond.methodLink RL 201 yX5_digest, Cond.instanceMethod yX5_digest, Cond.selects RX5 yX5_digest yX5_digest, Cond.code yX5_digest cX5_digest 4 (some .long), Cond.constantLong RX5 247 (3643), Cond.methodLink RX5 249 yX5_mixed]
def wsL_law0_r42 : List Cond := [Cond.static yX5_mixed, Cond.code yX5_mixed cX5_mixed 4 (some .long), Cond.constantLong RX5 347 (31), Cond.methodLink RX5 253 yX5_ropeMixed, Cond.instanceMethod yX5_ropeMixed, Cond.selects RX5 yX5_ropeMixed yX5_ropeMixed, Cond.code yX5_ropeMixed cX5_ropeMixed 9 (some .long), Cond.methodLink RX5 349 yX5_hueMixed, Cond.instanceMethod yX5_hueMixed, Cond.selects RX5 yX5_hueMixed yX5_hueMixed, Cond.code yX5_hueMixed cX5_hueMixed 8 (some .long), Cond.methodLink RX5 257 yX5_fullness, Cond.methodLink RX5 261 yX1_bitsOfShare, Cond.static yX1_bitsOfShare, Cond.code yX1_bitsOfShare cX1_bitsOfShare 8 (some .long), Cond.constantLong RX1 18 (1023), Cond.constantDouble RX1 20 (4611686018427387904), Cond.constantDouble RX1 22 (4841369599423283200), Cond.methodLink RL 205 yX6_digest, Cond.instanceMethod yX6_digest, Cond.selects RX6 yX6_digest yX6_digest, Cond.code yX6_digest cX6_digest 2 (some .long), Cond.constantLong RX6 255 (3643), Cond.fieldLink RX6 247 "PennantRopesModel" "digested" "J"]
def wsL_law0_r43 : List Cond := [Cond.methodLink RX6 251 yX6_digestOne, Cond.instanceMethod yX6_digestOne, Cond.selects RX6 yX6_digestOne yX6_digestOne, Cond.code yX6_digestOne cX6_digestOne 3 none, Cond.constantLong RX6 245 (31), Cond.methodLink RX6 257 yX6_digestRope, Cond.instanceMethod yX6_digestRope, Cond.selects RX6 yX6_digestRope yX6_digestRope, Cond.code yX6_digestRope cX6_digestRope 4 none, Cond.methodLink RX6 260 yX6_bitsOf, Cond.static yX6_bitsOf, Cond.code yX6_bitsOf cX6_bitsOf 6 (some .long), Cond.constantLong RX6 237 (1023), Cond.constantDouble RX6 239 (4611686018427387904), Cond.constantLong RX6 241 (4503599627370496), Cond.constantDouble RX6 243 (4841369599423283200)]
def wsL_law0 : List Cond := (wsL_law0_r1 ++ (wsL_law0_r2 ++ (wsL_law0_r3 ++ (wsL_law0_r4 ++ (wsL_law0_r5 ++ (wsL_law0_r6 ++ (wsL_law0_r7 ++ (wsL_law0_r8 ++ (wsL_law0_r9 ++ (wsL_law0_r10 ++ (wsL_law0_r11 ++ (wsL_law0_r12 ++ (wsL_law0_r13 ++ (wsL_law0_r14 ++ (wsL_law0_r15 ++ (wsL_law0_r16 ++ (wsL_law0_r17 ++ (wsL_law0_r18 ++ (wsL_law0_r19 ++ (wsL_law0_r20 ++ (wsL_law0_r21 ++ (wsL_law0_r22 ++ (wsL_law0_r23 ++ (wsL_law0_r24 ++ (wsL_law0_r25 ++ (wsL_law0_r26 ++ (wsL_law0_r27 ++ (wsL_law0_r28 ++ (wsL_law0_r29 ++ (wsL_law0_r30 ++ (wsL_law0_r31 ++ (wsL_law0_r32 ++ (wsL_law0_r33 ++ (wsL_law0_r34 ++ (wsL_law0_r35 ++ (wsL_law0_r36 ++ (wsL_law0_r37 ++ (wsL_law0_r38 ++ (wsL_law0_r39 ++ (wsL_law0_r40 ++ (wsL_law0_r41 ++ (wsL_law0_r42 ++ wsL_law0_r43)))))))))))))))))))))))))))))))))))))))))) ++ wsX50 ++ wsX60 ++ wsX30 ++ wsX00 ++ wsX40 ++ wsX20 ++ ([] : List Cond)
def wsL_law : List Cond := wsL_law0 ++ (vx_atS RX5 52 "java/lang/IllegalArgumentException" ["java/lang/RuntimeException", "java/lang/Exception"]).filter goodWord ++ (vx_atS RX5 63 "java/lang/IllegalStateException" ["java/lang/RuntimeException", "java/lang/Exception"]).filter goodWord ++ (vx_atS RX5 208 "java/lang/IndexOutOfBoundsException" ["java/lang/RuntimeException", "java/lang/Exception"]).filter goodWord
set_option maxRecDepth 20000 in
theorem inlX0 : ∀ w ∈ wsX00, w ∈ wsL_law := fun _ h => List.mem_append_left _ (List.mem_append_left _ (List.mem_append_left _ (List.mem_append_left _ (List.mem_append_left _ (List.mem_append_left _ (List.mem_append_right _ h))))))
theorem inlX2 : ∀ w ∈ wsX20, w ∈ wsL_law := fun _ h => List.mem_append_left _ (List.mem_append_left _ (List.mem_append_left _ (List.mem_append_left _ (List.mem_append_right _ h))))
theorem inlX3 : ∀ w ∈ wsX30, w ∈ wsL_law := fun _ h => List.mem_append_left _ (List.mem_append_left _ (List.mem_append_left _ (List.mem_append_left _ (List.mem_append_left _ (List.mem_append_left _ (List.mem_append_left _ (List.mem_append_right _ h)))))))
theorem inlX4 : ∀ w ∈ wsX40, w ∈ wsL_law := fun _ h => List.mem_append_left _ (List.mem_append_left _ (List.mem_append_left _ (List.mem_append_left _ (List.mem_append_left _ (List.mem_append_right _ h)))))
theorem inlX5 : ∀ w ∈ wsX50, w ∈ wsL_law := fun _ h => List.mem_append_left _ (List.mem_append_left _ (List.mem_append_left _ (List.mem_append_left _ (List.mem_append_left _ (List.mem_append_left _ (List.mem_append_left _ (List.mem_append_left _ (List.mem_append_left _ (List.mem_append_right _ h)))))))))
theorem inlX6 : ∀ w ∈ wsX60, w ∈ wsL_law := fun _ h => List.mem_append_left _ (List.mem_append_left _ (List.mem_append_left _ (List.mem_append_left _ (List.mem_append_left _ (List.mem_append_left _ (List.mem_append_left _ (List.mem_append_left _ (List.mem_append_right _ h))))))))
abbrev vwCl : List vw_C := [(RX0, TX0, 2), (RX2, TX2, 4), (RX3, TX3, 6), (RX4, TX4, 2), (RX5, TX5, 6), (RX6, TX6, 16)]
end
section
theorem dX0_init_0 : decode cX0_init 0 = .ok (.aload_n 0, 1) := by decide +kernel
theorem dX0_init_1 : decode cX0_init 1 = .ok (.invokespecial 3, 3) := by decide +kernel
theorem dX0_init_4 : decode cX0_init 4 = .ok (.aload_n 0, 1) := by decide +kernel
theorem dX0_init_5 : decode cX0_init 5 = .ok (.bipush 6, 2) := by decide +kernel
theorem dX0_init_7 : decode cX0_init 7 = .ok (.anewarray 9, 3) := by decide +kernel
theorem dX0_init_10 : decode cX0_init 10 = .ok (.putfield 11, 3) := by decide +kernel
theorem dX0_init_13 : decode cX0_init 13 = .ok (.iconst 0, 1) := by decide +kernel
theorem dX0_init_14 : decode cX0_init 14 = .ok (.istore_n 1, 1) := by decide +kernel
theorem dX0_init_15 : decode cX0_init 15 = .ok (.iload_n 1, 1) := by decide +kernel
theorem dX0_init_16 : decode cX0_init 16 = .ok (.aload_n 0, 1) := by decide +kernel
theorem dX0_init_17 : decode cX0_init 17 = .ok (.getfield 11, 3) := by decide +kernel
theorem dX0_init_20 : decode cX0_init 20 = .ok (.arraylength, 1) := by decide +kernel
theorem dX0_init_21 : decode cX0_init 21 = .ok (.if_icmp .ge 22, 3) := by decide +kernel
theorem dX0_init_24 : decode cX0_init 24 = .ok (.aload_n 0, 1) := by decide +kernel
theorem dX0_init_25 : decode cX0_init 25 = .ok (.getfield 11, 3) := by decide +kernel
theorem dX0_init_28 : decode cX0_init 28 = .ok (.iload_n 1, 1) := by decide +kernel
theorem dX0_init_29 : decode cX0_init 29 = .ok (.new 9, 3) := by decide +kernel
theorem dX0_init_32 : decode cX0_init 32 = .ok (.dup, 1) := by decide +kernel
theorem dX0_init_33 : decode cX0_init 33 = .ok (.invokespecial 17, 3) := by decide +kernel
theorem dX0_init_36 : decode cX0_init 36 = .ok (.aastore, 1) := by decide +kernel
theorem dX0_init_37 : decode cX0_init 37 = .ok (.iinc 1 1, 3) := by decide +kernel
theorem dX0_init_40 : decode cX0_init 40 = .ok (.goto (-25), 3) := by decide +kernel
theorem dX0_init_43 : decode cX0_init 43 = .ok (.aload_n 0, 1) := by decide +kernel
theorem dX0_init_44 : decode cX0_init 44 = .ok (.iconst 0, 1) := by decide +kernel
theorem dX0_init_45 : decode cX0_init 45 = .ok (.putfield 18, 3) := by decide +kernel
theorem dX0_init_48 : decode cX0_init 48 = .ok (.return_, 1) := by decide +kernel
theorem dX0_size_0 : decode cX0_size 0 = .ok (.aload_n 0, 1) := by decide +kernel
theorem dX0_size_1 : decode cX0_size 1 = .ok (.getfield 18, 3) := by decide +kernel
theorem dX0_size_4 : decode cX0_size 4 = .ok (.ireturn, 1) := by decide +kernel
theorem dX0_save_0 : decode cX0_save 0 = .ok (.aload_n 0, 1) := by decide +kernel
theorem dX0_save_1 : decode cX0_save 1 = .ok (.getfield 18, 3) := by decide +kernel
theorem dX0_save_4 : decode cX0_save 4 = .ok (.aload_n 0, 1) := by decide +kernel
theorem dX0_save_5 : decode cX0_save 5 = .ok (.getfield 11, 3) := by decide +kernel
theorem dX0_save_8 : decode cX0_save 8 = .ok (.arraylength, 1) := by decide +kernel
theorem dX0_save_9 : decode cX0_save 9 = .ok (.if_icmp .lt 7, 3) := by decide +kernel
theorem dX0_save_12 : decode cX0_save 12 = .ok (.aload_n 0, 1) := by decide +kernel
theorem dX0_save_13 : decode cX0_save 13 = .ok (.invokevirtual 22, 3) := by decide +kernel
theorem dX0_save_16 : decode cX0_save 16 = .ok (.aload_n 0, 1) := by decide +kernel
theorem dX0_save_17 : decode cX0_save 17 = .ok (.aload_n 0, 1) := by decide +kernel
theorem dX0_save_18 : decode cX0_save 18 = .ok (.getfield 18, 3) := by decide +kernel
theorem dX0_save_21 : decode cX0_save 21 = .ok (.invokevirtual 25, 3) := by decide +kernel
theorem dX0_save_24 : decode cX0_save 24 = .ok (.astore_n 2, 1) := by decide +kernel
theorem dX0_save_25 : decode cX0_save 25 = .ok (.aload_n 2, 1) := by decide +kernel
theorem dX0_save_26 : decode cX0_save 26 = .ok (.ifnull 18, 3) := by decide +kernel
theorem dX0_save_29 : decode cX0_save 29 = .ok (.aload_n 2, 1) := by decide +kernel
theorem dX0_save_30 : decode cX0_save 30 = .ok (.aload_n 1, 1) := by decide +kernel
theorem dX0_save_31 : decode cX0_save 31 = .ok (.invokevirtual 29, 3) := by decide +kernel
theorem dX0_save_34 : decode cX0_save 34 = .ok (.aload_n 0, 1) := by decide +kernel
theorem dX0_save_35 : decode cX0_save 35 = .ok (.dup, 1) := by decide +kernel
theorem dX0_save_36 : decode cX0_save 36 = .ok (.getfield 18, 3) := by decide +kernel
theorem dX0_save_39 : decode cX0_save 39 = .ok (.iconst 1, 1) := by decide +kernel
theorem dX0_save_40 : decode cX0_save 40 = .ok (.iadd, 1) := by decide +kernel
theorem dX0_save_41 : decode cX0_save 41 = .ok (.putfield 18, 3) := by decide +kernel
theorem dX0_save_44 : decode cX0_save 44 = .ok (.return_, 1) := by decide +kernel
theorem dX0_restoreLatest_0 : decode cX0_restoreLatest 0 = .ok (.aload_n 0, 1) := by decide +kernel
theorem dX0_restoreLatest_1 : decode cX0_restoreLatest 1 = .ok (.aload_n 0, 1) := by decide +kernel
theorem dX0_restoreLatest_2 : decode cX0_restoreLatest 2 = .ok (.getfield 18, 3) := by decide +kernel
theorem dX0_restoreLatest_5 : decode cX0_restoreLatest 5 = .ok (.iconst 1, 1) := by decide +kernel
theorem dX0_restoreLatest_6 : decode cX0_restoreLatest 6 = .ok (.isub, 1) := by decide +kernel
theorem dX0_restoreLatest_7 : decode cX0_restoreLatest 7 = .ok (.invokevirtual 25, 3) := by decide +kernel
theorem dX0_restoreLatest_10 : decode cX0_restoreLatest 10 = .ok (.astore_n 2, 1) := by decide +kernel
theorem dX0_restoreLatest_11 : decode cX0_restoreLatest 11 = .ok (.aload_n 2, 1) := by decide +kernel
theorem dX0_restoreLatest_12 : decode cX0_restoreLatest 12 = .ok (.ifnull 18, 3) := by decide +kernel
theorem dX0_restoreLatest_15 : decode cX0_restoreLatest 15 = .ok (.aload_n 1, 1) := by decide +kernel
theorem dX0_restoreLatest_16 : decode cX0_restoreLatest 16 = .ok (.aload_n 2, 1) := by decide +kernel
theorem dX0_restoreLatest_17 : decode cX0_restoreLatest 17 = .ok (.invokevirtual 29, 3) := by decide +kernel
theorem dX0_restoreLatest_20 : decode cX0_restoreLatest 20 = .ok (.aload_n 0, 1) := by decide +kernel
theorem dX0_restoreLatest_21 : decode cX0_restoreLatest 21 = .ok (.dup, 1) := by decide +kernel
theorem dX0_restoreLatest_22 : decode cX0_restoreLatest 22 = .ok (.getfield 18, 3) := by decide +kernel
theorem dX0_restoreLatest_25 : decode cX0_restoreLatest 25 = .ok (.iconst 1, 1) := by decide +kernel
theorem dX0_restoreLatest_26 : decode cX0_restoreLatest 26 = .ok (.isub, 1) := by decide +kernel
theorem dX0_restoreLatest_27 : decode cX0_restoreLatest 27 = .ok (.putfield 18, 3) := by decide +kernel
theorem dX0_restoreLatest_30 : decode cX0_restoreLatest 30 = .ok (.return_, 1) := by decide +kernel
theorem dX0_rowAt_0 : decode cX0_rowAt 0 = .ok (.iload_n 1, 1) := by decide +kernel
theorem dX0_rowAt_1 : decode cX0_rowAt 1 = .ok (.ifCond .lt 21, 3) := by decide +kernel
theorem dX0_rowAt_4 : decode cX0_rowAt 4 = .ok (.iload_n 1, 1) := by decide +kernel
theorem dX0_rowAt_5 : decode cX0_rowAt 5 = .ok (.aload_n 0, 1) := by decide +kernel
theorem dX0_rowAt_6 : decode cX0_rowAt 6 = .ok (.getfield 11, 3) := by decide +kernel
theorem dX0_rowAt_9 : decode cX0_rowAt 9 = .ok (.arraylength, 1) := by decide +kernel
theorem dX0_rowAt_10 : decode cX0_rowAt 10 = .ok (.if_icmp .ge 12, 3) := by decide +kernel
theorem dX0_rowAt_13 : decode cX0_rowAt 13 = .ok (.aload_n 0, 1) := by decide +kernel
theorem dX0_rowAt_14 : decode cX0_rowAt 14 = .ok (.getfield 11, 3) := by decide +kernel
theorem dX0_rowAt_17 : decode cX0_rowAt 17 = .ok (.iload_n 1, 1) := by decide +kernel
theorem dX0_rowAt_18 : decode cX0_rowAt 18 = .ok (.aaload, 1) := by decide +kernel
theorem dX0_rowAt_19 : decode cX0_rowAt 19 = .ok (.goto 4, 3) := by decide +kernel
theorem dX0_rowAt_22 : decode cX0_rowAt 22 = .ok (.aconst_null, 1) := by decide +kernel
theorem dX0_rowAt_23 : decode cX0_rowAt 23 = .ok (.areturn, 1) := by decide +kernel
theorem dX0_dropOldest_0 : decode cX0_dropOldest 0 = .ok (.aload_n 0, 1) := by decide +kernel
theorem dX0_dropOldest_1 : decode cX0_dropOldest 1 = .ok (.iconst 0, 1) := by decide +kernel
theorem dX0_dropOldest_2 : decode cX0_dropOldest 2 = .ok (.invokevirtual 25, 3) := by decide +kernel
theorem dX0_dropOldest_5 : decode cX0_dropOldest 5 = .ok (.astore_n 1, 1) := by decide +kernel
theorem dX0_dropOldest_6 : decode cX0_dropOldest 6 = .ok (.iconst 1, 1) := by decide +kernel
theorem dX0_dropOldest_7 : decode cX0_dropOldest 7 = .ok (.istore_n 2, 1) := by decide +kernel
theorem dX0_dropOldest_8 : decode cX0_dropOldest 8 = .ok (.iload_n 2, 1) := by decide +kernel
theorem dX0_dropOldest_9 : decode cX0_dropOldest 9 = .ok (.aload_n 0, 1) := by decide +kernel
theorem dX0_dropOldest_10 : decode cX0_dropOldest 10 = .ok (.getfield 11, 3) := by decide +kernel
theorem dX0_dropOldest_13 : decode cX0_dropOldest 13 = .ok (.arraylength, 1) := by decide +kernel
theorem dX0_dropOldest_14 : decode cX0_dropOldest 14 = .ok (.if_icmp .ge 23, 3) := by decide +kernel
theorem dX0_dropOldest_17 : decode cX0_dropOldest 17 = .ok (.aload_n 0, 1) := by decide +kernel
theorem dX0_dropOldest_18 : decode cX0_dropOldest 18 = .ok (.getfield 11, 3) := by decide +kernel
theorem dX0_dropOldest_21 : decode cX0_dropOldest 21 = .ok (.iload_n 2, 1) := by decide +kernel
theorem dX0_dropOldest_22 : decode cX0_dropOldest 22 = .ok (.iconst 1, 1) := by decide +kernel
theorem dX0_dropOldest_23 : decode cX0_dropOldest 23 = .ok (.isub, 1) := by decide +kernel
theorem dX0_dropOldest_24 : decode cX0_dropOldest 24 = .ok (.aload_n 0, 1) := by decide +kernel
theorem dX0_dropOldest_25 : decode cX0_dropOldest 25 = .ok (.getfield 11, 3) := by decide +kernel
theorem dX0_dropOldest_28 : decode cX0_dropOldest 28 = .ok (.iload_n 2, 1) := by decide +kernel
theorem dX0_dropOldest_29 : decode cX0_dropOldest 29 = .ok (.aaload, 1) := by decide +kernel
theorem dX0_dropOldest_30 : decode cX0_dropOldest 30 = .ok (.aastore, 1) := by decide +kernel
theorem dX0_dropOldest_31 : decode cX0_dropOldest 31 = .ok (.iinc 2 1, 3) := by decide +kernel
theorem dX0_dropOldest_34 : decode cX0_dropOldest 34 = .ok (.goto (-26), 3) := by decide +kernel
theorem dX0_dropOldest_37 : decode cX0_dropOldest 37 = .ok (.aload_n 0, 1) := by decide +kernel
theorem dX0_dropOldest_38 : decode cX0_dropOldest 38 = .ok (.aload_n 0, 1) := by decide +kernel
theorem dX0_dropOldest_39 : decode cX0_dropOldest 39 = .ok (.getfield 11, 3) := by decide +kernel
theorem dX0_dropOldest_42 : decode cX0_dropOldest 42 = .ok (.arraylength, 1) := by decide +kernel
theorem dX0_dropOldest_43 : decode cX0_dropOldest 43 = .ok (.iconst 1, 1) := by decide +kernel
theorem dX0_dropOldest_44 : decode cX0_dropOldest 44 = .ok (.isub, 1) := by decide +kernel
theorem dX0_dropOldest_45 : decode cX0_dropOldest 45 = .ok (.putfield 18, 3) := by decide +kernel
theorem dX0_dropOldest_48 : decode cX0_dropOldest 48 = .ok (.aload_n 0, 1) := by decide +kernel
theorem dX0_dropOldest_49 : decode cX0_dropOldest 49 = .ok (.getfield 18, 3) := by decide +kernel
theorem dX0_dropOldest_52 : decode cX0_dropOldest 52 = .ok (.ifCond .lt 25, 3) := by decide +kernel
theorem dX0_dropOldest_55 : decode cX0_dropOldest 55 = .ok (.aload_n 0, 1) := by decide +kernel
theorem dX0_dropOldest_56 : decode cX0_dropOldest 56 = .ok (.getfield 18, 3) := by decide +kernel
theorem dX0_dropOldest_59 : decode cX0_dropOldest 59 = .ok (.aload_n 0, 1) := by decide +kernel
theorem dX0_dropOldest_60 : decode cX0_dropOldest 60 = .ok (.getfield 11, 3) := by decide +kernel
theorem dX0_dropOldest_63 : decode cX0_dropOldest 63 = .ok (.arraylength, 1) := by decide +kernel
theorem dX0_dropOldest_64 : decode cX0_dropOldest 64 = .ok (.if_icmp .ge 13, 3) := by decide +kernel
theorem dX0_dropOldest_67 : decode cX0_dropOldest 67 = .ok (.aload_n 0, 1) := by decide +kernel
theorem dX0_dropOldest_68 : decode cX0_dropOldest 68 = .ok (.getfield 11, 3) := by decide +kernel
theorem dX0_dropOldest_71 : decode cX0_dropOldest 71 = .ok (.aload_n 0, 1) := by decide +kernel
theorem dX0_dropOldest_72 : decode cX0_dropOldest 72 = .ok (.getfield 18, 3) := by decide +kernel
theorem dX0_dropOldest_75 : decode cX0_dropOldest 75 = .ok (.aload_n 1, 1) := by decide +kernel
theorem dX0_dropOldest_76 : decode cX0_dropOldest 76 = .ok (.aastore, 1) := by decide +kernel
theorem dX0_dropOldest_77 : decode cX0_dropOldest 77 = .ok (.return_, 1) := by decide +kernel
theorem dX1_remainder_0 : decode cX1_remainder 0 = .ok (.iload_n 1, 1) := by decide +kernel
theorem dX1_remainder_1 : decode cX1_remainder 1 = .ok (.ifCond .le 9, 3) := by decide +kernel
theorem dX1_remainder_4 : decode cX1_remainder 4 = .ok (.iload_n 0, 1) := by decide +kernel
theorem dX1_remainder_5 : decode cX1_remainder 5 = .ok (.iload_n 1, 1) := by decide +kernel
theorem dX1_remainder_6 : decode cX1_remainder 6 = .ok (.irem, 1) := by decide +kernel
theorem dX1_remainder_7 : decode cX1_remainder 7 = .ok (.goto 4, 3) := by decide +kernel
theorem dX1_remainder_10 : decode cX1_remainder 10 = .ok (.iconst 0, 1) := by decide +kernel
theorem dX1_remainder_11 : decode cX1_remainder 11 = .ok (.ireturn, 1) := by decide +kernel
theorem dX1_greatestCommonDivisor_0 : decode cX1_greatestCommonDivisor 0 = .ok (.iload_n 0, 1) := by decide +kernel
theorem dX1_greatestCommonDivisor_1 : decode cX1_greatestCommonDivisor 1 = .ok (.istore_n 2, 1) := by decide +kernel
theorem dX1_greatestCommonDivisor_2 : decode cX1_greatestCommonDivisor 2 = .ok (.iload_n 1, 1) := by decide +kernel
theorem dX1_greatestCommonDivisor_3 : decode cX1_greatestCommonDivisor 3 = .ok (.istore_n 3, 1) := by decide +kernel
theorem dX1_greatestCommonDivisor_4 : decode cX1_greatestCommonDivisor 4 = .ok (.iconst 0, 1) := by decide +kernel
theorem dX1_greatestCommonDivisor_5 : decode cX1_greatestCommonDivisor 5 = .ok (.istore 4, 2) := by decide +kernel
theorem dX1_greatestCommonDivisor_7 : decode cX1_greatestCommonDivisor 7 = .ok (.iload 4, 2) := by decide +kernel
theorem dX1_greatestCommonDivisor_9 : decode cX1_greatestCommonDivisor 9 = .ok (.bipush 64, 2) := by decide +kernel
theorem dX1_greatestCommonDivisor_11 : decode cX1_greatestCommonDivisor 11 = .ok (.if_icmp .ge 23, 3) := by decide +kernel
theorem dX1_greatestCommonDivisor_14 : decode cX1_greatestCommonDivisor 14 = .ok (.iload_n 3, 1) := by decide +kernel
theorem dX1_greatestCommonDivisor_15 : decode cX1_greatestCommonDivisor 15 = .ok (.ifCond .le 19, 3) := by decide +kernel
theorem dX1_greatestCommonDivisor_18 : decode cX1_greatestCommonDivisor 18 = .ok (.iload_n 2, 1) := by decide +kernel
theorem dX1_greatestCommonDivisor_19 : decode cX1_greatestCommonDivisor 19 = .ok (.iload_n 3, 1) := by decide +kernel
theorem dX1_greatestCommonDivisor_20 : decode cX1_greatestCommonDivisor 20 = .ok (.irem, 1) := by decide +kernel
theorem dX1_greatestCommonDivisor_21 : decode cX1_greatestCommonDivisor 21 = .ok (.istore 5, 2) := by decide +kernel
theorem dX1_greatestCommonDivisor_23 : decode cX1_greatestCommonDivisor 23 = .ok (.iload_n 3, 1) := by decide +kernel
theorem dX1_greatestCommonDivisor_24 : decode cX1_greatestCommonDivisor 24 = .ok (.istore_n 2, 1) := by decide +kernel
theorem dX1_greatestCommonDivisor_25 : decode cX1_greatestCommonDivisor 25 = .ok (.iload 5, 2) := by decide +kernel
theorem dX1_greatestCommonDivisor_27 : decode cX1_greatestCommonDivisor 27 = .ok (.istore_n 3, 1) := by decide +kernel
theorem dX1_greatestCommonDivisor_28 : decode cX1_greatestCommonDivisor 28 = .ok (.iinc 4 1, 3) := by decide +kernel
theorem dX1_greatestCommonDivisor_31 : decode cX1_greatestCommonDivisor 31 = .ok (.goto (-24), 3) := by decide +kernel
theorem dX1_greatestCommonDivisor_34 : decode cX1_greatestCommonDivisor 34 = .ok (.iload_n 2, 1) := by decide +kernel
theorem dX1_greatestCommonDivisor_35 : decode cX1_greatestCommonDivisor 35 = .ok (.ireturn, 1) := by decide +kernel
theorem dX1_leastCommonMultiple_0 : decode cX1_leastCommonMultiple 0 = .ok (.iload_n 0, 1) := by decide +kernel
theorem dX1_leastCommonMultiple_1 : decode cX1_leastCommonMultiple 1 = .ok (.iload_n 1, 1) := by decide +kernel
theorem dX1_leastCommonMultiple_2 : decode cX1_leastCommonMultiple 2 = .ok (.invokestatic 11, 3) := by decide +kernel
theorem dX1_leastCommonMultiple_5 : decode cX1_leastCommonMultiple 5 = .ok (.istore_n 2, 1) := by decide +kernel
theorem dX1_leastCommonMultiple_6 : decode cX1_leastCommonMultiple 6 = .ok (.iload_n 2, 1) := by decide +kernel
theorem dX1_leastCommonMultiple_7 : decode cX1_leastCommonMultiple 7 = .ok (.ifCond .le 11, 3) := by decide +kernel
theorem dX1_leastCommonMultiple_10 : decode cX1_leastCommonMultiple 10 = .ok (.iload_n 0, 1) := by decide +kernel
theorem dX1_leastCommonMultiple_11 : decode cX1_leastCommonMultiple 11 = .ok (.iload_n 2, 1) := by decide +kernel
theorem dX1_leastCommonMultiple_12 : decode cX1_leastCommonMultiple 12 = .ok (.idiv, 1) := by decide +kernel
theorem dX1_leastCommonMultiple_13 : decode cX1_leastCommonMultiple 13 = .ok (.iload_n 1, 1) := by decide +kernel
theorem dX1_leastCommonMultiple_14 : decode cX1_leastCommonMultiple 14 = .ok (.imul, 1) := by decide +kernel
theorem dX1_leastCommonMultiple_15 : decode cX1_leastCommonMultiple 15 = .ok (.goto 4, 3) := by decide +kernel
theorem dX1_leastCommonMultiple_18 : decode cX1_leastCommonMultiple 18 = .ok (.iconst 0, 1) := by decide +kernel
theorem dX1_leastCommonMultiple_19 : decode cX1_leastCommonMultiple 19 = .ok (.ireturn, 1) := by decide +kernel
theorem dX1_meetByRemainders_0 : decode cX1_meetByRemainders 0 = .ok (.iload_n 0, 1) := by decide +kernel
theorem dX1_meetByRemainders_1 : decode cX1_meetByRemainders 1 = .ok (.iload_n 2, 1) := by decide +kernel
theorem dX1_meetByRemainders_2 : decode cX1_meetByRemainders 2 = .ok (.invokestatic 11, 3) := by decide +kernel
theorem dX1_meetByRemainders_5 : decode cX1_meetByRemainders 5 = .ok (.istore 4, 2) := by decide +kernel
theorem dX1_meetByRemainders_7 : decode cX1_meetByRemainders 7 = .ok (.iload_n 1, 1) := by decide +kernel
theorem dX1_meetByRemainders_8 : decode cX1_meetByRemainders 8 = .ok (.iload_n 3, 1) := by decide +kernel
theorem dX1_meetByRemainders_9 : decode cX1_meetByRemainders 9 = .ok (.isub, 1) := by decide +kernel
theorem dX1_meetByRemainders_10 : decode cX1_meetByRemainders 10 = .ok (.iload 4, 2) := by decide +kernel
theorem dX1_meetByRemainders_12 : decode cX1_meetByRemainders 12 = .ok (.invokestatic 15, 3) := by decide +kernel
theorem dX1_meetByRemainders_15 : decode cX1_meetByRemainders 15 = .ok (.ifCond .eq 5, 3) := by decide +kernel
theorem dX1_meetByRemainders_18 : decode cX1_meetByRemainders 18 = .ok (.iconst (-1), 1) := by decide +kernel
theorem dX1_meetByRemainders_19 : decode cX1_meetByRemainders 19 = .ok (.ireturn, 1) := by decide +kernel
theorem dX1_meetByRemainders_20 : decode cX1_meetByRemainders 20 = .ok (.iload_n 1, 1) := by decide +kernel
theorem dX1_meetByRemainders_21 : decode cX1_meetByRemainders 21 = .ok (.istore 5, 2) := by decide +kernel
theorem dX1_meetByRemainders_23 : decode cX1_meetByRemainders 23 = .ok (.iconst 0, 1) := by decide +kernel
theorem dX1_meetByRemainders_24 : decode cX1_meetByRemainders 24 = .ok (.istore 6, 2) := by decide +kernel
theorem dX1_meetByRemainders_26 : decode cX1_meetByRemainders 26 = .ok (.iload 6, 2) := by decide +kernel
theorem dX1_meetByRemainders_28 : decode cX1_meetByRemainders 28 = .ok (.iload_n 2, 1) := by decide +kernel
theorem dX1_meetByRemainders_29 : decode cX1_meetByRemainders 29 = .ok (.if_icmp .ge 34, 3) := by decide +kernel
theorem dX1_meetByRemainders_32 : decode cX1_meetByRemainders 32 = .ok (.iload 5, 2) := by decide +kernel
theorem dX1_meetByRemainders_34 : decode cX1_meetByRemainders 34 = .ok (.iload_n 3, 1) := by decide +kernel
theorem dX1_meetByRemainders_35 : decode cX1_meetByRemainders 35 = .ok (.if_icmp .lt 16, 3) := by decide +kernel
theorem dX1_meetByRemainders_38 : decode cX1_meetByRemainders 38 = .ok (.iload 5, 2) := by decide +kernel
theorem dX1_meetByRemainders_40 : decode cX1_meetByRemainders 40 = .ok (.iload_n 2, 1) := by decide +kernel
theorem dX1_meetByRemainders_41 : decode cX1_meetByRemainders 41 = .ok (.invokestatic 15, 3) := by decide +kernel
theorem dX1_meetByRemainders_44 : decode cX1_meetByRemainders 44 = .ok (.iload_n 3, 1) := by decide +kernel
theorem dX1_meetByRemainders_45 : decode cX1_meetByRemainders 45 = .ok (.if_icmp .ne 6, 3) := by decide +kernel
theorem dX1_meetByRemainders_48 : decode cX1_meetByRemainders 48 = .ok (.iload 5, 2) := by decide +kernel
theorem dX1_meetByRemainders_50 : decode cX1_meetByRemainders 50 = .ok (.ireturn, 1) := by decide +kernel
theorem dX1_meetByRemainders_51 : decode cX1_meetByRemainders 51 = .ok (.iload 5, 2) := by decide +kernel
theorem dX1_meetByRemainders_53 : decode cX1_meetByRemainders 53 = .ok (.iload_n 0, 1) := by decide +kernel
theorem dX1_meetByRemainders_54 : decode cX1_meetByRemainders 54 = .ok (.iadd, 1) := by decide +kernel
theorem dX1_meetByRemainders_55 : decode cX1_meetByRemainders 55 = .ok (.istore 5, 2) := by decide +kernel
theorem dX1_meetByRemainders_57 : decode cX1_meetByRemainders 57 = .ok (.iinc 6 1, 3) := by decide +kernel
theorem dX1_meetByRemainders_60 : decode cX1_meetByRemainders 60 = .ok (.goto (-34), 3) := by decide +kernel
theorem dX1_meetByRemainders_63 : decode cX1_meetByRemainders 63 = .ok (.iconst (-1), 1) := by decide +kernel
theorem dX1_meetByRemainders_64 : decode cX1_meetByRemainders 64 = .ok (.ireturn, 1) := by decide +kernel
theorem dX1_meetByWalking_0 : decode cX1_meetByWalking 0 = .ok (.iload_n 1, 1) := by decide +kernel
theorem dX1_meetByWalking_1 : decode cX1_meetByWalking 1 = .ok (.istore 4, 2) := by decide +kernel
theorem dX1_meetByWalking_3 : decode cX1_meetByWalking 3 = .ok (.iload_n 3, 1) := by decide +kernel
theorem dX1_meetByWalking_4 : decode cX1_meetByWalking 4 = .ok (.istore 5, 2) := by decide +kernel
theorem dX1_meetByWalking_6 : decode cX1_meetByWalking 6 = .ok (.iconst 0, 1) := by decide +kernel
theorem dX1_meetByWalking_7 : decode cX1_meetByWalking 7 = .ok (.istore 6, 2) := by decide +kernel
theorem dX1_meetByWalking_9 : decode cX1_meetByWalking 9 = .ok (.iload 6, 2) := by decide +kernel
theorem dX1_meetByWalking_11 : decode cX1_meetByWalking 11 = .ok (.sipush 800, 3) := by decide +kernel
theorem dX1_meetByWalking_14 : decode cX1_meetByWalking 14 = .ok (.if_icmp .ge 57, 3) := by decide +kernel
theorem dX1_meetByWalking_17 : decode cX1_meetByWalking 17 = .ok (.iload 4, 2) := by decide +kernel
theorem dX1_meetByWalking_19 : decode cX1_meetByWalking 19 = .ok (.sipush 800, 3) := by decide +kernel
theorem dX1_meetByWalking_22 : decode cX1_meetByWalking 22 = .ok (.if_icmp .ge 49, 3) := by decide +kernel
theorem dX1_meetByWalking_25 : decode cX1_meetByWalking 25 = .ok (.iload 5, 2) := by decide +kernel
theorem dX1_meetByWalking_27 : decode cX1_meetByWalking 27 = .ok (.sipush 800, 3) := by decide +kernel
theorem dX1_meetByWalking_30 : decode cX1_meetByWalking 30 = .ok (.if_icmp .ge 41, 3) := by decide +kernel
theorem dX1_meetByWalking_33 : decode cX1_meetByWalking 33 = .ok (.iload 4, 2) := by decide +kernel
theorem dX1_meetByWalking_35 : decode cX1_meetByWalking 35 = .ok (.iload 5, 2) := by decide +kernel
theorem dX1_meetByWalking_37 : decode cX1_meetByWalking 37 = .ok (.if_icmp .ne 6, 3) := by decide +kernel
theorem dX1_meetByWalking_40 : decode cX1_meetByWalking 40 = .ok (.iload 4, 2) := by decide +kernel
theorem dX1_meetByWalking_42 : decode cX1_meetByWalking 42 = .ok (.ireturn, 1) := by decide +kernel
theorem dX1_meetByWalking_43 : decode cX1_meetByWalking 43 = .ok (.iload 4, 2) := by decide +kernel
theorem dX1_meetByWalking_45 : decode cX1_meetByWalking 45 = .ok (.iload 5, 2) := by decide +kernel
theorem dX1_meetByWalking_47 : decode cX1_meetByWalking 47 = .ok (.if_icmp .ge 12, 3) := by decide +kernel
theorem dX1_meetByWalking_50 : decode cX1_meetByWalking 50 = .ok (.iload 4, 2) := by decide +kernel
theorem dX1_meetByWalking_52 : decode cX1_meetByWalking 52 = .ok (.iload_n 0, 1) := by decide +kernel
theorem dX1_meetByWalking_53 : decode cX1_meetByWalking 53 = .ok (.iadd, 1) := by decide +kernel
theorem dX1_meetByWalking_54 : decode cX1_meetByWalking 54 = .ok (.istore 4, 2) := by decide +kernel
theorem dX1_meetByWalking_56 : decode cX1_meetByWalking 56 = .ok (.goto 9, 3) := by decide +kernel
theorem dX1_meetByWalking_59 : decode cX1_meetByWalking 59 = .ok (.iload 5, 2) := by decide +kernel
theorem dX1_meetByWalking_61 : decode cX1_meetByWalking 61 = .ok (.iload_n 2, 1) := by decide +kernel
theorem dX1_meetByWalking_62 : decode cX1_meetByWalking 62 = .ok (.iadd, 1) := by decide +kernel
theorem dX1_meetByWalking_63 : decode cX1_meetByWalking 63 = .ok (.istore 5, 2) := by decide +kernel
theorem dX1_meetByWalking_65 : decode cX1_meetByWalking 65 = .ok (.iinc 6 1, 3) := by decide +kernel
theorem dX1_meetByWalking_68 : decode cX1_meetByWalking 68 = .ok (.goto (-59), 3) := by decide +kernel
theorem dX1_meetByWalking_71 : decode cX1_meetByWalking 71 = .ok (.iconst (-1), 1) := by decide +kernel
theorem dX1_meetByWalking_72 : decode cX1_meetByWalking 72 = .ok (.ireturn, 1) := by decide +kernel
theorem dX1_bitsOfShare_0 : decode cX1_bitsOfShare 0 = .ok (.dload_n 0, 1) := by decide +kernel
theorem dX1_bitsOfShare_1 : decode cX1_bitsOfShare 1 = .ok (.dstore_n 2, 1) := by decide +kernel
theorem dX1_bitsOfShare_2 : decode cX1_bitsOfShare 2 = .ok (.ldc2_w 18, 3) := by decide +kernel
theorem dX1_bitsOfShare_5 : decode cX1_bitsOfShare 5 = .ok (.lstore 4, 2) := by decide +kernel
theorem dX1_bitsOfShare_7 : decode cX1_bitsOfShare 7 = .ok (.iconst 0, 1) := by decide +kernel
theorem dX1_bitsOfShare_8 : decode cX1_bitsOfShare 8 = .ok (.istore 6, 2) := by decide +kernel
theorem dX1_bitsOfShare_10 : decode cX1_bitsOfShare 10 = .ok (.iload 6, 2) := by decide +kernel
theorem dX1_bitsOfShare_12 : decode cX1_bitsOfShare 12 = .ok (.bipush 64, 2) := by decide +kernel
theorem dX1_bitsOfShare_14 : decode cX1_bitsOfShare 14 = .ok (.if_icmp .ge 27, 3) := by decide +kernel
theorem dX1_bitsOfShare_17 : decode cX1_bitsOfShare 17 = .ok (.dload_n 2, 1) := by decide +kernel
theorem dX1_bitsOfShare_18 : decode cX1_bitsOfShare 18 = .ok (.dconst 1, 1) := by decide +kernel
theorem dX1_bitsOfShare_19 : decode cX1_bitsOfShare 19 = .ok (.dcmp .g, 1) := by decide +kernel
theorem dX1_bitsOfShare_20 : decode cX1_bitsOfShare 20 = .ok (.ifCond .ge 21, 3) := by decide +kernel
theorem dX1_bitsOfShare_23 : decode cX1_bitsOfShare 23 = .ok (.dload_n 2, 1) := by decide +kernel
theorem dX1_bitsOfShare_24 : decode cX1_bitsOfShare 24 = .ok (.ldc2_w 20, 3) := by decide +kernel
theorem dX1_bitsOfShare_27 : decode cX1_bitsOfShare 27 = .ok (.dmul, 1) := by decide +kernel
theorem dX1_bitsOfShare_28 : decode cX1_bitsOfShare 28 = .ok (.dstore_n 2, 1) := by decide +kernel
theorem dX1_bitsOfShare_29 : decode cX1_bitsOfShare 29 = .ok (.lload 4, 2) := by decide +kernel
theorem dX1_bitsOfShare_31 : decode cX1_bitsOfShare 31 = .ok (.lconst 1, 1) := by decide +kernel
theorem dX1_bitsOfShare_32 : decode cX1_bitsOfShare 32 = .ok (.lsub, 1) := by decide +kernel
theorem dX1_bitsOfShare_33 : decode cX1_bitsOfShare 33 = .ok (.lstore 4, 2) := by decide +kernel
theorem dX1_bitsOfShare_35 : decode cX1_bitsOfShare 35 = .ok (.iinc 6 1, 3) := by decide +kernel
theorem dX1_bitsOfShare_38 : decode cX1_bitsOfShare 38 = .ok (.goto (-28), 3) := by decide +kernel
theorem dX1_bitsOfShare_41 : decode cX1_bitsOfShare 41 = .ok (.dload_n 2, 1) := by decide +kernel
theorem dX1_bitsOfShare_42 : decode cX1_bitsOfShare 42 = .ok (.dconst 1, 1) := by decide +kernel
theorem dX1_bitsOfShare_43 : decode cX1_bitsOfShare 43 = .ok (.dcmp .g, 1) := by decide +kernel
theorem dX1_bitsOfShare_44 : decode cX1_bitsOfShare 44 = .ok (.ifCond .ge 5, 3) := by decide +kernel
theorem dX1_bitsOfShare_47 : decode cX1_bitsOfShare 47 = .ok (.lconst 0, 1) := by decide +kernel
theorem dX1_bitsOfShare_48 : decode cX1_bitsOfShare 48 = .ok (.lreturn, 1) := by decide +kernel
theorem dX1_bitsOfShare_49 : decode cX1_bitsOfShare 49 = .ok (.dload_n 2, 1) := by decide +kernel
theorem dX1_bitsOfShare_50 : decode cX1_bitsOfShare 50 = .ok (.dconst 1, 1) := by decide +kernel
theorem dX1_bitsOfShare_51 : decode cX1_bitsOfShare 51 = .ok (.dsub, 1) := by decide +kernel
theorem dX1_bitsOfShare_52 : decode cX1_bitsOfShare 52 = .ok (.ldc2_w 22, 3) := by decide +kernel
theorem dX1_bitsOfShare_55 : decode cX1_bitsOfShare 55 = .ok (.dmul, 1) := by decide +kernel
theorem dX1_bitsOfShare_56 : decode cX1_bitsOfShare 56 = .ok (.d2l, 1) := by decide +kernel
theorem dX1_bitsOfShare_57 : decode cX1_bitsOfShare 57 = .ok (.lstore 6, 2) := by decide +kernel
theorem dX1_bitsOfShare_59 : decode cX1_bitsOfShare 59 = .ok (.lload 4, 2) := by decide +kernel
theorem dX1_bitsOfShare_61 : decode cX1_bitsOfShare 61 = .ok (.bipush 52, 2) := by decide +kernel
theorem dX1_bitsOfShare_63 : decode cX1_bitsOfShare 63 = .ok (.lshl, 1) := by decide +kernel
theorem dX1_bitsOfShare_64 : decode cX1_bitsOfShare 64 = .ok (.lload 6, 2) := by decide +kernel
theorem dX1_bitsOfShare_66 : decode cX1_bitsOfShare 66 = .ok (.ladd, 1) := by decide +kernel
theorem dX1_bitsOfShare_67 : decode cX1_bitsOfShare 67 = .ok (.lreturn, 1) := by decide +kernel
theorem dX2_init_0 : decode cX2_init 0 = .ok (.aload_n 0, 1) := by decide +kernel
theorem dX2_init_1 : decode cX2_init 1 = .ok (.invokespecial 3, 3) := by decide +kernel
theorem dX2_init_4 : decode cX2_init 4 = .ok (.aload_n 0, 1) := by decide +kernel
theorem dX2_init_5 : decode cX2_init 5 = .ok (.bipush 60, 2) := by decide +kernel
theorem dX2_init_7 : decode cX2_init 7 = .ok (.newarray .int, 2) := by decide +kernel
theorem dX2_init_9 : decode cX2_init 9 = .ok (.putfield 9, 3) := by decide +kernel
theorem dX2_init_12 : decode cX2_init 12 = .ok (.aload_n 0, 1) := by decide +kernel
theorem dX2_init_13 : decode cX2_init 13 = .ok (.bipush 8, 2) := by decide +kernel
theorem dX2_init_15 : decode cX2_init 15 = .ok (.newarray .int, 2) := by decide +kernel
theorem dX2_init_17 : decode cX2_init 17 = .ok (.putfield 15, 3) := by decide +kernel
theorem dX2_init_20 : decode cX2_init 20 = .ok (.aload_n 0, 1) := by decide +kernel
theorem dX2_init_21 : decode cX2_init 21 = .ok (.iconst 0, 1) := by decide +kernel
theorem dX2_init_22 : decode cX2_init 22 = .ok (.putfield 18, 3) := by decide +kernel
theorem dX2_init_25 : decode cX2_init 25 = .ok (.aload_n 0, 1) := by decide +kernel
theorem dX2_init_26 : decode cX2_init 26 = .ok (.iconst 0, 1) := by decide +kernel
theorem dX2_init_27 : decode cX2_init 27 = .ok (.putfield 22, 3) := by decide +kernel
theorem dX2_init_30 : decode cX2_init 30 = .ok (.return_, 1) := by decide +kernel
theorem dX2_length_0 : decode cX2_length 0 = .ok (.aload_n 0, 1) := by decide +kernel
theorem dX2_length_1 : decode cX2_length 1 = .ok (.getfield 18, 3) := by decide +kernel
theorem dX2_length_4 : decode cX2_length 4 = .ok (.ireturn, 1) := by decide +kernel
theorem dX2_hueCount_0 : decode cX2_hueCount 0 = .ok (.aload_n 0, 1) := by decide +kernel
theorem dX2_hueCount_1 : decode cX2_hueCount 1 = .ok (.getfield 22, 3) := by decide +kernel
theorem dX2_hueCount_4 : decode cX2_hueCount 4 = .ok (.ireturn, 1) := by decide +kernel
theorem dX2_begin_0 : decode cX2_begin 0 = .ok (.aload_n 0, 1) := by decide +kernel
theorem dX2_begin_1 : decode cX2_begin 1 = .ok (.iconst 0, 1) := by decide +kernel
theorem dX2_begin_2 : decode cX2_begin 2 = .ok (.iload_n 1, 1) := by decide +kernel
theorem dX2_begin_3 : decode cX2_begin 3 = .ok (.aload_n 0, 1) := by decide +kernel
theorem dX2_begin_4 : decode cX2_begin 4 = .ok (.getfield 9, 3) := by decide +kernel
theorem dX2_begin_7 : decode cX2_begin 7 = .ok (.arraylength, 1) := by decide +kernel
theorem dX2_begin_8 : decode cX2_begin 8 = .ok (.invokestatic 25, 3) := by decide +kernel
theorem dX2_begin_11 : decode cX2_begin 11 = .ok (.invokestatic 31, 3) := by decide +kernel
theorem dX2_begin_14 : decode cX2_begin 14 = .ok (.putfield 18, 3) := by decide +kernel
theorem dX2_begin_17 : decode cX2_begin 17 = .ok (.aload_n 0, 1) := by decide +kernel
theorem dX2_begin_18 : decode cX2_begin 18 = .ok (.iconst 0, 1) := by decide +kernel
theorem dX2_begin_19 : decode cX2_begin 19 = .ok (.putfield 22, 3) := by decide +kernel
theorem dX2_begin_22 : decode cX2_begin 22 = .ok (.iconst 0, 1) := by decide +kernel
theorem dX2_begin_23 : decode cX2_begin 23 = .ok (.istore_n 2, 1) := by decide +kernel
theorem dX2_begin_24 : decode cX2_begin 24 = .ok (.iload_n 2, 1) := by decide +kernel
theorem dX2_begin_25 : decode cX2_begin 25 = .ok (.aload_n 0, 1) := by decide +kernel
theorem dX2_begin_26 : decode cX2_begin 26 = .ok (.getfield 9, 3) := by decide +kernel
theorem dX2_begin_29 : decode cX2_begin 29 = .ok (.arraylength, 1) := by decide +kernel
theorem dX2_begin_30 : decode cX2_begin 30 = .ok (.if_icmp .ge 16, 3) := by decide +kernel
theorem dX2_begin_33 : decode cX2_begin 33 = .ok (.aload_n 0, 1) := by decide +kernel
theorem dX2_begin_34 : decode cX2_begin 34 = .ok (.getfield 9, 3) := by decide +kernel
theorem dX2_begin_37 : decode cX2_begin 37 = .ok (.iload_n 2, 1) := by decide +kernel
theorem dX2_begin_38 : decode cX2_begin 38 = .ok (.iconst (-1), 1) := by decide +kernel
theorem dX2_begin_39 : decode cX2_begin 39 = .ok (.iastore, 1) := by decide +kernel
theorem dX2_begin_40 : decode cX2_begin 40 = .ok (.iinc 2 1, 3) := by decide +kernel
theorem dX2_begin_43 : decode cX2_begin 43 = .ok (.goto (-19), 3) := by decide +kernel
theorem dX2_begin_46 : decode cX2_begin 46 = .ok (.return_, 1) := by decide +kernel
theorem dX2_copyFrom_0 : decode cX2_copyFrom 0 = .ok (.aload_n 0, 1) := by decide +kernel
theorem dX2_copyFrom_1 : decode cX2_copyFrom 1 = .ok (.aload_n 1, 1) := by decide +kernel
theorem dX2_copyFrom_2 : decode cX2_copyFrom 2 = .ok (.getfield 18, 3) := by decide +kernel
theorem dX2_copyFrom_5 : decode cX2_copyFrom 5 = .ok (.putfield 18, 3) := by decide +kernel
theorem dX2_copyFrom_8 : decode cX2_copyFrom 8 = .ok (.aload_n 0, 1) := by decide +kernel
theorem dX2_copyFrom_9 : decode cX2_copyFrom 9 = .ok (.aload_n 1, 1) := by decide +kernel
theorem dX2_copyFrom_10 : decode cX2_copyFrom 10 = .ok (.getfield 22, 3) := by decide +kernel
theorem dX2_copyFrom_13 : decode cX2_copyFrom 13 = .ok (.putfield 22, 3) := by decide +kernel
theorem dX2_copyFrom_16 : decode cX2_copyFrom 16 = .ok (.iconst 0, 1) := by decide +kernel
theorem dX2_copyFrom_17 : decode cX2_copyFrom 17 = .ok (.istore_n 2, 1) := by decide +kernel
theorem dX2_copyFrom_18 : decode cX2_copyFrom 18 = .ok (.iload_n 2, 1) := by decide +kernel
theorem dX2_copyFrom_19 : decode cX2_copyFrom 19 = .ok (.aload_n 0, 1) := by decide +kernel
theorem dX2_copyFrom_20 : decode cX2_copyFrom 20 = .ok (.getfield 9, 3) := by decide +kernel
theorem dX2_copyFrom_23 : decode cX2_copyFrom 23 = .ok (.arraylength, 1) := by decide +kernel
theorem dX2_copyFrom_24 : decode cX2_copyFrom 24 = .ok (.if_icmp .ge 30, 3) := by decide +kernel
theorem dX2_copyFrom_27 : decode cX2_copyFrom 27 = .ok (.iload_n 2, 1) := by decide +kernel
theorem dX2_copyFrom_28 : decode cX2_copyFrom 28 = .ok (.aload_n 1, 1) := by decide +kernel
theorem dX2_copyFrom_29 : decode cX2_copyFrom 29 = .ok (.getfield 9, 3) := by decide +kernel
theorem dX2_copyFrom_32 : decode cX2_copyFrom 32 = .ok (.arraylength, 1) := by decide +kernel
theorem dX2_copyFrom_33 : decode cX2_copyFrom 33 = .ok (.if_icmp .ge 21, 3) := by decide +kernel
theorem dX2_copyFrom_36 : decode cX2_copyFrom 36 = .ok (.aload_n 0, 1) := by decide +kernel
theorem dX2_copyFrom_37 : decode cX2_copyFrom 37 = .ok (.getfield 9, 3) := by decide +kernel
theorem dX2_copyFrom_40 : decode cX2_copyFrom 40 = .ok (.iload_n 2, 1) := by decide +kernel
theorem dX2_copyFrom_41 : decode cX2_copyFrom 41 = .ok (.aload_n 1, 1) := by decide +kernel
theorem dX2_copyFrom_42 : decode cX2_copyFrom 42 = .ok (.getfield 9, 3) := by decide +kernel
theorem dX2_copyFrom_45 : decode cX2_copyFrom 45 = .ok (.iload_n 2, 1) := by decide +kernel
theorem dX2_copyFrom_46 : decode cX2_copyFrom 46 = .ok (.iaload, 1) := by decide +kernel
theorem dX2_copyFrom_47 : decode cX2_copyFrom 47 = .ok (.iastore, 1) := by decide +kernel
theorem dX2_copyFrom_48 : decode cX2_copyFrom 48 = .ok (.iinc 2 1, 3) := by decide +kernel
theorem dX2_copyFrom_51 : decode cX2_copyFrom 51 = .ok (.goto (-33), 3) := by decide +kernel
theorem dX2_copyFrom_54 : decode cX2_copyFrom 54 = .ok (.iconst 0, 1) := by decide +kernel
theorem dX2_copyFrom_55 : decode cX2_copyFrom 55 = .ok (.istore_n 2, 1) := by decide +kernel
theorem dX2_copyFrom_56 : decode cX2_copyFrom 56 = .ok (.iload_n 2, 1) := by decide +kernel
theorem dX2_copyFrom_57 : decode cX2_copyFrom 57 = .ok (.aload_n 0, 1) := by decide +kernel
theorem dX2_copyFrom_58 : decode cX2_copyFrom 58 = .ok (.getfield 15, 3) := by decide +kernel
theorem dX2_copyFrom_61 : decode cX2_copyFrom 61 = .ok (.arraylength, 1) := by decide +kernel
theorem dX2_copyFrom_62 : decode cX2_copyFrom 62 = .ok (.if_icmp .ge 30, 3) := by decide +kernel
theorem dX2_copyFrom_65 : decode cX2_copyFrom 65 = .ok (.iload_n 2, 1) := by decide +kernel
theorem dX2_copyFrom_66 : decode cX2_copyFrom 66 = .ok (.aload_n 1, 1) := by decide +kernel
theorem dX2_copyFrom_67 : decode cX2_copyFrom 67 = .ok (.getfield 15, 3) := by decide +kernel
theorem dX2_copyFrom_70 : decode cX2_copyFrom 70 = .ok (.arraylength, 1) := by decide +kernel
theorem dX2_copyFrom_71 : decode cX2_copyFrom 71 = .ok (.if_icmp .ge 21, 3) := by decide +kernel
theorem dX2_copyFrom_74 : decode cX2_copyFrom 74 = .ok (.aload_n 0, 1) := by decide +kernel
theorem dX2_copyFrom_75 : decode cX2_copyFrom 75 = .ok (.getfield 15, 3) := by decide +kernel
theorem dX2_copyFrom_78 : decode cX2_copyFrom 78 = .ok (.iload_n 2, 1) := by decide +kernel
theorem dX2_copyFrom_79 : decode cX2_copyFrom 79 = .ok (.aload_n 1, 1) := by decide +kernel
theorem dX2_copyFrom_80 : decode cX2_copyFrom 80 = .ok (.getfield 15, 3) := by decide +kernel
theorem dX2_copyFrom_83 : decode cX2_copyFrom 83 = .ok (.iload_n 2, 1) := by decide +kernel
theorem dX2_copyFrom_84 : decode cX2_copyFrom 84 = .ok (.iaload, 1) := by decide +kernel
theorem dX2_copyFrom_85 : decode cX2_copyFrom 85 = .ok (.iastore, 1) := by decide +kernel
theorem dX2_copyFrom_86 : decode cX2_copyFrom 86 = .ok (.iinc 2 1, 3) := by decide +kernel
theorem dX2_copyFrom_89 : decode cX2_copyFrom 89 = .ok (.goto (-33), 3) := by decide +kernel
theorem dX2_copyFrom_92 : decode cX2_copyFrom 92 = .ok (.return_, 1) := by decide +kernel
theorem dX2_colourAt_0 : decode cX2_colourAt 0 = .ok (.iload_n 1, 1) := by decide +kernel
theorem dX2_colourAt_1 : decode cX2_colourAt 1 = .ok (.ifCond .lt 29, 3) := by decide +kernel
theorem dX2_colourAt_4 : decode cX2_colourAt 4 = .ok (.iload_n 1, 1) := by decide +kernel
theorem dX2_colourAt_5 : decode cX2_colourAt 5 = .ok (.aload_n 0, 1) := by decide +kernel
theorem dX2_colourAt_6 : decode cX2_colourAt 6 = .ok (.getfield 18, 3) := by decide +kernel
theorem dX2_colourAt_9 : decode cX2_colourAt 9 = .ok (.if_icmp .ge 21, 3) := by decide +kernel
theorem dX2_colourAt_12 : decode cX2_colourAt 12 = .ok (.iload_n 1, 1) := by decide +kernel
theorem dX2_colourAt_13 : decode cX2_colourAt 13 = .ok (.aload_n 0, 1) := by decide +kernel
theorem dX2_colourAt_14 : decode cX2_colourAt 14 = .ok (.getfield 9, 3) := by decide +kernel
theorem dX2_colourAt_17 : decode cX2_colourAt 17 = .ok (.arraylength, 1) := by decide +kernel
theorem dX2_colourAt_18 : decode cX2_colourAt 18 = .ok (.if_icmp .ge 12, 3) := by decide +kernel
theorem dX2_colourAt_21 : decode cX2_colourAt 21 = .ok (.aload_n 0, 1) := by decide +kernel
theorem dX2_colourAt_22 : decode cX2_colourAt 22 = .ok (.getfield 9, 3) := by decide +kernel
theorem dX2_colourAt_25 : decode cX2_colourAt 25 = .ok (.iload_n 1, 1) := by decide +kernel
theorem dX2_colourAt_26 : decode cX2_colourAt 26 = .ok (.iaload, 1) := by decide +kernel
theorem dX2_colourAt_27 : decode cX2_colourAt 27 = .ok (.goto 4, 3) := by decide +kernel
theorem dX2_colourAt_30 : decode cX2_colourAt 30 = .ok (.iconst (-1), 1) := by decide +kernel
theorem dX2_colourAt_31 : decode cX2_colourAt 31 = .ok (.ireturn, 1) := by decide +kernel
theorem dX2_setColour_0 : decode cX2_setColour 0 = .ok (.iload_n 1, 1) := by decide +kernel
theorem dX2_setColour_1 : decode cX2_setColour 1 = .ok (.ifCond .lt 19, 3) := by decide +kernel
theorem dX2_setColour_4 : decode cX2_setColour 4 = .ok (.iload_n 1, 1) := by decide +kernel
theorem dX2_setColour_5 : decode cX2_setColour 5 = .ok (.aload_n 0, 1) := by decide +kernel
theorem dX2_setColour_6 : decode cX2_setColour 6 = .ok (.getfield 9, 3) := by decide +kernel
theorem dX2_setColour_9 : decode cX2_setColour 9 = .ok (.arraylength, 1) := by decide +kernel
theorem dX2_setColour_10 : decode cX2_setColour 10 = .ok (.if_icmp .ge 10, 3) := by decide +kernel
theorem dX2_setColour_13 : decode cX2_setColour 13 = .ok (.aload_n 0, 1) := by decide +kernel
theorem dX2_setColour_14 : decode cX2_setColour 14 = .ok (.getfield 9, 3) := by decide +kernel
theorem dX2_setColour_17 : decode cX2_setColour 17 = .ok (.iload_n 1, 1) := by decide +kernel
theorem dX2_setColour_18 : decode cX2_setColour 18 = .ok (.iload_n 2, 1) := by decide +kernel
theorem dX2_setColour_19 : decode cX2_setColour 19 = .ok (.iastore, 1) := by decide +kernel
theorem dX2_setColour_20 : decode cX2_setColour 20 = .ok (.return_, 1) := by decide +kernel
theorem dX2_hueAt_0 : decode cX2_hueAt 0 = .ok (.iload_n 1, 1) := by decide +kernel
theorem dX2_hueAt_1 : decode cX2_hueAt 1 = .ok (.ifCond .lt 29, 3) := by decide +kernel
theorem dX2_hueAt_4 : decode cX2_hueAt 4 = .ok (.iload_n 1, 1) := by decide +kernel
theorem dX2_hueAt_5 : decode cX2_hueAt 5 = .ok (.aload_n 0, 1) := by decide +kernel
theorem dX2_hueAt_6 : decode cX2_hueAt 6 = .ok (.getfield 22, 3) := by decide +kernel
theorem dX2_hueAt_9 : decode cX2_hueAt 9 = .ok (.if_icmp .ge 21, 3) := by decide +kernel
theorem dX2_hueAt_12 : decode cX2_hueAt 12 = .ok (.iload_n 1, 1) := by decide +kernel
theorem dX2_hueAt_13 : decode cX2_hueAt 13 = .ok (.aload_n 0, 1) := by decide +kernel
theorem dX2_hueAt_14 : decode cX2_hueAt 14 = .ok (.getfield 15, 3) := by decide +kernel
theorem dX2_hueAt_17 : decode cX2_hueAt 17 = .ok (.arraylength, 1) := by decide +kernel
theorem dX2_hueAt_18 : decode cX2_hueAt 18 = .ok (.if_icmp .ge 12, 3) := by decide +kernel
theorem dX2_hueAt_21 : decode cX2_hueAt 21 = .ok (.aload_n 0, 1) := by decide +kernel
theorem dX2_hueAt_22 : decode cX2_hueAt 22 = .ok (.getfield 15, 3) := by decide +kernel
theorem dX2_hueAt_25 : decode cX2_hueAt 25 = .ok (.iload_n 1, 1) := by decide +kernel
theorem dX2_hueAt_26 : decode cX2_hueAt 26 = .ok (.iaload, 1) := by decide +kernel
theorem dX2_hueAt_27 : decode cX2_hueAt 27 = .ok (.goto 4, 3) := by decide +kernel
theorem dX2_hueAt_30 : decode cX2_hueAt 30 = .ok (.iconst (-1), 1) := by decide +kernel
theorem dX2_hueAt_31 : decode cX2_hueAt 31 = .ok (.ireturn, 1) := by decide +kernel
theorem dX2_orderOf_0 : decode cX2_orderOf 0 = .ok (.iconst 0, 1) := by decide +kernel
theorem dX2_orderOf_1 : decode cX2_orderOf 1 = .ok (.istore_n 2, 1) := by decide +kernel
theorem dX2_orderOf_2 : decode cX2_orderOf 2 = .ok (.iload_n 2, 1) := by decide +kernel
theorem dX2_orderOf_3 : decode cX2_orderOf 3 = .ok (.aload_n 0, 1) := by decide +kernel
theorem dX2_orderOf_4 : decode cX2_orderOf 4 = .ok (.getfield 22, 3) := by decide +kernel
theorem dX2_orderOf_7 : decode cX2_orderOf 7 = .ok (.if_icmp .ge 30, 3) := by decide +kernel
theorem dX2_orderOf_10 : decode cX2_orderOf 10 = .ok (.iload_n 2, 1) := by decide +kernel
theorem dX2_orderOf_11 : decode cX2_orderOf 11 = .ok (.aload_n 0, 1) := by decide +kernel
theorem dX2_orderOf_12 : decode cX2_orderOf 12 = .ok (.getfield 15, 3) := by decide +kernel
theorem dX2_orderOf_15 : decode cX2_orderOf 15 = .ok (.arraylength, 1) := by decide +kernel
theorem dX2_orderOf_16 : decode cX2_orderOf 16 = .ok (.if_icmp .ge 21, 3) := by decide +kernel
theorem dX2_orderOf_19 : decode cX2_orderOf 19 = .ok (.aload_n 0, 1) := by decide +kernel
theorem dX2_orderOf_20 : decode cX2_orderOf 20 = .ok (.getfield 15, 3) := by decide +kernel
theorem dX2_orderOf_23 : decode cX2_orderOf 23 = .ok (.iload_n 2, 1) := by decide +kernel
theorem dX2_orderOf_24 : decode cX2_orderOf 24 = .ok (.iaload, 1) := by decide +kernel
theorem dX2_orderOf_25 : decode cX2_orderOf 25 = .ok (.iload_n 1, 1) := by decide +kernel
theorem dX2_orderOf_26 : decode cX2_orderOf 26 = .ok (.if_icmp .ne 5, 3) := by decide +kernel
theorem dX2_orderOf_29 : decode cX2_orderOf 29 = .ok (.iload_n 2, 1) := by decide +kernel
theorem dX2_orderOf_30 : decode cX2_orderOf 30 = .ok (.ireturn, 1) := by decide +kernel
theorem dX2_orderOf_31 : decode cX2_orderOf 31 = .ok (.iinc 2 1, 3) := by decide +kernel
theorem dX2_orderOf_34 : decode cX2_orderOf 34 = .ok (.goto (-32), 3) := by decide +kernel
theorem dX2_orderOf_37 : decode cX2_orderOf 37 = .ok (.iconst (-1), 1) := by decide +kernel
theorem dX2_orderOf_38 : decode cX2_orderOf 38 = .ok (.ireturn, 1) := by decide +kernel
theorem dX2_firstFrom_0 : decode cX2_firstFrom 0 = .ok (.iload_n 2, 1) := by decide +kernel
theorem dX2_firstFrom_1 : decode cX2_firstFrom 1 = .ok (.istore_n 3, 1) := by decide +kernel
theorem dX2_firstFrom_2 : decode cX2_firstFrom 2 = .ok (.iload_n 3, 1) := by decide +kernel
theorem dX2_firstFrom_3 : decode cX2_firstFrom 3 = .ok (.aload_n 0, 1) := by decide +kernel
theorem dX2_firstFrom_4 : decode cX2_firstFrom 4 = .ok (.getfield 18, 3) := by decide +kernel
theorem dX2_firstFrom_7 : decode cX2_firstFrom 7 = .ok (.if_icmp .ge 20, 3) := by decide +kernel
theorem dX2_firstFrom_10 : decode cX2_firstFrom 10 = .ok (.aload_n 0, 1) := by decide +kernel
theorem dX2_firstFrom_11 : decode cX2_firstFrom 11 = .ok (.iload_n 3, 1) := by decide +kernel
theorem dX2_firstFrom_12 : decode cX2_firstFrom 12 = .ok (.invokevirtual 34, 3) := by decide +kernel
theorem dX2_firstFrom_15 : decode cX2_firstFrom 15 = .ok (.iload_n 1, 1) := by decide +kernel
theorem dX2_firstFrom_16 : decode cX2_firstFrom 16 = .ok (.if_icmp .ne 5, 3) := by decide +kernel
theorem dX2_firstFrom_19 : decode cX2_firstFrom 19 = .ok (.iload_n 3, 1) := by decide +kernel
theorem dX2_firstFrom_20 : decode cX2_firstFrom 20 = .ok (.ireturn, 1) := by decide +kernel
theorem dX2_firstFrom_21 : decode cX2_firstFrom 21 = .ok (.iinc 3 1, 3) := by decide +kernel
theorem dX2_firstFrom_24 : decode cX2_firstFrom 24 = .ok (.goto (-22), 3) := by decide +kernel
theorem dX2_firstFrom_27 : decode cX2_firstFrom 27 = .ok (.iconst (-1), 1) := by decide +kernel
theorem dX2_firstFrom_28 : decode cX2_firstFrom 28 = .ok (.ireturn, 1) := by decide +kernel
theorem dX2_lastOf_0 : decode cX2_lastOf 0 = .ok (.aload_n 0, 1) := by decide +kernel
theorem dX2_lastOf_1 : decode cX2_lastOf 1 = .ok (.getfield 18, 3) := by decide +kernel
theorem dX2_lastOf_4 : decode cX2_lastOf 4 = .ok (.iconst 1, 1) := by decide +kernel
theorem dX2_lastOf_5 : decode cX2_lastOf 5 = .ok (.isub, 1) := by decide +kernel
theorem dX2_lastOf_6 : decode cX2_lastOf 6 = .ok (.istore_n 2, 1) := by decide +kernel
theorem dX2_lastOf_7 : decode cX2_lastOf 7 = .ok (.iload_n 2, 1) := by decide +kernel
theorem dX2_lastOf_8 : decode cX2_lastOf 8 = .ok (.ifCond .lt 20, 3) := by decide +kernel
theorem dX2_lastOf_11 : decode cX2_lastOf 11 = .ok (.aload_n 0, 1) := by decide +kernel
theorem dX2_lastOf_12 : decode cX2_lastOf 12 = .ok (.iload_n 2, 1) := by decide +kernel
theorem dX2_lastOf_13 : decode cX2_lastOf 13 = .ok (.invokevirtual 34, 3) := by decide +kernel
theorem dX2_lastOf_16 : decode cX2_lastOf 16 = .ok (.iload_n 1, 1) := by decide +kernel
theorem dX2_lastOf_17 : decode cX2_lastOf 17 = .ok (.if_icmp .ne 5, 3) := by decide +kernel
theorem dX2_lastOf_20 : decode cX2_lastOf 20 = .ok (.iload_n 2, 1) := by decide +kernel
theorem dX2_lastOf_21 : decode cX2_lastOf 21 = .ok (.ireturn, 1) := by decide +kernel
theorem dX2_lastOf_22 : decode cX2_lastOf 22 = .ok (.iinc 2 (-1), 3) := by decide +kernel
theorem dX2_lastOf_25 : decode cX2_lastOf 25 = .ok (.goto (-18), 3) := by decide +kernel
theorem dX2_lastOf_28 : decode cX2_lastOf 28 = .ok (.iconst (-1), 1) := by decide +kernel
theorem dX2_lastOf_29 : decode cX2_lastOf 29 = .ok (.ireturn, 1) := by decide +kernel
theorem dX2_placesOf_0 : decode cX2_placesOf 0 = .ok (.iconst 0, 1) := by decide +kernel
theorem dX2_placesOf_1 : decode cX2_placesOf 1 = .ok (.istore_n 2, 1) := by decide +kernel
theorem dX2_placesOf_2 : decode cX2_placesOf 2 = .ok (.iconst 0, 1) := by decide +kernel
theorem dX2_placesOf_3 : decode cX2_placesOf 3 = .ok (.istore_n 3, 1) := by decide +kernel
theorem dX2_placesOf_4 : decode cX2_placesOf 4 = .ok (.iload_n 3, 1) := by decide +kernel
theorem dX2_placesOf_5 : decode cX2_placesOf 5 = .ok (.aload_n 0, 1) := by decide +kernel
theorem dX2_placesOf_6 : decode cX2_placesOf 6 = .ok (.getfield 18, 3) := by decide +kernel
theorem dX2_placesOf_9 : decode cX2_placesOf 9 = .ok (.if_icmp .ge 21, 3) := by decide +kernel
theorem dX2_placesOf_12 : decode cX2_placesOf 12 = .ok (.aload_n 0, 1) := by decide +kernel
theorem dX2_placesOf_13 : decode cX2_placesOf 13 = .ok (.iload_n 3, 1) := by decide +kernel
theorem dX2_placesOf_14 : decode cX2_placesOf 14 = .ok (.invokevirtual 34, 3) := by decide +kernel
theorem dX2_placesOf_17 : decode cX2_placesOf 17 = .ok (.iload_n 1, 1) := by decide +kernel
theorem dX2_placesOf_18 : decode cX2_placesOf 18 = .ok (.if_icmp .ne 6, 3) := by decide +kernel
theorem dX2_placesOf_21 : decode cX2_placesOf 21 = .ok (.iinc 2 1, 3) := by decide +kernel
theorem dX2_placesOf_24 : decode cX2_placesOf 24 = .ok (.iinc 3 1, 3) := by decide +kernel
theorem dX2_placesOf_27 : decode cX2_placesOf 27 = .ok (.goto (-23), 3) := by decide +kernel
theorem dX2_placesOf_30 : decode cX2_placesOf 30 = .ok (.iload_n 2, 1) := by decide +kernel
theorem dX2_placesOf_31 : decode cX2_placesOf 31 = .ok (.ireturn, 1) := by decide +kernel
theorem dX2_placesFrom_0 : decode cX2_placesFrom 0 = .ok (.iconst 0, 1) := by decide +kernel
theorem dX2_placesFrom_1 : decode cX2_placesFrom 1 = .ok (.istore_n 3, 1) := by decide +kernel
theorem dX2_placesFrom_2 : decode cX2_placesFrom 2 = .ok (.iconst 1, 1) := by decide +kernel
theorem dX2_placesFrom_3 : decode cX2_placesFrom 3 = .ok (.iload_n 2, 1) := by decide +kernel
theorem dX2_placesFrom_4 : decode cX2_placesFrom 4 = .ok (.invokestatic 31, 3) := by decide +kernel
theorem dX2_placesFrom_7 : decode cX2_placesFrom 7 = .ok (.istore 4, 2) := by decide +kernel
theorem dX2_placesFrom_9 : decode cX2_placesFrom 9 = .ok (.iload_n 1, 1) := by decide +kernel
theorem dX2_placesFrom_10 : decode cX2_placesFrom 10 = .ok (.istore 5, 2) := by decide +kernel
theorem dX2_placesFrom_12 : decode cX2_placesFrom 12 = .ok (.iload 5, 2) := by decide +kernel
theorem dX2_placesFrom_14 : decode cX2_placesFrom 14 = .ok (.aload_n 0, 1) := by decide +kernel
theorem dX2_placesFrom_15 : decode cX2_placesFrom 15 = .ok (.getfield 18, 3) := by decide +kernel
theorem dX2_placesFrom_18 : decode cX2_placesFrom 18 = .ok (.if_icmp .ge 16, 3) := by decide +kernel
theorem dX2_placesFrom_21 : decode cX2_placesFrom 21 = .ok (.iinc 3 1, 3) := by decide +kernel
theorem dX2_placesFrom_24 : decode cX2_placesFrom 24 = .ok (.iload 5, 2) := by decide +kernel
theorem dX2_placesFrom_26 : decode cX2_placesFrom 26 = .ok (.iload 4, 2) := by decide +kernel
theorem dX2_placesFrom_28 : decode cX2_placesFrom 28 = .ok (.iadd, 1) := by decide +kernel
theorem dX2_placesFrom_29 : decode cX2_placesFrom 29 = .ok (.istore 5, 2) := by decide +kernel
theorem dX2_placesFrom_31 : decode cX2_placesFrom 31 = .ok (.goto (-19), 3) := by decide +kernel
theorem dX2_placesFrom_34 : decode cX2_placesFrom 34 = .ok (.iload_n 3, 1) := by decide +kernel
theorem dX2_placesFrom_35 : decode cX2_placesFrom 35 = .ok (.ireturn, 1) := by decide +kernel
theorem dX2_reasonAgainst_0 : decode cX2_reasonAgainst 0 = .ok (.aload_n 0, 1) := by decide +kernel
theorem dX2_reasonAgainst_1 : decode cX2_reasonAgainst 1 = .ok (.iload_n 1, 1) := by decide +kernel
theorem dX2_reasonAgainst_2 : decode cX2_reasonAgainst 2 = .ok (.invokevirtual 38, 3) := by decide +kernel
theorem dX2_reasonAgainst_5 : decode cX2_reasonAgainst 5 = .ok (.iconst (-1), 1) := by decide +kernel
theorem dX2_reasonAgainst_6 : decode cX2_reasonAgainst 6 = .ok (.if_icmp .eq 5, 3) := by decide +kernel
theorem dX2_reasonAgainst_9 : decode cX2_reasonAgainst 9 = .ok (.iconst 1, 1) := by decide +kernel
theorem dX2_reasonAgainst_10 : decode cX2_reasonAgainst 10 = .ok (.ireturn, 1) := by decide +kernel
theorem dX2_reasonAgainst_11 : decode cX2_reasonAgainst 11 = .ok (.iload_n 2, 1) := by decide +kernel
theorem dX2_reasonAgainst_12 : decode cX2_reasonAgainst 12 = .ok (.aload_n 0, 1) := by decide +kernel
theorem dX2_reasonAgainst_13 : decode cX2_reasonAgainst 13 = .ok (.getfield 18, 3) := by decide +kernel
theorem dX2_reasonAgainst_16 : decode cX2_reasonAgainst 16 = .ok (.if_icmp .lt 5, 3) := by decide +kernel
theorem dX2_reasonAgainst_19 : decode cX2_reasonAgainst 19 = .ok (.iconst 2, 1) := by decide +kernel
theorem dX2_reasonAgainst_20 : decode cX2_reasonAgainst 20 = .ok (.ireturn, 1) := by decide +kernel
theorem dX2_reasonAgainst_21 : decode cX2_reasonAgainst 21 = .ok (.iconst 1, 1) := by decide +kernel
theorem dX2_reasonAgainst_22 : decode cX2_reasonAgainst 22 = .ok (.iload_n 3, 1) := by decide +kernel
theorem dX2_reasonAgainst_23 : decode cX2_reasonAgainst 23 = .ok (.invokestatic 31, 3) := by decide +kernel
theorem dX2_reasonAgainst_26 : decode cX2_reasonAgainst 26 = .ok (.istore 4, 2) := by decide +kernel
theorem dX2_reasonAgainst_28 : decode cX2_reasonAgainst 28 = .ok (.iload_n 2, 1) := by decide +kernel
theorem dX2_reasonAgainst_29 : decode cX2_reasonAgainst 29 = .ok (.istore 5, 2) := by decide +kernel
theorem dX2_reasonAgainst_31 : decode cX2_reasonAgainst 31 = .ok (.iload 5, 2) := by decide +kernel
theorem dX2_reasonAgainst_33 : decode cX2_reasonAgainst 33 = .ok (.aload_n 0, 1) := by decide +kernel
theorem dX2_reasonAgainst_34 : decode cX2_reasonAgainst 34 = .ok (.getfield 18, 3) := by decide +kernel
theorem dX2_reasonAgainst_37 : decode cX2_reasonAgainst 37 = .ok (.if_icmp .ge 25, 3) := by decide +kernel
theorem dX2_reasonAgainst_40 : decode cX2_reasonAgainst 40 = .ok (.aload_n 0, 1) := by decide +kernel
theorem dX2_reasonAgainst_41 : decode cX2_reasonAgainst 41 = .ok (.iload 5, 2) := by decide +kernel
theorem dX2_reasonAgainst_43 : decode cX2_reasonAgainst 43 = .ok (.invokevirtual 34, 3) := by decide +kernel
theorem dX2_reasonAgainst_46 : decode cX2_reasonAgainst 46 = .ok (.iconst (-1), 1) := by decide +kernel
theorem dX2_reasonAgainst_47 : decode cX2_reasonAgainst 47 = .ok (.if_icmp .eq 5, 3) := by decide +kernel
theorem dX2_reasonAgainst_50 : decode cX2_reasonAgainst 50 = .ok (.iconst 3, 1) := by decide +kernel
theorem dX2_reasonAgainst_51 : decode cX2_reasonAgainst 51 = .ok (.ireturn, 1) := by decide +kernel
theorem dX2_reasonAgainst_52 : decode cX2_reasonAgainst 52 = .ok (.iload 5, 2) := by decide +kernel
theorem dX2_reasonAgainst_54 : decode cX2_reasonAgainst 54 = .ok (.iload 4, 2) := by decide +kernel
theorem dX2_reasonAgainst_56 : decode cX2_reasonAgainst 56 = .ok (.iadd, 1) := by decide +kernel
theorem dX2_reasonAgainst_57 : decode cX2_reasonAgainst 57 = .ok (.istore 5, 2) := by decide +kernel
theorem dX2_reasonAgainst_59 : decode cX2_reasonAgainst 59 = .ok (.goto (-28), 3) := by decide +kernel
theorem dX2_reasonAgainst_62 : decode cX2_reasonAgainst 62 = .ok (.iconst 0, 1) := by decide +kernel
theorem dX2_reasonAgainst_63 : decode cX2_reasonAgainst 63 = .ok (.ireturn, 1) := by decide +kernel
theorem dX2_put_0 : decode cX2_put 0 = .ok (.iload_n 2, 1) := by decide +kernel
theorem dX2_put_1 : decode cX2_put 1 = .ok (.ifCond .lt 30, 3) := by decide +kernel
theorem dX2_put_4 : decode cX2_put 4 = .ok (.iload_n 2, 1) := by decide +kernel
theorem dX2_put_5 : decode cX2_put 5 = .ok (.aload_n 0, 1) := by decide +kernel
theorem dX2_put_6 : decode cX2_put 6 = .ok (.getfield 18, 3) := by decide +kernel
theorem dX2_put_9 : decode cX2_put 9 = .ok (.if_icmp .ge 22, 3) := by decide +kernel
theorem dX2_put_12 : decode cX2_put 12 = .ok (.aload_n 0, 1) := by decide +kernel
theorem dX2_put_13 : decode cX2_put 13 = .ok (.getfield 22, 3) := by decide +kernel
theorem dX2_put_16 : decode cX2_put 16 = .ok (.ifCond .lt 15, 3) := by decide +kernel
theorem dX2_put_19 : decode cX2_put 19 = .ok (.aload_n 0, 1) := by decide +kernel
theorem dX2_put_20 : decode cX2_put 20 = .ok (.getfield 22, 3) := by decide +kernel
theorem dX2_put_23 : decode cX2_put 23 = .ok (.aload_n 0, 1) := by decide +kernel
theorem dX2_put_24 : decode cX2_put 24 = .ok (.getfield 15, 3) := by decide +kernel
theorem dX2_put_27 : decode cX2_put 27 = .ok (.arraylength, 1) := by decide +kernel
theorem dX2_put_28 : decode cX2_put 28 = .ok (.if_icmp .lt 5, 3) := by decide +kernel
theorem dX2_put_31 : decode cX2_put 31 = .ok (.iconst 0, 1) := by decide +kernel
theorem dX2_put_32 : decode cX2_put 32 = .ok (.ireturn, 1) := by decide +kernel
theorem dX2_put_33 : decode cX2_put 33 = .ok (.aload_n 0, 1) := by decide +kernel
theorem dX2_put_34 : decode cX2_put 34 = .ok (.getfield 15, 3) := by decide +kernel
theorem dX2_put_37 : decode cX2_put 37 = .ok (.aload_n 0, 1) := by decide +kernel
theorem dX2_put_38 : decode cX2_put 38 = .ok (.getfield 22, 3) := by decide +kernel
theorem dX2_put_41 : decode cX2_put 41 = .ok (.iload_n 1, 1) := by decide +kernel
theorem dX2_put_42 : decode cX2_put 42 = .ok (.iastore, 1) := by decide +kernel
theorem dX2_put_43 : decode cX2_put 43 = .ok (.aload_n 0, 1) := by decide +kernel
theorem dX2_put_44 : decode cX2_put 44 = .ok (.dup, 1) := by decide +kernel
theorem dX2_put_45 : decode cX2_put 45 = .ok (.getfield 22, 3) := by decide +kernel
theorem dX2_put_48 : decode cX2_put 48 = .ok (.iconst 1, 1) := by decide +kernel
theorem dX2_put_49 : decode cX2_put 49 = .ok (.iadd, 1) := by decide +kernel
theorem dX2_put_50 : decode cX2_put 50 = .ok (.putfield 22, 3) := by decide +kernel
theorem dX2_put_53 : decode cX2_put 53 = .ok (.iconst 0, 1) := by decide +kernel
theorem dX2_put_54 : decode cX2_put 54 = .ok (.istore 4, 2) := by decide +kernel
theorem dX2_put_56 : decode cX2_put 56 = .ok (.iconst 1, 1) := by decide +kernel
theorem dX2_put_57 : decode cX2_put 57 = .ok (.iload_n 3, 1) := by decide +kernel
theorem dX2_put_58 : decode cX2_put 58 = .ok (.invokestatic 31, 3) := by decide +kernel
theorem dX2_put_61 : decode cX2_put 61 = .ok (.istore 5, 2) := by decide +kernel
theorem dX2_put_63 : decode cX2_put 63 = .ok (.iload_n 2, 1) := by decide +kernel
theorem dX2_put_64 : decode cX2_put 64 = .ok (.istore 6, 2) := by decide +kernel
theorem dX2_put_66 : decode cX2_put 66 = .ok (.iload 6, 2) := by decide +kernel
theorem dX2_put_68 : decode cX2_put 68 = .ok (.aload_n 0, 1) := by decide +kernel
theorem dX2_put_69 : decode cX2_put 69 = .ok (.getfield 18, 3) := by decide +kernel
theorem dX2_put_72 : decode cX2_put 72 = .ok (.if_icmp .ge 23, 3) := by decide +kernel
theorem dX2_put_75 : decode cX2_put 75 = .ok (.aload_n 0, 1) := by decide +kernel
theorem dX2_put_76 : decode cX2_put 76 = .ok (.iload 6, 2) := by decide +kernel
theorem dX2_put_78 : decode cX2_put 78 = .ok (.iload_n 1, 1) := by decide +kernel
theorem dX2_put_79 : decode cX2_put 79 = .ok (.invokevirtual 41, 3) := by decide +kernel
theorem dX2_put_82 : decode cX2_put 82 = .ok (.iinc 4 1, 3) := by decide +kernel
theorem dX2_put_85 : decode cX2_put 85 = .ok (.iload 6, 2) := by decide +kernel
theorem dX2_put_87 : decode cX2_put 87 = .ok (.iload 5, 2) := by decide +kernel
theorem dX2_put_89 : decode cX2_put 89 = .ok (.iadd, 1) := by decide +kernel
theorem dX2_put_90 : decode cX2_put 90 = .ok (.istore 6, 2) := by decide +kernel
theorem dX2_put_92 : decode cX2_put 92 = .ok (.goto (-26), 3) := by decide +kernel
theorem dX2_put_95 : decode cX2_put 95 = .ok (.iload 4, 2) := by decide +kernel
theorem dX2_put_97 : decode cX2_put 97 = .ok (.ireturn, 1) := by decide +kernel
theorem dX2_remove_0 : decode cX2_remove 0 = .ok (.aload_n 0, 1) := by decide +kernel
theorem dX2_remove_1 : decode cX2_remove 1 = .ok (.iload_n 1, 1) := by decide +kernel
theorem dX2_remove_2 : decode cX2_remove 2 = .ok (.invokevirtual 38, 3) := by decide +kernel
theorem dX2_remove_5 : decode cX2_remove 5 = .ok (.istore_n 2, 1) := by decide +kernel
theorem dX2_remove_6 : decode cX2_remove 6 = .ok (.iload_n 2, 1) := by decide +kernel
theorem dX2_remove_7 : decode cX2_remove 7 = .ok (.ifCond .ge 5, 3) := by decide +kernel
theorem dX2_remove_10 : decode cX2_remove 10 = .ok (.iconst 0, 1) := by decide +kernel
theorem dX2_remove_11 : decode cX2_remove 11 = .ok (.ireturn, 1) := by decide +kernel
theorem dX2_remove_12 : decode cX2_remove 12 = .ok (.iload_n 2, 1) := by decide +kernel
theorem dX2_remove_13 : decode cX2_remove 13 = .ok (.iconst 1, 1) := by decide +kernel
theorem dX2_remove_14 : decode cX2_remove 14 = .ok (.iadd, 1) := by decide +kernel
theorem dX2_remove_15 : decode cX2_remove 15 = .ok (.istore_n 3, 1) := by decide +kernel
theorem dX2_remove_16 : decode cX2_remove 16 = .ok (.iload_n 3, 1) := by decide +kernel
theorem dX2_remove_17 : decode cX2_remove 17 = .ok (.aload_n 0, 1) := by decide +kernel
theorem dX2_remove_18 : decode cX2_remove 18 = .ok (.getfield 22, 3) := by decide +kernel
theorem dX2_remove_21 : decode cX2_remove 21 = .ok (.if_icmp .ge 32, 3) := by decide +kernel
theorem dX2_remove_24 : decode cX2_remove 24 = .ok (.iload_n 3, 1) := by decide +kernel
theorem dX2_remove_25 : decode cX2_remove 25 = .ok (.aload_n 0, 1) := by decide +kernel
theorem dX2_remove_26 : decode cX2_remove 26 = .ok (.getfield 15, 3) := by decide +kernel
theorem dX2_remove_29 : decode cX2_remove 29 = .ok (.arraylength, 1) := by decide +kernel
theorem dX2_remove_30 : decode cX2_remove 30 = .ok (.if_icmp .ge 23, 3) := by decide +kernel
theorem dX2_remove_33 : decode cX2_remove 33 = .ok (.aload_n 0, 1) := by decide +kernel
theorem dX2_remove_34 : decode cX2_remove 34 = .ok (.getfield 15, 3) := by decide +kernel
theorem dX2_remove_37 : decode cX2_remove 37 = .ok (.iload_n 3, 1) := by decide +kernel
theorem dX2_remove_38 : decode cX2_remove 38 = .ok (.iconst 1, 1) := by decide +kernel
theorem dX2_remove_39 : decode cX2_remove 39 = .ok (.isub, 1) := by decide +kernel
theorem dX2_remove_40 : decode cX2_remove 40 = .ok (.aload_n 0, 1) := by decide +kernel
theorem dX2_remove_41 : decode cX2_remove 41 = .ok (.getfield 15, 3) := by decide +kernel
theorem dX2_remove_44 : decode cX2_remove 44 = .ok (.iload_n 3, 1) := by decide +kernel
theorem dX2_remove_45 : decode cX2_remove 45 = .ok (.iaload, 1) := by decide +kernel
theorem dX2_remove_46 : decode cX2_remove 46 = .ok (.iastore, 1) := by decide +kernel
theorem dX2_remove_47 : decode cX2_remove 47 = .ok (.iinc 3 1, 3) := by decide +kernel
theorem dX2_remove_50 : decode cX2_remove 50 = .ok (.goto (-34), 3) := by decide +kernel
theorem dX2_remove_53 : decode cX2_remove 53 = .ok (.aload_n 0, 1) := by decide +kernel
theorem dX2_remove_54 : decode cX2_remove 54 = .ok (.dup, 1) := by decide +kernel
theorem dX2_remove_55 : decode cX2_remove 55 = .ok (.getfield 22, 3) := by decide +kernel
theorem dX2_remove_58 : decode cX2_remove 58 = .ok (.iconst 1, 1) := by decide +kernel
theorem dX2_remove_59 : decode cX2_remove 59 = .ok (.isub, 1) := by decide +kernel
theorem dX2_remove_60 : decode cX2_remove 60 = .ok (.putfield 22, 3) := by decide +kernel
theorem dX2_remove_63 : decode cX2_remove 63 = .ok (.aload_n 0, 1) := by decide +kernel
theorem dX2_remove_64 : decode cX2_remove 64 = .ok (.iload_n 1, 1) := by decide +kernel
theorem dX2_remove_65 : decode cX2_remove 65 = .ok (.invokevirtual 45, 3) := by decide +kernel
theorem dX2_remove_68 : decode cX2_remove 68 = .ok (.istore_n 3, 1) := by decide +kernel
theorem dX2_remove_69 : decode cX2_remove 69 = .ok (.iconst 0, 1) := by decide +kernel
theorem dX2_remove_70 : decode cX2_remove 70 = .ok (.istore 4, 2) := by decide +kernel
theorem dX2_remove_72 : decode cX2_remove 72 = .ok (.iload 4, 2) := by decide +kernel
theorem dX2_remove_74 : decode cX2_remove 74 = .ok (.aload_n 0, 1) := by decide +kernel
theorem dX2_remove_75 : decode cX2_remove 75 = .ok (.getfield 18, 3) := by decide +kernel
theorem dX2_remove_78 : decode cX2_remove 78 = .ok (.if_icmp .ge 26, 3) := by decide +kernel
theorem dX2_remove_81 : decode cX2_remove 81 = .ok (.aload_n 0, 1) := by decide +kernel
theorem dX2_remove_82 : decode cX2_remove 82 = .ok (.iload 4, 2) := by decide +kernel
theorem dX2_remove_84 : decode cX2_remove 84 = .ok (.invokevirtual 34, 3) := by decide +kernel
theorem dX2_remove_87 : decode cX2_remove 87 = .ok (.iload_n 1, 1) := by decide +kernel
theorem dX2_remove_88 : decode cX2_remove 88 = .ok (.if_icmp .ne 10, 3) := by decide +kernel
theorem dX2_remove_91 : decode cX2_remove 91 = .ok (.aload_n 0, 1) := by decide +kernel
theorem dX2_remove_92 : decode cX2_remove 92 = .ok (.iload 4, 2) := by decide +kernel
theorem dX2_remove_94 : decode cX2_remove 94 = .ok (.iconst (-1), 1) := by decide +kernel
theorem dX2_remove_95 : decode cX2_remove 95 = .ok (.invokevirtual 41, 3) := by decide +kernel
theorem dX2_remove_98 : decode cX2_remove 98 = .ok (.iinc 4 1, 3) := by decide +kernel
theorem dX2_remove_101 : decode cX2_remove 101 = .ok (.goto (-29), 3) := by decide +kernel
theorem dX2_remove_104 : decode cX2_remove 104 = .ok (.iload_n 3, 1) := by decide +kernel
theorem dX2_remove_105 : decode cX2_remove 105 = .ok (.ireturn, 1) := by decide +kernel
theorem dX2_differences_0 : decode cX2_differences 0 = .ok (.iconst 0, 1) := by decide +kernel
theorem dX2_differences_1 : decode cX2_differences 1 = .ok (.istore_n 2, 1) := by decide +kernel
theorem dX2_differences_2 : decode cX2_differences 2 = .ok (.iconst 0, 1) := by decide +kernel
theorem dX2_differences_3 : decode cX2_differences 3 = .ok (.istore_n 3, 1) := by decide +kernel
theorem dX2_differences_4 : decode cX2_differences 4 = .ok (.iload_n 3, 1) := by decide +kernel
theorem dX2_differences_5 : decode cX2_differences 5 = .ok (.aload_n 0, 1) := by decide +kernel
theorem dX2_differences_6 : decode cX2_differences 6 = .ok (.getfield 18, 3) := by decide +kernel
theorem dX2_differences_9 : decode cX2_differences 9 = .ok (.if_icmp .ge 25, 3) := by decide +kernel
theorem dX2_differences_12 : decode cX2_differences 12 = .ok (.aload_n 0, 1) := by decide +kernel
theorem dX2_differences_13 : decode cX2_differences 13 = .ok (.iload_n 3, 1) := by decide +kernel
theorem dX2_differences_14 : decode cX2_differences 14 = .ok (.invokevirtual 34, 3) := by decide +kernel
theorem dX2_differences_17 : decode cX2_differences 17 = .ok (.aload_n 1, 1) := by decide +kernel
theorem dX2_differences_18 : decode cX2_differences 18 = .ok (.iload_n 3, 1) := by decide +kernel
theorem dX2_differences_19 : decode cX2_differences 19 = .ok (.invokevirtual 34, 3) := by decide +kernel
theorem dX2_differences_22 : decode cX2_differences 22 = .ok (.if_icmp .eq 6, 3) := by decide +kernel
theorem dX2_differences_25 : decode cX2_differences 25 = .ok (.iinc 2 1, 3) := by decide +kernel
theorem dX2_differences_28 : decode cX2_differences 28 = .ok (.iinc 3 1, 3) := by decide +kernel
theorem dX2_differences_31 : decode cX2_differences 31 = .ok (.goto (-27), 3) := by decide +kernel
theorem dX2_differences_34 : decode cX2_differences 34 = .ok (.iload_n 2, 1) := by decide +kernel
theorem dX2_differences_35 : decode cX2_differences 35 = .ok (.ireturn, 1) := by decide +kernel
theorem dX2_mostHolesSideBySide_0 : decode cX2_mostHolesSideBySide 0 = .ok (.iconst 0, 1) := by decide +kernel
theorem dX2_mostHolesSideBySide_1 : decode cX2_mostHolesSideBySide 1 = .ok (.istore_n 1, 1) := by decide +kernel
theorem dX2_mostHolesSideBySide_2 : decode cX2_mostHolesSideBySide 2 = .ok (.iconst 0, 1) := by decide +kernel
theorem dX2_mostHolesSideBySide_3 : decode cX2_mostHolesSideBySide 3 = .ok (.istore_n 2, 1) := by decide +kernel
theorem dX2_mostHolesSideBySide_4 : decode cX2_mostHolesSideBySide 4 = .ok (.iconst 0, 1) := by decide +kernel
theorem dX2_mostHolesSideBySide_5 : decode cX2_mostHolesSideBySide 5 = .ok (.istore_n 3, 1) := by decide +kernel
theorem dX2_mostHolesSideBySide_6 : decode cX2_mostHolesSideBySide 6 = .ok (.iload_n 3, 1) := by decide +kernel
theorem dX2_mostHolesSideBySide_7 : decode cX2_mostHolesSideBySide 7 = .ok (.aload_n 0, 1) := by decide +kernel
theorem dX2_mostHolesSideBySide_8 : decode cX2_mostHolesSideBySide 8 = .ok (.getfield 18, 3) := by decide +kernel
theorem dX2_mostHolesSideBySide_11 : decode cX2_mostHolesSideBySide 11 = .ok (.if_icmp .ge 32, 3) := by decide +kernel
theorem dX2_mostHolesSideBySide_14 : decode cX2_mostHolesSideBySide 14 = .ok (.aload_n 0, 1) := by decide +kernel
theorem dX2_mostHolesSideBySide_15 : decode cX2_mostHolesSideBySide 15 = .ok (.iload_n 3, 1) := by decide +kernel
theorem dX2_mostHolesSideBySide_16 : decode cX2_mostHolesSideBySide 16 = .ok (.invokevirtual 34, 3) := by decide +kernel
theorem dX2_mostHolesSideBySide_19 : decode cX2_mostHolesSideBySide 19 = .ok (.iconst (-1), 1) := by decide +kernel
theorem dX2_mostHolesSideBySide_20 : decode cX2_mostHolesSideBySide 20 = .ok (.if_icmp .ne 9, 3) := by decide +kernel
theorem dX2_mostHolesSideBySide_23 : decode cX2_mostHolesSideBySide 23 = .ok (.iload_n 2, 1) := by decide +kernel
theorem dX2_mostHolesSideBySide_24 : decode cX2_mostHolesSideBySide 24 = .ok (.iconst 1, 1) := by decide +kernel
theorem dX2_mostHolesSideBySide_25 : decode cX2_mostHolesSideBySide 25 = .ok (.iadd, 1) := by decide +kernel
theorem dX2_mostHolesSideBySide_26 : decode cX2_mostHolesSideBySide 26 = .ok (.goto 4, 3) := by decide +kernel
theorem dX2_mostHolesSideBySide_29 : decode cX2_mostHolesSideBySide 29 = .ok (.iconst 0, 1) := by decide +kernel
theorem dX2_mostHolesSideBySide_30 : decode cX2_mostHolesSideBySide 30 = .ok (.istore_n 2, 1) := by decide +kernel
theorem dX2_mostHolesSideBySide_31 : decode cX2_mostHolesSideBySide 31 = .ok (.iload_n 1, 1) := by decide +kernel
theorem dX2_mostHolesSideBySide_32 : decode cX2_mostHolesSideBySide 32 = .ok (.iload_n 2, 1) := by decide +kernel
theorem dX2_mostHolesSideBySide_33 : decode cX2_mostHolesSideBySide 33 = .ok (.invokestatic 31, 3) := by decide +kernel
theorem dX2_mostHolesSideBySide_36 : decode cX2_mostHolesSideBySide 36 = .ok (.istore_n 1, 1) := by decide +kernel
theorem dX2_mostHolesSideBySide_37 : decode cX2_mostHolesSideBySide 37 = .ok (.iinc 3 1, 3) := by decide +kernel
theorem dX2_mostHolesSideBySide_40 : decode cX2_mostHolesSideBySide 40 = .ok (.goto (-34), 3) := by decide +kernel
theorem dX2_mostHolesSideBySide_43 : decode cX2_mostHolesSideBySide 43 = .ok (.iload_n 1, 1) := by decide +kernel
theorem dX2_mostHolesSideBySide_44 : decode cX2_mostHolesSideBySide 44 = .ok (.ireturn, 1) := by decide +kernel
theorem dX2_hueNumber_0 : decode cX2_hueNumber 0 = .ok (.aload_n 0, 1) := by decide +kernel
theorem dX2_hueNumber_1 : decode cX2_hueNumber 1 = .ok (.iload_n 1, 1) := by decide +kernel
theorem dX2_hueNumber_2 : decode cX2_hueNumber 2 = .ok (.invokevirtual 38, 3) := by decide +kernel
theorem dX2_hueNumber_5 : decode cX2_hueNumber 5 = .ok (.istore_n 3, 1) := by decide +kernel
theorem dX2_hueNumber_6 : decode cX2_hueNumber 6 = .ok (.iload_n 3, 1) := by decide +kernel
theorem dX2_hueNumber_7 : decode cX2_hueNumber 7 = .ok (.iconst (-1), 1) := by decide +kernel
theorem dX2_hueNumber_8 : decode cX2_hueNumber 8 = .ok (.if_icmp .ne 5, 3) := by decide +kernel
theorem dX2_hueNumber_11 : decode cX2_hueNumber 11 = .ok (.iconst (-1), 1) := by decide +kernel
theorem dX2_hueNumber_12 : decode cX2_hueNumber 12 = .ok (.ireturn, 1) := by decide +kernel
theorem dX2_hueNumber_13 : decode cX2_hueNumber 13 = .ok (.iload_n 2, 1) := by decide +kernel
theorem dX2_hueNumber_14 : decode cX2_hueNumber 14 = .ok (.tableswitch 45 0 2 #[26, 33, 39], 26) := by decide +kernel
theorem dX2_hueNumber_40 : decode cX2_hueNumber 40 = .ok (.aload_n 0, 1) := by decide +kernel
theorem dX2_hueNumber_41 : decode cX2_hueNumber 41 = .ok (.iload_n 1, 1) := by decide +kernel
theorem dX2_hueNumber_42 : decode cX2_hueNumber 42 = .ok (.iconst 0, 1) := by decide +kernel
theorem dX2_hueNumber_43 : decode cX2_hueNumber 43 = .ok (.invokevirtual 48, 3) := by decide +kernel
theorem dX2_hueNumber_46 : decode cX2_hueNumber 46 = .ok (.ireturn, 1) := by decide +kernel
theorem dX2_hueNumber_47 : decode cX2_hueNumber 47 = .ok (.aload_n 0, 1) := by decide +kernel
theorem dX2_hueNumber_48 : decode cX2_hueNumber 48 = .ok (.iload_n 1, 1) := by decide +kernel
theorem dX2_hueNumber_49 : decode cX2_hueNumber 49 = .ok (.invokevirtual 45, 3) := by decide +kernel
theorem dX2_hueNumber_52 : decode cX2_hueNumber 52 = .ok (.ireturn, 1) := by decide +kernel
theorem dX2_hueNumber_53 : decode cX2_hueNumber 53 = .ok (.aload_n 0, 1) := by decide +kernel
theorem dX2_hueNumber_54 : decode cX2_hueNumber 54 = .ok (.iload_n 1, 1) := by decide +kernel
theorem dX2_hueNumber_55 : decode cX2_hueNumber 55 = .ok (.invokevirtual 51, 3) := by decide +kernel
theorem dX2_hueNumber_58 : decode cX2_hueNumber 58 = .ok (.ireturn, 1) := by decide +kernel
theorem dX2_hueNumber_59 : decode cX2_hueNumber 59 = .ok (.iload_n 3, 1) := by decide +kernel
theorem dX2_hueNumber_60 : decode cX2_hueNumber 60 = .ok (.ireturn, 1) := by decide +kernel
theorem dX2_phaseNumber_0 : decode cX2_phaseNumber 0 = .ok (.iload_n 3, 1) := by decide +kernel
theorem dX2_phaseNumber_1 : decode cX2_phaseNumber 1 = .ok (.lookupswitch 41 #[(0, 27), (1, 34)], 27) := by decide +kernel
theorem dX2_phaseNumber_28 : decode cX2_phaseNumber 28 = .ok (.aload_n 0, 1) := by decide +kernel
theorem dX2_phaseNumber_29 : decode cX2_phaseNumber 29 = .ok (.iload_n 1, 1) := by decide +kernel
theorem dX2_phaseNumber_30 : decode cX2_phaseNumber 30 = .ok (.iload_n 2, 1) := by decide +kernel
theorem dX2_phaseNumber_31 : decode cX2_phaseNumber 31 = .ok (.invokevirtual 54, 3) := by decide +kernel
theorem dX2_phaseNumber_34 : decode cX2_phaseNumber 34 = .ok (.ireturn, 1) := by decide +kernel
theorem dX2_phaseNumber_35 : decode cX2_phaseNumber 35 = .ok (.aload_n 0, 1) := by decide +kernel
theorem dX2_phaseNumber_36 : decode cX2_phaseNumber 36 = .ok (.iload_n 1, 1) := by decide +kernel
theorem dX2_phaseNumber_37 : decode cX2_phaseNumber 37 = .ok (.iload_n 2, 1) := by decide +kernel
theorem dX2_phaseNumber_38 : decode cX2_phaseNumber 38 = .ok (.invokevirtual 57, 3) := by decide +kernel
theorem dX2_phaseNumber_41 : decode cX2_phaseNumber 41 = .ok (.ireturn, 1) := by decide +kernel
theorem dX2_phaseNumber_42 : decode cX2_phaseNumber 42 = .ok (.aload_n 0, 1) := by decide +kernel
theorem dX2_phaseNumber_43 : decode cX2_phaseNumber 43 = .ok (.iload_n 1, 1) := by decide +kernel
theorem dX2_phaseNumber_44 : decode cX2_phaseNumber 44 = .ok (.iload_n 2, 1) := by decide +kernel
theorem dX2_phaseNumber_45 : decode cX2_phaseNumber 45 = .ok (.invokevirtual 60, 3) := by decide +kernel
theorem dX2_phaseNumber_48 : decode cX2_phaseNumber 48 = .ok (.ireturn, 1) := by decide +kernel
theorem dX2_fittingPhases_0 : decode cX2_fittingPhases 0 = .ok (.iconst 0, 1) := by decide +kernel
theorem dX2_fittingPhases_1 : decode cX2_fittingPhases 1 = .ok (.istore_n 3, 1) := by decide +kernel
theorem dX2_fittingPhases_2 : decode cX2_fittingPhases 2 = .ok (.iconst 0, 1) := by decide +kernel
theorem dX2_fittingPhases_3 : decode cX2_fittingPhases 3 = .ok (.istore 4, 2) := by decide +kernel
theorem dX2_fittingPhases_5 : decode cX2_fittingPhases 5 = .ok (.iload 4, 2) := by decide +kernel
theorem dX2_fittingPhases_7 : decode cX2_fittingPhases 7 = .ok (.iload_n 2, 1) := by decide +kernel
theorem dX2_fittingPhases_8 : decode cX2_fittingPhases 8 = .ok (.if_icmp .ge 23, 3) := by decide +kernel
theorem dX2_fittingPhases_11 : decode cX2_fittingPhases 11 = .ok (.aload_n 0, 1) := by decide +kernel
theorem dX2_fittingPhases_12 : decode cX2_fittingPhases 12 = .ok (.iload_n 1, 1) := by decide +kernel
theorem dX2_fittingPhases_13 : decode cX2_fittingPhases 13 = .ok (.iload 4, 2) := by decide +kernel
theorem dX2_fittingPhases_15 : decode cX2_fittingPhases 15 = .ok (.iload_n 2, 1) := by decide +kernel
theorem dX2_fittingPhases_16 : decode cX2_fittingPhases 16 = .ok (.invokevirtual 63, 3) := by decide +kernel
theorem dX2_fittingPhases_19 : decode cX2_fittingPhases 19 = .ok (.ifCond .ne 6, 3) := by decide +kernel
theorem dX2_fittingPhases_22 : decode cX2_fittingPhases 22 = .ok (.iinc 3 1, 3) := by decide +kernel
theorem dX2_fittingPhases_25 : decode cX2_fittingPhases 25 = .ok (.iinc 4 1, 3) := by decide +kernel
theorem dX2_fittingPhases_28 : decode cX2_fittingPhases 28 = .ok (.goto (-23), 3) := by decide +kernel
theorem dX2_fittingPhases_31 : decode cX2_fittingPhases 31 = .ok (.iload_n 3, 1) := by decide +kernel
theorem dX2_fittingPhases_32 : decode cX2_fittingPhases 32 = .ok (.ireturn, 1) := by decide +kernel
theorem dX2_lowestPhase_0 : decode cX2_lowestPhase 0 = .ok (.iconst 0, 1) := by decide +kernel
theorem dX2_lowestPhase_1 : decode cX2_lowestPhase 1 = .ok (.istore_n 3, 1) := by decide +kernel
theorem dX2_lowestPhase_2 : decode cX2_lowestPhase 2 = .ok (.iload_n 3, 1) := by decide +kernel
theorem dX2_lowestPhase_3 : decode cX2_lowestPhase 3 = .ok (.iload_n 2, 1) := by decide +kernel
theorem dX2_lowestPhase_4 : decode cX2_lowestPhase 4 = .ok (.if_icmp .ge 21, 3) := by decide +kernel
theorem dX2_lowestPhase_7 : decode cX2_lowestPhase 7 = .ok (.aload_n 0, 1) := by decide +kernel
theorem dX2_lowestPhase_8 : decode cX2_lowestPhase 8 = .ok (.iload_n 1, 1) := by decide +kernel
theorem dX2_lowestPhase_9 : decode cX2_lowestPhase 9 = .ok (.iload_n 3, 1) := by decide +kernel
theorem dX2_lowestPhase_10 : decode cX2_lowestPhase 10 = .ok (.iload_n 2, 1) := by decide +kernel
theorem dX2_lowestPhase_11 : decode cX2_lowestPhase 11 = .ok (.invokevirtual 63, 3) := by decide +kernel
theorem dX2_lowestPhase_14 : decode cX2_lowestPhase 14 = .ok (.ifCond .ne 5, 3) := by decide +kernel
theorem dX2_lowestPhase_17 : decode cX2_lowestPhase 17 = .ok (.iload_n 3, 1) := by decide +kernel
theorem dX2_lowestPhase_18 : decode cX2_lowestPhase 18 = .ok (.ireturn, 1) := by decide +kernel
theorem dX2_lowestPhase_19 : decode cX2_lowestPhase 19 = .ok (.iinc 3 1, 3) := by decide +kernel
theorem dX2_lowestPhase_22 : decode cX2_lowestPhase 22 = .ok (.goto (-20), 3) := by decide +kernel
theorem dX2_lowestPhase_25 : decode cX2_lowestPhase 25 = .ok (.iconst (-1), 1) := by decide +kernel
theorem dX2_lowestPhase_26 : decode cX2_lowestPhase 26 = .ok (.ireturn, 1) := by decide +kernel
theorem dX2_fillingPhase_0 : decode cX2_fillingPhase 0 = .ok (.iconst (-1), 1) := by decide +kernel
theorem dX2_fillingPhase_1 : decode cX2_fillingPhase 1 = .ok (.istore_n 3, 1) := by decide +kernel
theorem dX2_fillingPhase_2 : decode cX2_fillingPhase 2 = .ok (.iconst 0, 1) := by decide +kernel
theorem dX2_fillingPhase_3 : decode cX2_fillingPhase 3 = .ok (.istore 4, 2) := by decide +kernel
theorem dX2_fillingPhase_5 : decode cX2_fillingPhase 5 = .ok (.iconst 0, 1) := by decide +kernel
theorem dX2_fillingPhase_6 : decode cX2_fillingPhase 6 = .ok (.istore 5, 2) := by decide +kernel
theorem dX2_fillingPhase_8 : decode cX2_fillingPhase 8 = .ok (.iload 5, 2) := by decide +kernel
theorem dX2_fillingPhase_10 : decode cX2_fillingPhase 10 = .ok (.iload_n 2, 1) := by decide +kernel
theorem dX2_fillingPhase_11 : decode cX2_fillingPhase 11 = .ok (.if_icmp .ge 43, 3) := by decide +kernel
theorem dX2_fillingPhase_14 : decode cX2_fillingPhase 14 = .ok (.aload_n 0, 1) := by decide +kernel
theorem dX2_fillingPhase_15 : decode cX2_fillingPhase 15 = .ok (.iload 5, 2) := by decide +kernel
theorem dX2_fillingPhase_17 : decode cX2_fillingPhase 17 = .ok (.iload_n 2, 1) := by decide +kernel
theorem dX2_fillingPhase_18 : decode cX2_fillingPhase 18 = .ok (.invokevirtual 67, 3) := by decide +kernel
theorem dX2_fillingPhase_21 : decode cX2_fillingPhase 21 = .ok (.istore 6, 2) := by decide +kernel
theorem dX2_fillingPhase_23 : decode cX2_fillingPhase 23 = .ok (.iload 6, 2) := by decide +kernel
theorem dX2_fillingPhase_25 : decode cX2_fillingPhase 25 = .ok (.iload 4, 2) := by decide +kernel
theorem dX2_fillingPhase_27 : decode cX2_fillingPhase 27 = .ok (.if_icmp .le 21, 3) := by decide +kernel
theorem dX2_fillingPhase_30 : decode cX2_fillingPhase 30 = .ok (.aload_n 0, 1) := by decide +kernel
theorem dX2_fillingPhase_31 : decode cX2_fillingPhase 31 = .ok (.iload_n 1, 1) := by decide +kernel
theorem dX2_fillingPhase_32 : decode cX2_fillingPhase 32 = .ok (.iload 5, 2) := by decide +kernel
theorem dX2_fillingPhase_34 : decode cX2_fillingPhase 34 = .ok (.iload_n 2, 1) := by decide +kernel
theorem dX2_fillingPhase_35 : decode cX2_fillingPhase 35 = .ok (.invokevirtual 63, 3) := by decide +kernel
theorem dX2_fillingPhase_38 : decode cX2_fillingPhase 38 = .ok (.ifCond .ne 10, 3) := by decide +kernel
theorem dX2_fillingPhase_41 : decode cX2_fillingPhase 41 = .ok (.iload 6, 2) := by decide +kernel
theorem dX2_fillingPhase_43 : decode cX2_fillingPhase 43 = .ok (.istore 4, 2) := by decide +kernel
theorem dX2_fillingPhase_45 : decode cX2_fillingPhase 45 = .ok (.iload 5, 2) := by decide +kernel
theorem dX2_fillingPhase_47 : decode cX2_fillingPhase 47 = .ok (.istore_n 3, 1) := by decide +kernel
theorem dX2_fillingPhase_48 : decode cX2_fillingPhase 48 = .ok (.iinc 5 1, 3) := by decide +kernel
theorem dX2_fillingPhase_51 : decode cX2_fillingPhase 51 = .ok (.goto (-43), 3) := by decide +kernel
theorem dX2_fillingPhase_54 : decode cX2_fillingPhase 54 = .ok (.iload_n 3, 1) := by decide +kernel
theorem dX2_fillingPhase_55 : decode cX2_fillingPhase 55 = .ok (.ireturn, 1) := by decide +kernel
theorem dX3_init_0 : decode cX3_init 0 = .ok (.aload_n 0, 1) := by decide +kernel
theorem dX3_init_1 : decode cX3_init 1 = .ok (.invokespecial 3, 3) := by decide +kernel
theorem dX3_init_4 : decode cX3_init 4 = .ok (.aload_n 0, 1) := by decide +kernel
theorem dX3_init_5 : decode cX3_init 5 = .ok (.bipush 8, 2) := by decide +kernel
theorem dX3_init_7 : decode cX3_init 7 = .ok (.newarray .int, 2) := by decide +kernel
theorem dX3_init_9 : decode cX3_init 9 = .ok (.putfield 9, 3) := by decide +kernel
theorem dX3_init_12 : decode cX3_init 12 = .ok (.iconst 0, 1) := by decide +kernel
theorem dX3_init_13 : decode cX3_init 13 = .ok (.istore_n 1, 1) := by decide +kernel
theorem dX3_init_14 : decode cX3_init 14 = .ok (.iload_n 1, 1) := by decide +kernel
theorem dX3_init_15 : decode cX3_init 15 = .ok (.aload_n 0, 1) := by decide +kernel
theorem dX3_init_16 : decode cX3_init 16 = .ok (.getfield 9, 3) := by decide +kernel
theorem dX3_init_19 : decode cX3_init 19 = .ok (.arraylength, 1) := by decide +kernel
theorem dX3_init_20 : decode cX3_init 20 = .ok (.if_icmp .ge 18, 3) := by decide +kernel
theorem dX3_init_23 : decode cX3_init 23 = .ok (.aload_n 0, 1) := by decide +kernel
theorem dX3_init_24 : decode cX3_init 24 = .ok (.getfield 9, 3) := by decide +kernel
theorem dX3_init_27 : decode cX3_init 27 = .ok (.iload_n 1, 1) := by decide +kernel
theorem dX3_init_28 : decode cX3_init 28 = .ok (.iconst 2, 1) := by decide +kernel
theorem dX3_init_29 : decode cX3_init 29 = .ok (.iload_n 1, 1) := by decide +kernel
theorem dX3_init_30 : decode cX3_init 30 = .ok (.iadd, 1) := by decide +kernel
theorem dX3_init_31 : decode cX3_init 31 = .ok (.iastore, 1) := by decide +kernel
theorem dX3_init_32 : decode cX3_init 32 = .ok (.iinc 1 1, 3) := by decide +kernel
theorem dX3_init_35 : decode cX3_init 35 = .ok (.goto (-21), 3) := by decide +kernel
theorem dX3_init_38 : decode cX3_init 38 = .ok (.aload_n 0, 1) := by decide +kernel
theorem dX3_init_39 : decode cX3_init 39 = .ok (.iconst 4, 1) := by decide +kernel
theorem dX3_init_40 : decode cX3_init 40 = .ok (.anewarray 15, 3) := by decide +kernel
theorem dX3_init_43 : decode cX3_init 43 = .ok (.putfield 17, 3) := by decide +kernel
theorem dX3_init_46 : decode cX3_init 46 = .ok (.iconst 0, 1) := by decide +kernel
theorem dX3_init_47 : decode cX3_init 47 = .ok (.istore_n 1, 1) := by decide +kernel
theorem dX3_init_48 : decode cX3_init 48 = .ok (.iload_n 1, 1) := by decide +kernel
theorem dX3_init_49 : decode cX3_init 49 = .ok (.aload_n 0, 1) := by decide +kernel
theorem dX3_init_50 : decode cX3_init 50 = .ok (.getfield 17, 3) := by decide +kernel
theorem dX3_init_53 : decode cX3_init 53 = .ok (.arraylength, 1) := by decide +kernel
theorem dX3_init_54 : decode cX3_init 54 = .ok (.if_icmp .ge 22, 3) := by decide +kernel
theorem dX3_init_57 : decode cX3_init 57 = .ok (.aload_n 0, 1) := by decide +kernel
theorem dX3_init_58 : decode cX3_init 58 = .ok (.getfield 17, 3) := by decide +kernel
theorem dX3_init_61 : decode cX3_init 61 = .ok (.iload_n 1, 1) := by decide +kernel
theorem dX3_init_62 : decode cX3_init 62 = .ok (.new 15, 3) := by decide +kernel
theorem dX3_init_65 : decode cX3_init 65 = .ok (.dup, 1) := by decide +kernel
theorem dX3_init_66 : decode cX3_init 66 = .ok (.invokespecial 21, 3) := by decide +kernel
theorem dX3_init_69 : decode cX3_init 69 = .ok (.aastore, 1) := by decide +kernel
theorem dX3_init_70 : decode cX3_init 70 = .ok (.iinc 1 1, 3) := by decide +kernel
theorem dX3_init_73 : decode cX3_init 73 = .ok (.goto (-25), 3) := by decide +kernel
theorem dX3_init_76 : decode cX3_init 76 = .ok (.aload_n 0, 1) := by decide +kernel
theorem dX3_init_77 : decode cX3_init 77 = .ok (.iconst 0, 1) := by decide +kernel
theorem dX3_init_78 : decode cX3_init 78 = .ok (.putfield 22, 3) := by decide +kernel
theorem dX3_init_81 : decode cX3_init 81 = .ok (.aload_n 0, 1) := by decide +kernel
theorem dX3_init_82 : decode cX3_init 82 = .ok (.iconst 0, 1) := by decide +kernel
theorem dX3_init_83 : decode cX3_init 83 = .ok (.putfield 26, 3) := by decide +kernel
theorem dX3_init_86 : decode cX3_init 86 = .ok (.aload_n 0, 1) := by decide +kernel
theorem dX3_init_87 : decode cX3_init 87 = .ok (.iconst 0, 1) := by decide +kernel
theorem dX3_init_88 : decode cX3_init 88 = .ok (.putfield 29, 3) := by decide +kernel
theorem dX3_init_91 : decode cX3_init 91 = .ok (.aload_n 0, 1) := by decide +kernel
theorem dX3_init_92 : decode cX3_init 92 = .ok (.iconst 0, 1) := by decide +kernel
theorem dX3_init_93 : decode cX3_init 93 = .ok (.putfield 32, 3) := by decide +kernel
theorem dX3_init_96 : decode cX3_init 96 = .ok (.return_, 1) := by decide +kernel
theorem dX3_copyFrom_0 : decode cX3_copyFrom 0 = .ok (.iconst 0, 1) := by decide +kernel
theorem dX3_copyFrom_1 : decode cX3_copyFrom 1 = .ok (.istore_n 2, 1) := by decide +kernel
theorem dX3_copyFrom_2 : decode cX3_copyFrom 2 = .ok (.iload_n 2, 1) := by decide +kernel
theorem dX3_copyFrom_3 : decode cX3_copyFrom 3 = .ok (.aload_n 0, 1) := by decide +kernel
theorem dX3_copyFrom_4 : decode cX3_copyFrom 4 = .ok (.getfield 9, 3) := by decide +kernel
theorem dX3_copyFrom_7 : decode cX3_copyFrom 7 = .ok (.arraylength, 1) := by decide +kernel
theorem dX3_copyFrom_8 : decode cX3_copyFrom 8 = .ok (.if_icmp .ge 30, 3) := by decide +kernel
theorem dX3_copyFrom_11 : decode cX3_copyFrom 11 = .ok (.iload_n 2, 1) := by decide +kernel
theorem dX3_copyFrom_12 : decode cX3_copyFrom 12 = .ok (.aload_n 1, 1) := by decide +kernel
theorem dX3_copyFrom_13 : decode cX3_copyFrom 13 = .ok (.getfield 9, 3) := by decide +kernel
theorem dX3_copyFrom_16 : decode cX3_copyFrom 16 = .ok (.arraylength, 1) := by decide +kernel
theorem dX3_copyFrom_17 : decode cX3_copyFrom 17 = .ok (.if_icmp .ge 21, 3) := by decide +kernel
theorem dX3_copyFrom_20 : decode cX3_copyFrom 20 = .ok (.aload_n 0, 1) := by decide +kernel
theorem dX3_copyFrom_21 : decode cX3_copyFrom 21 = .ok (.getfield 9, 3) := by decide +kernel
theorem dX3_copyFrom_24 : decode cX3_copyFrom 24 = .ok (.iload_n 2, 1) := by decide +kernel
theorem dX3_copyFrom_25 : decode cX3_copyFrom 25 = .ok (.aload_n 1, 1) := by decide +kernel
theorem dX3_copyFrom_26 : decode cX3_copyFrom 26 = .ok (.getfield 9, 3) := by decide +kernel
theorem dX3_copyFrom_29 : decode cX3_copyFrom 29 = .ok (.iload_n 2, 1) := by decide +kernel
theorem dX3_copyFrom_30 : decode cX3_copyFrom 30 = .ok (.iaload, 1) := by decide +kernel
theorem dX3_copyFrom_31 : decode cX3_copyFrom 31 = .ok (.iastore, 1) := by decide +kernel
theorem dX3_copyFrom_32 : decode cX3_copyFrom 32 = .ok (.iinc 2 1, 3) := by decide +kernel
theorem dX3_copyFrom_35 : decode cX3_copyFrom 35 = .ok (.goto (-33), 3) := by decide +kernel
theorem dX3_copyFrom_38 : decode cX3_copyFrom 38 = .ok (.aload_n 0, 1) := by decide +kernel
theorem dX3_copyFrom_39 : decode cX3_copyFrom 39 = .ok (.aload_n 1, 1) := by decide +kernel
theorem dX3_copyFrom_40 : decode cX3_copyFrom 40 = .ok (.getfield 22, 3) := by decide +kernel
theorem dX3_copyFrom_43 : decode cX3_copyFrom 43 = .ok (.putfield 22, 3) := by decide +kernel
theorem dX3_copyFrom_46 : decode cX3_copyFrom 46 = .ok (.iconst 0, 1) := by decide +kernel
theorem dX3_copyFrom_47 : decode cX3_copyFrom 47 = .ok (.istore_n 2, 1) := by decide +kernel
theorem dX3_copyFrom_48 : decode cX3_copyFrom 48 = .ok (.iload_n 2, 1) := by decide +kernel
theorem dX3_copyFrom_49 : decode cX3_copyFrom 49 = .ok (.aload_n 0, 1) := by decide +kernel
theorem dX3_copyFrom_50 : decode cX3_copyFrom 50 = .ok (.getfield 22, 3) := by decide +kernel
theorem dX3_copyFrom_53 : decode cX3_copyFrom 53 = .ok (.if_icmp .ge 37, 3) := by decide +kernel
theorem dX3_copyFrom_56 : decode cX3_copyFrom 56 = .ok (.aload_n 0, 1) := by decide +kernel
theorem dX3_copyFrom_57 : decode cX3_copyFrom 57 = .ok (.iload_n 2, 1) := by decide +kernel
theorem dX3_copyFrom_58 : decode cX3_copyFrom 58 = .ok (.invokevirtual 35, 3) := by decide +kernel
theorem dX3_copyFrom_61 : decode cX3_copyFrom 61 = .ok (.astore_n 3, 1) := by decide +kernel
theorem dX3_copyFrom_62 : decode cX3_copyFrom 62 = .ok (.aload_n 1, 1) := by decide +kernel
theorem dX3_copyFrom_63 : decode cX3_copyFrom 63 = .ok (.iload_n 2, 1) := by decide +kernel
theorem dX3_copyFrom_64 : decode cX3_copyFrom 64 = .ok (.invokevirtual 35, 3) := by decide +kernel
theorem dX3_copyFrom_67 : decode cX3_copyFrom 67 = .ok (.astore 4, 2) := by decide +kernel
theorem dX3_copyFrom_69 : decode cX3_copyFrom 69 = .ok (.aload_n 3, 1) := by decide +kernel
theorem dX3_copyFrom_70 : decode cX3_copyFrom 70 = .ok (.ifnull 14, 3) := by decide +kernel
theorem dX3_copyFrom_73 : decode cX3_copyFrom 73 = .ok (.aload 4, 2) := by decide +kernel
theorem dX3_copyFrom_75 : decode cX3_copyFrom 75 = .ok (.ifnull 9, 3) := by decide +kernel
theorem dX3_copyFrom_78 : decode cX3_copyFrom 78 = .ok (.aload_n 3, 1) := by decide +kernel
theorem dX3_copyFrom_79 : decode cX3_copyFrom 79 = .ok (.aload 4, 2) := by decide +kernel
theorem dX3_copyFrom_81 : decode cX3_copyFrom 81 = .ok (.invokevirtual 39, 3) := by decide +kernel
theorem dX3_copyFrom_84 : decode cX3_copyFrom 84 = .ok (.iinc 2 1, 3) := by decide +kernel
theorem dX3_copyFrom_87 : decode cX3_copyFrom 87 = .ok (.goto (-39), 3) := by decide +kernel
theorem dX3_copyFrom_90 : decode cX3_copyFrom 90 = .ok (.aload_n 0, 1) := by decide +kernel
theorem dX3_copyFrom_91 : decode cX3_copyFrom 91 = .ok (.aload_n 1, 1) := by decide +kernel
theorem dX3_copyFrom_92 : decode cX3_copyFrom 92 = .ok (.getfield 26, 3) := by decide +kernel
theorem dX3_copyFrom_95 : decode cX3_copyFrom 95 = .ok (.putfield 26, 3) := by decide +kernel
theorem dX3_copyFrom_98 : decode cX3_copyFrom 98 = .ok (.aload_n 0, 1) := by decide +kernel
theorem dX3_copyFrom_99 : decode cX3_copyFrom 99 = .ok (.aload_n 1, 1) := by decide +kernel
theorem dX3_copyFrom_100 : decode cX3_copyFrom 100 = .ok (.getfield 29, 3) := by decide +kernel
theorem dX3_copyFrom_103 : decode cX3_copyFrom 103 = .ok (.putfield 29, 3) := by decide +kernel
theorem dX3_copyFrom_106 : decode cX3_copyFrom 106 = .ok (.aload_n 0, 1) := by decide +kernel
theorem dX3_copyFrom_107 : decode cX3_copyFrom 107 = .ok (.aload_n 1, 1) := by decide +kernel
theorem dX3_copyFrom_108 : decode cX3_copyFrom 108 = .ok (.getfield 32, 3) := by decide +kernel
theorem dX3_copyFrom_111 : decode cX3_copyFrom 111 = .ok (.putfield 32, 3) := by decide +kernel
theorem dX3_copyFrom_114 : decode cX3_copyFrom 114 = .ok (.return_, 1) := by decide +kernel
theorem dX3_gapAt_0 : decode cX3_gapAt 0 = .ok (.iload_n 1, 1) := by decide +kernel
theorem dX3_gapAt_1 : decode cX3_gapAt 1 = .ok (.ifCond .lt 21, 3) := by decide +kernel
theorem dX3_gapAt_4 : decode cX3_gapAt 4 = .ok (.iload_n 1, 1) := by decide +kernel
theorem dX3_gapAt_5 : decode cX3_gapAt 5 = .ok (.aload_n 0, 1) := by decide +kernel
theorem dX3_gapAt_6 : decode cX3_gapAt 6 = .ok (.getfield 9, 3) := by decide +kernel
theorem dX3_gapAt_9 : decode cX3_gapAt 9 = .ok (.arraylength, 1) := by decide +kernel
theorem dX3_gapAt_10 : decode cX3_gapAt 10 = .ok (.if_icmp .ge 12, 3) := by decide +kernel
theorem dX3_gapAt_13 : decode cX3_gapAt 13 = .ok (.aload_n 0, 1) := by decide +kernel
theorem dX3_gapAt_14 : decode cX3_gapAt 14 = .ok (.getfield 9, 3) := by decide +kernel
theorem dX3_gapAt_17 : decode cX3_gapAt 17 = .ok (.iload_n 1, 1) := by decide +kernel
theorem dX3_gapAt_18 : decode cX3_gapAt 18 = .ok (.iaload, 1) := by decide +kernel
theorem dX3_gapAt_19 : decode cX3_gapAt 19 = .ok (.goto 4, 3) := by decide +kernel
theorem dX3_gapAt_22 : decode cX3_gapAt 22 = .ok (.iconst 0, 1) := by decide +kernel
theorem dX3_gapAt_23 : decode cX3_gapAt 23 = .ok (.ireturn, 1) := by decide +kernel
theorem dX3_setGap_0 : decode cX3_setGap 0 = .ok (.iload_n 1, 1) := by decide +kernel
theorem dX3_setGap_1 : decode cX3_setGap 1 = .ok (.ifCond .lt 19, 3) := by decide +kernel
theorem dX3_setGap_4 : decode cX3_setGap 4 = .ok (.iload_n 1, 1) := by decide +kernel
theorem dX3_setGap_5 : decode cX3_setGap 5 = .ok (.aload_n 0, 1) := by decide +kernel
theorem dX3_setGap_6 : decode cX3_setGap 6 = .ok (.getfield 9, 3) := by decide +kernel
theorem dX3_setGap_9 : decode cX3_setGap 9 = .ok (.arraylength, 1) := by decide +kernel
theorem dX3_setGap_10 : decode cX3_setGap 10 = .ok (.if_icmp .ge 10, 3) := by decide +kernel
theorem dX3_setGap_13 : decode cX3_setGap 13 = .ok (.aload_n 0, 1) := by decide +kernel
theorem dX3_setGap_14 : decode cX3_setGap 14 = .ok (.getfield 9, 3) := by decide +kernel
theorem dX3_setGap_17 : decode cX3_setGap 17 = .ok (.iload_n 1, 1) := by decide +kernel
theorem dX3_setGap_18 : decode cX3_setGap 18 = .ok (.iload_n 2, 1) := by decide +kernel
theorem dX3_setGap_19 : decode cX3_setGap 19 = .ok (.iastore, 1) := by decide +kernel
theorem dX3_setGap_20 : decode cX3_setGap 20 = .ok (.return_, 1) := by decide +kernel
theorem dX3_ropeCount_0 : decode cX3_ropeCount 0 = .ok (.aload_n 0, 1) := by decide +kernel
theorem dX3_ropeCount_1 : decode cX3_ropeCount 1 = .ok (.getfield 22, 3) := by decide +kernel
theorem dX3_ropeCount_4 : decode cX3_ropeCount 4 = .ok (.ireturn, 1) := by decide +kernel
theorem dX3_ropeAt_0 : decode cX3_ropeAt 0 = .ok (.iload_n 1, 1) := by decide +kernel
theorem dX3_ropeAt_1 : decode cX3_ropeAt 1 = .ok (.ifCond .lt 29, 3) := by decide +kernel
theorem dX3_ropeAt_4 : decode cX3_ropeAt 4 = .ok (.iload_n 1, 1) := by decide +kernel
theorem dX3_ropeAt_5 : decode cX3_ropeAt 5 = .ok (.aload_n 0, 1) := by decide +kernel
theorem dX3_ropeAt_6 : decode cX3_ropeAt 6 = .ok (.getfield 22, 3) := by decide +kernel
theorem dX3_ropeAt_9 : decode cX3_ropeAt 9 = .ok (.if_icmp .ge 21, 3) := by decide +kernel
theorem dX3_ropeAt_12 : decode cX3_ropeAt 12 = .ok (.iload_n 1, 1) := by decide +kernel
theorem dX3_ropeAt_13 : decode cX3_ropeAt 13 = .ok (.aload_n 0, 1) := by decide +kernel
theorem dX3_ropeAt_14 : decode cX3_ropeAt 14 = .ok (.getfield 17, 3) := by decide +kernel
theorem dX3_ropeAt_17 : decode cX3_ropeAt 17 = .ok (.arraylength, 1) := by decide +kernel
theorem dX3_ropeAt_18 : decode cX3_ropeAt 18 = .ok (.if_icmp .ge 12, 3) := by decide +kernel
theorem dX3_ropeAt_21 : decode cX3_ropeAt 21 = .ok (.aload_n 0, 1) := by decide +kernel
theorem dX3_ropeAt_22 : decode cX3_ropeAt 22 = .ok (.getfield 17, 3) := by decide +kernel
theorem dX3_ropeAt_25 : decode cX3_ropeAt 25 = .ok (.iload_n 1, 1) := by decide +kernel
theorem dX3_ropeAt_26 : decode cX3_ropeAt 26 = .ok (.aaload, 1) := by decide +kernel
theorem dX3_ropeAt_27 : decode cX3_ropeAt 27 = .ok (.goto 4, 3) := by decide +kernel
theorem dX3_ropeAt_30 : decode cX3_ropeAt 30 = .ok (.aconst_null, 1) := by decide +kernel
theorem dX3_ropeAt_31 : decode cX3_ropeAt 31 = .ok (.areturn, 1) := by decide +kernel
theorem dX3_addRope_0 : decode cX3_addRope 0 = .ok (.aload_n 0, 1) := by decide +kernel
theorem dX3_addRope_1 : decode cX3_addRope 1 = .ok (.getfield 22, 3) := by decide +kernel
theorem dX3_addRope_4 : decode cX3_addRope 4 = .ok (.ifCond .lt 15, 3) := by decide +kernel
theorem dX3_addRope_7 : decode cX3_addRope 7 = .ok (.aload_n 0, 1) := by decide +kernel
theorem dX3_addRope_8 : decode cX3_addRope 8 = .ok (.getfield 22, 3) := by decide +kernel
theorem dX3_addRope_11 : decode cX3_addRope 11 = .ok (.aload_n 0, 1) := by decide +kernel
theorem dX3_addRope_12 : decode cX3_addRope 12 = .ok (.getfield 17, 3) := by decide +kernel
theorem dX3_addRope_15 : decode cX3_addRope 15 = .ok (.arraylength, 1) := by decide +kernel
theorem dX3_addRope_16 : decode cX3_addRope 16 = .ok (.if_icmp .lt 5, 3) := by decide +kernel
theorem dX3_addRope_19 : decode cX3_addRope 19 = .ok (.aconst_null, 1) := by decide +kernel
theorem dX3_addRope_20 : decode cX3_addRope 20 = .ok (.areturn, 1) := by decide +kernel
theorem dX3_addRope_21 : decode cX3_addRope 21 = .ok (.aload_n 0, 1) := by decide +kernel
theorem dX3_addRope_22 : decode cX3_addRope 22 = .ok (.dup, 1) := by decide +kernel
theorem dX3_addRope_23 : decode cX3_addRope 23 = .ok (.getfield 22, 3) := by decide +kernel
theorem dX3_addRope_26 : decode cX3_addRope 26 = .ok (.iconst 1, 1) := by decide +kernel
theorem dX3_addRope_27 : decode cX3_addRope 27 = .ok (.iadd, 1) := by decide +kernel
theorem dX3_addRope_28 : decode cX3_addRope 28 = .ok (.putfield 22, 3) := by decide +kernel
theorem dX3_addRope_31 : decode cX3_addRope 31 = .ok (.aload_n 0, 1) := by decide +kernel
theorem dX3_addRope_32 : decode cX3_addRope 32 = .ok (.aload_n 0, 1) := by decide +kernel
theorem dX3_addRope_33 : decode cX3_addRope 33 = .ok (.getfield 22, 3) := by decide +kernel
theorem dX3_addRope_36 : decode cX3_addRope 36 = .ok (.iconst 1, 1) := by decide +kernel
theorem dX3_addRope_37 : decode cX3_addRope 37 = .ok (.isub, 1) := by decide +kernel
theorem dX3_addRope_38 : decode cX3_addRope 38 = .ok (.invokevirtual 35, 3) := by decide +kernel
theorem dX3_addRope_41 : decode cX3_addRope 41 = .ok (.astore_n 2, 1) := by decide +kernel
theorem dX3_addRope_42 : decode cX3_addRope 42 = .ok (.aload_n 2, 1) := by decide +kernel
theorem dX3_addRope_43 : decode cX3_addRope 43 = .ok (.ifnull 8, 3) := by decide +kernel
theorem dX3_addRope_46 : decode cX3_addRope 46 = .ok (.aload_n 2, 1) := by decide +kernel
theorem dX3_addRope_47 : decode cX3_addRope 47 = .ok (.iload_n 1, 1) := by decide +kernel
theorem dX3_addRope_48 : decode cX3_addRope 48 = .ok (.invokevirtual 43, 3) := by decide +kernel
theorem dX3_addRope_51 : decode cX3_addRope 51 = .ok (.aload_n 2, 1) := by decide +kernel
theorem dX3_addRope_52 : decode cX3_addRope 52 = .ok (.areturn, 1) := by decide +kernel
theorem dX3_removeRope_0 : decode cX3_removeRope 0 = .ok (.aload_n 0, 1) := by decide +kernel
theorem dX3_removeRope_1 : decode cX3_removeRope 1 = .ok (.iload_n 1, 1) := by decide +kernel
theorem dX3_removeRope_2 : decode cX3_removeRope 2 = .ok (.invokevirtual 35, 3) := by decide +kernel
theorem dX3_removeRope_5 : decode cX3_removeRope 5 = .ok (.astore_n 2, 1) := by decide +kernel
theorem dX3_removeRope_6 : decode cX3_removeRope 6 = .ok (.aload_n 2, 1) := by decide +kernel
theorem dX3_removeRope_7 : decode cX3_removeRope 7 = .ok (.ifnonnull 4, 3) := by decide +kernel
theorem dX3_removeRope_10 : decode cX3_removeRope 10 = .ok (.return_, 1) := by decide +kernel
theorem dX3_removeRope_11 : decode cX3_removeRope 11 = .ok (.iload_n 1, 1) := by decide +kernel
theorem dX3_removeRope_12 : decode cX3_removeRope 12 = .ok (.iconst 1, 1) := by decide +kernel
theorem dX3_removeRope_13 : decode cX3_removeRope 13 = .ok (.iadd, 1) := by decide +kernel
theorem dX3_removeRope_14 : decode cX3_removeRope 14 = .ok (.istore_n 3, 1) := by decide +kernel
theorem dX3_removeRope_15 : decode cX3_removeRope 15 = .ok (.iload_n 3, 1) := by decide +kernel
theorem dX3_removeRope_16 : decode cX3_removeRope 16 = .ok (.aload_n 0, 1) := by decide +kernel
theorem dX3_removeRope_17 : decode cX3_removeRope 17 = .ok (.getfield 22, 3) := by decide +kernel
theorem dX3_removeRope_20 : decode cX3_removeRope 20 = .ok (.if_icmp .ge 32, 3) := by decide +kernel
theorem dX3_removeRope_23 : decode cX3_removeRope 23 = .ok (.iload_n 3, 1) := by decide +kernel
theorem dX3_removeRope_24 : decode cX3_removeRope 24 = .ok (.aload_n 0, 1) := by decide +kernel
theorem dX3_removeRope_25 : decode cX3_removeRope 25 = .ok (.getfield 17, 3) := by decide +kernel
theorem dX3_removeRope_28 : decode cX3_removeRope 28 = .ok (.arraylength, 1) := by decide +kernel
theorem dX3_removeRope_29 : decode cX3_removeRope 29 = .ok (.if_icmp .ge 23, 3) := by decide +kernel
theorem dX3_removeRope_32 : decode cX3_removeRope 32 = .ok (.aload_n 0, 1) := by decide +kernel
theorem dX3_removeRope_33 : decode cX3_removeRope 33 = .ok (.getfield 17, 3) := by decide +kernel
theorem dX3_removeRope_36 : decode cX3_removeRope 36 = .ok (.iload_n 3, 1) := by decide +kernel
theorem dX3_removeRope_37 : decode cX3_removeRope 37 = .ok (.iconst 1, 1) := by decide +kernel
theorem dX3_removeRope_38 : decode cX3_removeRope 38 = .ok (.isub, 1) := by decide +kernel
theorem dX3_removeRope_39 : decode cX3_removeRope 39 = .ok (.aload_n 0, 1) := by decide +kernel
theorem dX3_removeRope_40 : decode cX3_removeRope 40 = .ok (.getfield 17, 3) := by decide +kernel
theorem dX3_removeRope_43 : decode cX3_removeRope 43 = .ok (.iload_n 3, 1) := by decide +kernel
theorem dX3_removeRope_44 : decode cX3_removeRope 44 = .ok (.aaload, 1) := by decide +kernel
theorem dX3_removeRope_45 : decode cX3_removeRope 45 = .ok (.aastore, 1) := by decide +kernel
theorem dX3_removeRope_46 : decode cX3_removeRope 46 = .ok (.iinc 3 1, 3) := by decide +kernel
theorem dX3_removeRope_49 : decode cX3_removeRope 49 = .ok (.goto (-34), 3) := by decide +kernel
theorem dX3_removeRope_52 : decode cX3_removeRope 52 = .ok (.aload_n 0, 1) := by decide +kernel
theorem dX3_removeRope_53 : decode cX3_removeRope 53 = .ok (.dup, 1) := by decide +kernel
theorem dX3_removeRope_54 : decode cX3_removeRope 54 = .ok (.getfield 22, 3) := by decide +kernel
theorem dX3_removeRope_57 : decode cX3_removeRope 57 = .ok (.iconst 1, 1) := by decide +kernel
theorem dX3_removeRope_58 : decode cX3_removeRope 58 = .ok (.isub, 1) := by decide +kernel
theorem dX3_removeRope_59 : decode cX3_removeRope 59 = .ok (.putfield 22, 3) := by decide +kernel
theorem dX3_removeRope_62 : decode cX3_removeRope 62 = .ok (.aload_n 0, 1) := by decide +kernel
theorem dX3_removeRope_63 : decode cX3_removeRope 63 = .ok (.getfield 22, 3) := by decide +kernel
theorem dX3_removeRope_66 : decode cX3_removeRope 66 = .ok (.ifCond .lt 25, 3) := by decide +kernel
theorem dX3_removeRope_69 : decode cX3_removeRope 69 = .ok (.aload_n 0, 1) := by decide +kernel
theorem dX3_removeRope_70 : decode cX3_removeRope 70 = .ok (.getfield 22, 3) := by decide +kernel
theorem dX3_removeRope_73 : decode cX3_removeRope 73 = .ok (.aload_n 0, 1) := by decide +kernel
theorem dX3_removeRope_74 : decode cX3_removeRope 74 = .ok (.getfield 17, 3) := by decide +kernel
theorem dX3_removeRope_77 : decode cX3_removeRope 77 = .ok (.arraylength, 1) := by decide +kernel
theorem dX3_removeRope_78 : decode cX3_removeRope 78 = .ok (.if_icmp .ge 13, 3) := by decide +kernel
theorem dX3_removeRope_81 : decode cX3_removeRope 81 = .ok (.aload_n 0, 1) := by decide +kernel
theorem dX3_removeRope_82 : decode cX3_removeRope 82 = .ok (.getfield 17, 3) := by decide +kernel
theorem dX3_removeRope_85 : decode cX3_removeRope 85 = .ok (.aload_n 0, 1) := by decide +kernel
theorem dX3_removeRope_86 : decode cX3_removeRope 86 = .ok (.getfield 22, 3) := by decide +kernel
theorem dX3_removeRope_89 : decode cX3_removeRope 89 = .ok (.aload_n 2, 1) := by decide +kernel
theorem dX3_removeRope_90 : decode cX3_removeRope 90 = .ok (.aastore, 1) := by decide +kernel
theorem dX3_removeRope_91 : decode cX3_removeRope 91 = .ok (.return_, 1) := by decide +kernel
theorem dX3_layOn_0 : decode cX3_layOn 0 = .ok (.aload_n 0, 1) := by decide +kernel
theorem dX3_layOn_1 : decode cX3_layOn 1 = .ok (.dup, 1) := by decide +kernel
theorem dX3_layOn_2 : decode cX3_layOn 2 = .ok (.getfield 26, 3) := by decide +kernel
theorem dX3_layOn_5 : decode cX3_layOn 5 = .ok (.iconst 1, 1) := by decide +kernel
theorem dX3_layOn_6 : decode cX3_layOn 6 = .ok (.iadd, 1) := by decide +kernel
theorem dX3_layOn_7 : decode cX3_layOn 7 = .ok (.putfield 26, 3) := by decide +kernel
theorem dX3_layOn_10 : decode cX3_layOn 10 = .ok (.aload_n 1, 1) := by decide +kernel
theorem dX3_layOn_11 : decode cX3_layOn 11 = .ok (.iload_n 2, 1) := by decide +kernel
theorem dX3_layOn_12 : decode cX3_layOn 12 = .ok (.iload_n 3, 1) := by decide +kernel
theorem dX3_layOn_13 : decode cX3_layOn 13 = .ok (.aload_n 0, 1) := by decide +kernel
theorem dX3_layOn_14 : decode cX3_layOn 14 = .ok (.iload_n 2, 1) := by decide +kernel
theorem dX3_layOn_15 : decode cX3_layOn 15 = .ok (.invokevirtual 47, 3) := by decide +kernel
theorem dX3_layOn_18 : decode cX3_layOn 18 = .ok (.invokevirtual 51, 3) := by decide +kernel
theorem dX3_layOn_21 : decode cX3_layOn 21 = .ok (.ireturn, 1) := by decide +kernel
theorem dX3_countJoin_0 : decode cX3_countJoin 0 = .ok (.aload_n 0, 1) := by decide +kernel
theorem dX3_countJoin_1 : decode cX3_countJoin 1 = .ok (.dup, 1) := by decide +kernel
theorem dX3_countJoin_2 : decode cX3_countJoin 2 = .ok (.getfield 29, 3) := by decide +kernel
theorem dX3_countJoin_5 : decode cX3_countJoin 5 = .ok (.iconst 1, 1) := by decide +kernel
theorem dX3_countJoin_6 : decode cX3_countJoin 6 = .ok (.iadd, 1) := by decide +kernel
theorem dX3_countJoin_7 : decode cX3_countJoin 7 = .ok (.putfield 29, 3) := by decide +kernel
theorem dX3_countJoin_10 : decode cX3_countJoin 10 = .ok (.return_, 1) := by decide +kernel
theorem dX3_countCut_0 : decode cX3_countCut 0 = .ok (.aload_n 0, 1) := by decide +kernel
theorem dX3_countCut_1 : decode cX3_countCut 1 = .ok (.dup, 1) := by decide +kernel
theorem dX3_countCut_2 : decode cX3_countCut 2 = .ok (.getfield 32, 3) := by decide +kernel
theorem dX3_countCut_5 : decode cX3_countCut 5 = .ok (.iconst 1, 1) := by decide +kernel
theorem dX3_countCut_6 : decode cX3_countCut 6 = .ok (.iadd, 1) := by decide +kernel
theorem dX3_countCut_7 : decode cX3_countCut 7 = .ok (.putfield 32, 3) := by decide +kernel
theorem dX3_countCut_10 : decode cX3_countCut 10 = .ok (.return_, 1) := by decide +kernel
theorem dX3_layings_0 : decode cX3_layings 0 = .ok (.aload_n 0, 1) := by decide +kernel
theorem dX3_layings_1 : decode cX3_layings 1 = .ok (.getfield 26, 3) := by decide +kernel
theorem dX3_layings_4 : decode cX3_layings 4 = .ok (.ireturn, 1) := by decide +kernel
theorem dX3_joins_0 : decode cX3_joins 0 = .ok (.aload_n 0, 1) := by decide +kernel
theorem dX3_joins_1 : decode cX3_joins 1 = .ok (.getfield 29, 3) := by decide +kernel
theorem dX3_joins_4 : decode cX3_joins 4 = .ok (.ireturn, 1) := by decide +kernel
theorem dX3_cuts_0 : decode cX3_cuts 0 = .ok (.aload_n 0, 1) := by decide +kernel
theorem dX3_cuts_1 : decode cX3_cuts 1 = .ok (.getfield 32, 3) := by decide +kernel
theorem dX3_cuts_4 : decode cX3_cuts 4 = .ok (.ireturn, 1) := by decide +kernel
theorem dX3_places_0 : decode cX3_places 0 = .ok (.iconst 0, 1) := by decide +kernel
theorem dX3_places_1 : decode cX3_places 1 = .ok (.istore_n 1, 1) := by decide +kernel
theorem dX3_places_2 : decode cX3_places 2 = .ok (.iconst 0, 1) := by decide +kernel
theorem dX3_places_3 : decode cX3_places 3 = .ok (.istore_n 2, 1) := by decide +kernel
theorem dX3_places_4 : decode cX3_places 4 = .ok (.iload_n 2, 1) := by decide +kernel
theorem dX3_places_5 : decode cX3_places 5 = .ok (.aload_n 0, 1) := by decide +kernel
theorem dX3_places_6 : decode cX3_places 6 = .ok (.getfield 22, 3) := by decide +kernel
theorem dX3_places_9 : decode cX3_places 9 = .ok (.if_icmp .ge 30, 3) := by decide +kernel
theorem dX3_places_12 : decode cX3_places 12 = .ok (.aload_n 0, 1) := by decide +kernel
theorem dX3_places_13 : decode cX3_places 13 = .ok (.iload_n 2, 1) := by decide +kernel
theorem dX3_places_14 : decode cX3_places 14 = .ok (.invokevirtual 35, 3) := by decide +kernel
theorem dX3_places_17 : decode cX3_places 17 = .ok (.astore_n 3, 1) := by decide +kernel
theorem dX3_places_18 : decode cX3_places 18 = .ok (.iload_n 1, 1) := by decide +kernel
theorem dX3_places_19 : decode cX3_places 19 = .ok (.aload_n 3, 1) := by decide +kernel
theorem dX3_places_20 : decode cX3_places 20 = .ok (.ifnonnull 7, 3) := by decide +kernel
theorem dX3_places_23 : decode cX3_places 23 = .ok (.iconst 0, 1) := by decide +kernel
theorem dX3_places_24 : decode cX3_places 24 = .ok (.goto 7, 3) := by decide +kernel
theorem dX3_places_27 : decode cX3_places 27 = .ok (.aload_n 3, 1) := by decide +kernel
theorem dX3_places_28 : decode cX3_places 28 = .ok (.invokevirtual 55, 3) := by decide +kernel
theorem dX3_places_31 : decode cX3_places 31 = .ok (.iadd, 1) := by decide +kernel
theorem dX3_places_32 : decode cX3_places 32 = .ok (.istore_n 1, 1) := by decide +kernel
theorem dX3_places_33 : decode cX3_places 33 = .ok (.iinc 2 1, 3) := by decide +kernel
theorem dX3_places_36 : decode cX3_places 36 = .ok (.goto (-32), 3) := by decide +kernel
theorem dX3_places_39 : decode cX3_places 39 = .ok (.iload_n 1, 1) := by decide +kernel
theorem dX3_places_40 : decode cX3_places 40 = .ok (.ireturn, 1) := by decide +kernel
theorem dX3_holes_0 : decode cX3_holes 0 = .ok (.iconst 0, 1) := by decide +kernel
theorem dX3_holes_1 : decode cX3_holes 1 = .ok (.istore_n 1, 1) := by decide +kernel
theorem dX3_holes_2 : decode cX3_holes 2 = .ok (.iconst 0, 1) := by decide +kernel
theorem dX3_holes_3 : decode cX3_holes 3 = .ok (.istore_n 2, 1) := by decide +kernel
theorem dX3_holes_4 : decode cX3_holes 4 = .ok (.iload_n 2, 1) := by decide +kernel
theorem dX3_holes_5 : decode cX3_holes 5 = .ok (.aload_n 0, 1) := by decide +kernel
theorem dX3_holes_6 : decode cX3_holes 6 = .ok (.getfield 22, 3) := by decide +kernel
theorem dX3_holes_9 : decode cX3_holes 9 = .ok (.if_icmp .ge 31, 3) := by decide +kernel
theorem dX3_holes_12 : decode cX3_holes 12 = .ok (.aload_n 0, 1) := by decide +kernel
theorem dX3_holes_13 : decode cX3_holes 13 = .ok (.iload_n 2, 1) := by decide +kernel
theorem dX3_holes_14 : decode cX3_holes 14 = .ok (.invokevirtual 35, 3) := by decide +kernel
theorem dX3_holes_17 : decode cX3_holes 17 = .ok (.astore_n 3, 1) := by decide +kernel
theorem dX3_holes_18 : decode cX3_holes 18 = .ok (.iload_n 1, 1) := by decide +kernel
theorem dX3_holes_19 : decode cX3_holes 19 = .ok (.aload_n 3, 1) := by decide +kernel
theorem dX3_holes_20 : decode cX3_holes 20 = .ok (.ifnonnull 7, 3) := by decide +kernel
theorem dX3_holes_23 : decode cX3_holes 23 = .ok (.iconst 0, 1) := by decide +kernel
theorem dX3_holes_24 : decode cX3_holes 24 = .ok (.goto 8, 3) := by decide +kernel
theorem dX3_holes_27 : decode cX3_holes 27 = .ok (.aload_n 3, 1) := by decide +kernel
theorem dX3_holes_28 : decode cX3_holes 28 = .ok (.iconst (-1), 1) := by decide +kernel
theorem dX3_holes_29 : decode cX3_holes 29 = .ok (.invokevirtual 59, 3) := by decide +kernel
theorem dX3_holes_32 : decode cX3_holes 32 = .ok (.iadd, 1) := by decide +kernel
theorem dX3_holes_33 : decode cX3_holes 33 = .ok (.istore_n 1, 1) := by decide +kernel
theorem dX3_holes_34 : decode cX3_holes 34 = .ok (.iinc 2 1, 3) := by decide +kernel
theorem dX3_holes_37 : decode cX3_holes 37 = .ok (.goto (-33), 3) := by decide +kernel
theorem dX3_holes_40 : decode cX3_holes 40 = .ok (.iload_n 1, 1) := by decide +kernel
theorem dX3_holes_41 : decode cX3_holes 41 = .ok (.ireturn, 1) := by decide +kernel
theorem dX3_laidHues_0 : decode cX3_laidHues 0 = .ok (.iconst 0, 1) := by decide +kernel
theorem dX3_laidHues_1 : decode cX3_laidHues 1 = .ok (.istore_n 1, 1) := by decide +kernel
theorem dX3_laidHues_2 : decode cX3_laidHues 2 = .ok (.iconst 0, 1) := by decide +kernel
theorem dX3_laidHues_3 : decode cX3_laidHues 3 = .ok (.istore_n 2, 1) := by decide +kernel
theorem dX3_laidHues_4 : decode cX3_laidHues 4 = .ok (.iload_n 2, 1) := by decide +kernel
theorem dX3_laidHues_5 : decode cX3_laidHues 5 = .ok (.bipush 8, 2) := by decide +kernel
theorem dX3_laidHues_7 : decode cX3_laidHues 7 = .ok (.if_icmp .ge 20, 3) := by decide +kernel
theorem dX3_laidHues_10 : decode cX3_laidHues 10 = .ok (.aload_n 0, 1) := by decide +kernel
theorem dX3_laidHues_11 : decode cX3_laidHues 11 = .ok (.iload_n 2, 1) := by decide +kernel
theorem dX3_laidHues_12 : decode cX3_laidHues 12 = .ok (.invokevirtual 62, 3) := by decide +kernel
theorem dX3_laidHues_15 : decode cX3_laidHues 15 = .ok (.ifCond .eq 6, 3) := by decide +kernel
theorem dX3_laidHues_18 : decode cX3_laidHues 18 = .ok (.iinc 1 1, 3) := by decide +kernel
theorem dX3_laidHues_21 : decode cX3_laidHues 21 = .ok (.iinc 2 1, 3) := by decide +kernel
theorem dX3_laidHues_24 : decode cX3_laidHues 24 = .ok (.goto (-20), 3) := by decide +kernel
theorem dX3_laidHues_27 : decode cX3_laidHues 27 = .ok (.iload_n 1, 1) := by decide +kernel
theorem dX3_laidHues_28 : decode cX3_laidHues 28 = .ok (.ireturn, 1) := by decide +kernel
theorem dX3_isLaidOnSome_0 : decode cX3_isLaidOnSome 0 = .ok (.iconst 0, 1) := by decide +kernel
theorem dX3_isLaidOnSome_1 : decode cX3_isLaidOnSome 1 = .ok (.istore_n 2, 1) := by decide +kernel
theorem dX3_isLaidOnSome_2 : decode cX3_isLaidOnSome 2 = .ok (.iload_n 2, 1) := by decide +kernel
theorem dX3_isLaidOnSome_3 : decode cX3_isLaidOnSome 3 = .ok (.aload_n 0, 1) := by decide +kernel
theorem dX3_isLaidOnSome_4 : decode cX3_isLaidOnSome 4 = .ok (.getfield 22, 3) := by decide +kernel
theorem dX3_isLaidOnSome_7 : decode cX3_isLaidOnSome 7 = .ok (.if_icmp .ge 30, 3) := by decide +kernel
theorem dX3_isLaidOnSome_10 : decode cX3_isLaidOnSome 10 = .ok (.aload_n 0, 1) := by decide +kernel
theorem dX3_isLaidOnSome_11 : decode cX3_isLaidOnSome 11 = .ok (.iload_n 2, 1) := by decide +kernel
theorem dX3_isLaidOnSome_12 : decode cX3_isLaidOnSome 12 = .ok (.invokevirtual 35, 3) := by decide +kernel
theorem dX3_isLaidOnSome_15 : decode cX3_isLaidOnSome 15 = .ok (.astore_n 3, 1) := by decide +kernel
theorem dX3_isLaidOnSome_16 : decode cX3_isLaidOnSome 16 = .ok (.aload_n 3, 1) := by decide +kernel
theorem dX3_isLaidOnSome_17 : decode cX3_isLaidOnSome 17 = .ok (.ifnull 14, 3) := by decide +kernel
theorem dX3_isLaidOnSome_20 : decode cX3_isLaidOnSome 20 = .ok (.aload_n 3, 1) := by decide +kernel
theorem dX3_isLaidOnSome_21 : decode cX3_isLaidOnSome 21 = .ok (.iload_n 1, 1) := by decide +kernel
theorem dX3_isLaidOnSome_22 : decode cX3_isLaidOnSome 22 = .ok (.invokevirtual 66, 3) := by decide +kernel
theorem dX3_isLaidOnSome_25 : decode cX3_isLaidOnSome 25 = .ok (.iconst (-1), 1) := by decide +kernel
theorem dX3_isLaidOnSome_26 : decode cX3_isLaidOnSome 26 = .ok (.if_icmp .eq 5, 3) := by decide +kernel
theorem dX3_isLaidOnSome_29 : decode cX3_isLaidOnSome 29 = .ok (.iconst 1, 1) := by decide +kernel
theorem dX3_isLaidOnSome_30 : decode cX3_isLaidOnSome 30 = .ok (.ireturn, 1) := by decide +kernel
theorem dX3_isLaidOnSome_31 : decode cX3_isLaidOnSome 31 = .ok (.iinc 2 1, 3) := by decide +kernel
theorem dX3_isLaidOnSome_34 : decode cX3_isLaidOnSome 34 = .ok (.goto (-32), 3) := by decide +kernel
theorem dX3_isLaidOnSome_37 : decode cX3_isLaidOnSome 37 = .ok (.iconst 0, 1) := by decide +kernel
theorem dX3_isLaidOnSome_38 : decode cX3_isLaidOnSome 38 = .ok (.ireturn, 1) := by decide +kernel
theorem dX4_init_0 : decode cX4_init 0 = .ok (.aload_n 0, 1) := by decide +kernel
theorem dX4_init_1 : decode cX4_init 1 = .ok (.invokespecial 3, 3) := by decide +kernel
theorem dX4_init_4 : decode cX4_init 4 = .ok (.aload_n 0, 1) := by decide +kernel
theorem dX4_init_5 : decode cX4_init 5 = .ok (.bipush 60, 2) := by decide +kernel
theorem dX4_init_7 : decode cX4_init 7 = .ok (.newarray .int, 2) := by decide +kernel
theorem dX4_init_9 : decode cX4_init 9 = .ok (.putfield 9, 3) := by decide +kernel
theorem dX4_init_12 : decode cX4_init 12 = .ok (.aload_n 0, 1) := by decide +kernel
theorem dX4_init_13 : decode cX4_init 13 = .ok (.iconst 0, 1) := by decide +kernel
theorem dX4_init_14 : decode cX4_init 14 = .ok (.putfield 15, 3) := by decide +kernel
theorem dX4_init_17 : decode cX4_init 17 = .ok (.return_, 1) := by decide +kernel
theorem dX4_length_0 : decode cX4_length 0 = .ok (.aload_n 0, 1) := by decide +kernel
theorem dX4_length_1 : decode cX4_length 1 = .ok (.getfield 15, 3) := by decide +kernel
theorem dX4_length_4 : decode cX4_length 4 = .ok (.ireturn, 1) := by decide +kernel
theorem dX4_isFull_0 : decode cX4_isFull 0 = .ok (.aload_n 0, 1) := by decide +kernel
theorem dX4_isFull_1 : decode cX4_isFull 1 = .ok (.getfield 15, 3) := by decide +kernel
theorem dX4_isFull_4 : decode cX4_isFull 4 = .ok (.aload_n 0, 1) := by decide +kernel
theorem dX4_isFull_5 : decode cX4_isFull 5 = .ok (.getfield 9, 3) := by decide +kernel
theorem dX4_isFull_8 : decode cX4_isFull 8 = .ok (.arraylength, 1) := by decide +kernel
theorem dX4_isFull_9 : decode cX4_isFull 9 = .ok (.if_icmp .lt 7, 3) := by decide +kernel
theorem dX4_isFull_12 : decode cX4_isFull 12 = .ok (.iconst 1, 1) := by decide +kernel
theorem dX4_isFull_13 : decode cX4_isFull 13 = .ok (.goto 4, 3) := by decide +kernel
theorem dX4_isFull_16 : decode cX4_isFull 16 = .ok (.iconst 0, 1) := by decide +kernel
theorem dX4_isFull_17 : decode cX4_isFull 17 = .ok (.ireturn, 1) := by decide +kernel
theorem dX4_add_0 : decode cX4_add 0 = .ok (.aload_n 0, 1) := by decide +kernel
theorem dX4_add_1 : decode cX4_add 1 = .ok (.getfield 15, 3) := by decide +kernel
theorem dX4_add_4 : decode cX4_add 4 = .ok (.ifCond .lt 35, 3) := by decide +kernel
theorem dX4_add_7 : decode cX4_add 7 = .ok (.aload_n 0, 1) := by decide +kernel
theorem dX4_add_8 : decode cX4_add 8 = .ok (.getfield 15, 3) := by decide +kernel
theorem dX4_add_11 : decode cX4_add 11 = .ok (.aload_n 0, 1) := by decide +kernel
theorem dX4_add_12 : decode cX4_add 12 = .ok (.getfield 9, 3) := by decide +kernel
theorem dX4_add_15 : decode cX4_add 15 = .ok (.arraylength, 1) := by decide +kernel
theorem dX4_add_16 : decode cX4_add 16 = .ok (.if_icmp .ge 23, 3) := by decide +kernel
theorem dX4_add_19 : decode cX4_add 19 = .ok (.aload_n 0, 1) := by decide +kernel
theorem dX4_add_20 : decode cX4_add 20 = .ok (.getfield 9, 3) := by decide +kernel
theorem dX4_add_23 : decode cX4_add 23 = .ok (.aload_n 0, 1) := by decide +kernel
theorem dX4_add_24 : decode cX4_add 24 = .ok (.getfield 15, 3) := by decide +kernel
theorem dX4_add_27 : decode cX4_add 27 = .ok (.iload_n 1, 1) := by decide +kernel
theorem dX4_add_28 : decode cX4_add 28 = .ok (.iastore, 1) := by decide +kernel
theorem dX4_add_29 : decode cX4_add 29 = .ok (.aload_n 0, 1) := by decide +kernel
theorem dX4_add_30 : decode cX4_add 30 = .ok (.dup, 1) := by decide +kernel
theorem dX4_add_31 : decode cX4_add 31 = .ok (.getfield 15, 3) := by decide +kernel
theorem dX4_add_34 : decode cX4_add 34 = .ok (.iconst 1, 1) := by decide +kernel
theorem dX4_add_35 : decode cX4_add 35 = .ok (.iadd, 1) := by decide +kernel
theorem dX4_add_36 : decode cX4_add 36 = .ok (.putfield 15, 3) := by decide +kernel
theorem dX4_add_39 : decode cX4_add 39 = .ok (.return_, 1) := by decide +kernel
theorem dX4_empty_0 : decode cX4_empty 0 = .ok (.aload_n 0, 1) := by decide +kernel
theorem dX4_empty_1 : decode cX4_empty 1 = .ok (.iconst 0, 1) := by decide +kernel
theorem dX4_empty_2 : decode cX4_empty 2 = .ok (.putfield 15, 3) := by decide +kernel
theorem dX4_empty_5 : decode cX4_empty 5 = .ok (.return_, 1) := by decide +kernel
theorem dX4_codeAt_0 : decode cX4_codeAt 0 = .ok (.iload_n 1, 1) := by decide +kernel
theorem dX4_codeAt_1 : decode cX4_codeAt 1 = .ok (.ifCond .lt 29, 3) := by decide +kernel
theorem dX4_codeAt_4 : decode cX4_codeAt 4 = .ok (.iload_n 1, 1) := by decide +kernel
theorem dX4_codeAt_5 : decode cX4_codeAt 5 = .ok (.aload_n 0, 1) := by decide +kernel
theorem dX4_codeAt_6 : decode cX4_codeAt 6 = .ok (.getfield 15, 3) := by decide +kernel
theorem dX4_codeAt_9 : decode cX4_codeAt 9 = .ok (.if_icmp .ge 21, 3) := by decide +kernel
theorem dX4_codeAt_12 : decode cX4_codeAt 12 = .ok (.iload_n 1, 1) := by decide +kernel
theorem dX4_codeAt_13 : decode cX4_codeAt 13 = .ok (.aload_n 0, 1) := by decide +kernel
theorem dX4_codeAt_14 : decode cX4_codeAt 14 = .ok (.getfield 9, 3) := by decide +kernel
theorem dX4_codeAt_17 : decode cX4_codeAt 17 = .ok (.arraylength, 1) := by decide +kernel
theorem dX4_codeAt_18 : decode cX4_codeAt 18 = .ok (.if_icmp .ge 12, 3) := by decide +kernel
theorem dX4_codeAt_21 : decode cX4_codeAt 21 = .ok (.aload_n 0, 1) := by decide +kernel
theorem dX4_codeAt_22 : decode cX4_codeAt 22 = .ok (.getfield 9, 3) := by decide +kernel
theorem dX4_codeAt_25 : decode cX4_codeAt 25 = .ok (.iload_n 1, 1) := by decide +kernel
theorem dX4_codeAt_26 : decode cX4_codeAt 26 = .ok (.iaload, 1) := by decide +kernel
theorem dX4_codeAt_27 : decode cX4_codeAt 27 = .ok (.goto 4, 3) := by decide +kernel
theorem dX4_codeAt_30 : decode cX4_codeAt 30 = .ok (.iconst (-1), 1) := by decide +kernel
theorem dX4_codeAt_31 : decode cX4_codeAt 31 = .ok (.ireturn, 1) := by decide +kernel
theorem dX4_firstWrong_0 : decode cX4_firstWrong 0 = .ok (.iconst 0, 1) := by decide +kernel
theorem dX4_firstWrong_1 : decode cX4_firstWrong 1 = .ok (.istore_n 1, 1) := by decide +kernel
theorem dX4_firstWrong_2 : decode cX4_firstWrong 2 = .ok (.iconst 0, 1) := by decide +kernel
theorem dX4_firstWrong_3 : decode cX4_firstWrong 3 = .ok (.istore_n 2, 1) := by decide +kernel
theorem dX4_firstWrong_4 : decode cX4_firstWrong 4 = .ok (.iload_n 2, 1) := by decide +kernel
theorem dX4_firstWrong_5 : decode cX4_firstWrong 5 = .ok (.aload_n 0, 1) := by decide +kernel
theorem dX4_firstWrong_6 : decode cX4_firstWrong 6 = .ok (.getfield 15, 3) := by decide +kernel
theorem dX4_firstWrong_9 : decode cX4_firstWrong 9 = .ok (.if_icmp .ge 27, 3) := by decide +kernel
theorem dX4_firstWrong_12 : decode cX4_firstWrong 12 = .ok (.iload_n 1, 1) := by decide +kernel
theorem dX4_firstWrong_13 : decode cX4_firstWrong 13 = .ok (.aload_n 0, 1) := by decide +kernel
theorem dX4_firstWrong_14 : decode cX4_firstWrong 14 = .ok (.iload_n 2, 1) := by decide +kernel
theorem dX4_firstWrong_15 : decode cX4_firstWrong 15 = .ok (.invokevirtual 19, 3) := by decide +kernel
theorem dX4_firstWrong_18 : decode cX4_firstWrong 18 = .ok (.invokestatic 23, 3) := by decide +kernel
theorem dX4_firstWrong_21 : decode cX4_firstWrong 21 = .ok (.istore_n 1, 1) := by decide +kernel
theorem dX4_firstWrong_22 : decode cX4_firstWrong 22 = .ok (.iload_n 1, 1) := by decide +kernel
theorem dX4_firstWrong_23 : decode cX4_firstWrong 23 = .ok (.bipush 7, 2) := by decide +kernel
theorem dX4_firstWrong_25 : decode cX4_firstWrong 25 = .ok (.if_icmp .ne 5, 3) := by decide +kernel
theorem dX4_firstWrong_28 : decode cX4_firstWrong 28 = .ok (.iload_n 2, 1) := by decide +kernel
theorem dX4_firstWrong_29 : decode cX4_firstWrong 29 = .ok (.ireturn, 1) := by decide +kernel
theorem dX4_firstWrong_30 : decode cX4_firstWrong 30 = .ok (.iinc 2 1, 3) := by decide +kernel
theorem dX4_firstWrong_33 : decode cX4_firstWrong 33 = .ok (.goto (-29), 3) := by decide +kernel
theorem dX4_firstWrong_36 : decode cX4_firstWrong 36 = .ok (.aload_n 0, 1) := by decide +kernel
theorem dX4_firstWrong_37 : decode cX4_firstWrong 37 = .ok (.getfield 15, 3) := by decide +kernel
theorem dX4_firstWrong_40 : decode cX4_firstWrong 40 = .ok (.ireturn, 1) := by decide +kernel
theorem dX4_isComplete_0 : decode cX4_isComplete 0 = .ok (.iconst 0, 1) := by decide +kernel
theorem dX4_isComplete_1 : decode cX4_isComplete 1 = .ok (.istore_n 1, 1) := by decide +kernel
theorem dX4_isComplete_2 : decode cX4_isComplete 2 = .ok (.iconst 0, 1) := by decide +kernel
theorem dX4_isComplete_3 : decode cX4_isComplete 3 = .ok (.istore_n 2, 1) := by decide +kernel
theorem dX4_isComplete_4 : decode cX4_isComplete 4 = .ok (.iload_n 2, 1) := by decide +kernel
theorem dX4_isComplete_5 : decode cX4_isComplete 5 = .ok (.aload_n 0, 1) := by decide +kernel
theorem dX4_isComplete_6 : decode cX4_isComplete 6 = .ok (.getfield 15, 3) := by decide +kernel
theorem dX4_isComplete_9 : decode cX4_isComplete 9 = .ok (.if_icmp .ge 19, 3) := by decide +kernel
theorem dX4_isComplete_12 : decode cX4_isComplete 12 = .ok (.iload_n 1, 1) := by decide +kernel
theorem dX4_isComplete_13 : decode cX4_isComplete 13 = .ok (.aload_n 0, 1) := by decide +kernel
theorem dX4_isComplete_14 : decode cX4_isComplete 14 = .ok (.iload_n 2, 1) := by decide +kernel
theorem dX4_isComplete_15 : decode cX4_isComplete 15 = .ok (.invokevirtual 19, 3) := by decide +kernel
theorem dX4_isComplete_18 : decode cX4_isComplete 18 = .ok (.invokestatic 23, 3) := by decide +kernel
theorem dX4_isComplete_21 : decode cX4_isComplete 21 = .ok (.istore_n 1, 1) := by decide +kernel
theorem dX4_isComplete_22 : decode cX4_isComplete 22 = .ok (.iinc 2 1, 3) := by decide +kernel
theorem dX4_isComplete_25 : decode cX4_isComplete 25 = .ok (.goto (-21), 3) := by decide +kernel
theorem dX4_isComplete_28 : decode cX4_isComplete 28 = .ok (.iload_n 1, 1) := by decide +kernel
theorem dX4_isComplete_29 : decode cX4_isComplete 29 = .ok (.iconst 4, 1) := by decide +kernel
theorem dX4_isComplete_30 : decode cX4_isComplete 30 = .ok (.if_icmp .eq 14, 3) := by decide +kernel
theorem dX4_isComplete_33 : decode cX4_isComplete 33 = .ok (.iload_n 1, 1) := by decide +kernel
theorem dX4_isComplete_34 : decode cX4_isComplete 34 = .ok (.iconst 5, 1) := by decide +kernel
theorem dX4_isComplete_35 : decode cX4_isComplete 35 = .ok (.if_icmp .eq 9, 3) := by decide +kernel
theorem dX4_isComplete_38 : decode cX4_isComplete 38 = .ok (.iload_n 1, 1) := by decide +kernel
theorem dX4_isComplete_39 : decode cX4_isComplete 39 = .ok (.bipush 6, 2) := by decide +kernel
theorem dX4_isComplete_41 : decode cX4_isComplete 41 = .ok (.if_icmp .ne 7, 3) := by decide +kernel
theorem dX4_isComplete_44 : decode cX4_isComplete 44 = .ok (.iconst 1, 1) := by decide +kernel
theorem dX4_isComplete_45 : decode cX4_isComplete 45 = .ok (.goto 4, 3) := by decide +kernel
theorem dX4_isComplete_48 : decode cX4_isComplete 48 = .ok (.iconst 0, 1) := by decide +kernel
theorem dX4_isComplete_49 : decode cX4_isComplete 49 = .ok (.ireturn, 1) := by decide +kernel
theorem dX4_partEnd_0 : decode cX4_partEnd 0 = .ok (.iload_n 1, 1) := by decide +kernel
theorem dX4_partEnd_1 : decode cX4_partEnd 1 = .ok (.istore_n 2, 1) := by decide +kernel
theorem dX4_partEnd_2 : decode cX4_partEnd 2 = .ok (.iload_n 2, 1) := by decide +kernel
theorem dX4_partEnd_3 : decode cX4_partEnd 3 = .ok (.aload_n 0, 1) := by decide +kernel
theorem dX4_partEnd_4 : decode cX4_partEnd 4 = .ok (.getfield 15, 3) := by decide +kernel
theorem dX4_partEnd_7 : decode cX4_partEnd 7 = .ok (.if_icmp .ge 21, 3) := by decide +kernel
theorem dX4_partEnd_10 : decode cX4_partEnd 10 = .ok (.aload_n 0, 1) := by decide +kernel
theorem dX4_partEnd_11 : decode cX4_partEnd 11 = .ok (.iload_n 2, 1) := by decide +kernel
theorem dX4_partEnd_12 : decode cX4_partEnd 12 = .ok (.invokevirtual 19, 3) := by decide +kernel
theorem dX4_partEnd_15 : decode cX4_partEnd 15 = .ok (.bipush 44, 2) := by decide +kernel
theorem dX4_partEnd_17 : decode cX4_partEnd 17 = .ok (.if_icmp .ne 5, 3) := by decide +kernel
theorem dX4_partEnd_20 : decode cX4_partEnd 20 = .ok (.iload_n 2, 1) := by decide +kernel
theorem dX4_partEnd_21 : decode cX4_partEnd 21 = .ok (.ireturn, 1) := by decide +kernel
theorem dX4_partEnd_22 : decode cX4_partEnd 22 = .ok (.iinc 2 1, 3) := by decide +kernel
theorem dX4_partEnd_25 : decode cX4_partEnd 25 = .ok (.goto (-23), 3) := by decide +kernel
theorem dX4_partEnd_28 : decode cX4_partEnd 28 = .ok (.aload_n 0, 1) := by decide +kernel
theorem dX4_partEnd_29 : decode cX4_partEnd 29 = .ok (.getfield 15, 3) := by decide +kernel
theorem dX4_partEnd_32 : decode cX4_partEnd 32 = .ok (.ireturn, 1) := by decide +kernel
theorem dX4_numberIn_0 : decode cX4_numberIn 0 = .ok (.iconst 0, 1) := by decide +kernel
theorem dX4_numberIn_1 : decode cX4_numberIn 1 = .ok (.istore_n 3, 1) := by decide +kernel
theorem dX4_numberIn_2 : decode cX4_numberIn 2 = .ok (.iload_n 1, 1) := by decide +kernel
theorem dX4_numberIn_3 : decode cX4_numberIn 3 = .ok (.istore 4, 2) := by decide +kernel
theorem dX4_numberIn_5 : decode cX4_numberIn 5 = .ok (.iload 4, 2) := by decide +kernel
theorem dX4_numberIn_7 : decode cX4_numberIn 7 = .ok (.iload_n 2, 1) := by decide +kernel
theorem dX4_numberIn_8 : decode cX4_numberIn 8 = .ok (.if_icmp .ge 24, 3) := by decide +kernel
theorem dX4_numberIn_11 : decode cX4_numberIn 11 = .ok (.bipush 10, 2) := by decide +kernel
theorem dX4_numberIn_13 : decode cX4_numberIn 13 = .ok (.iload_n 3, 1) := by decide +kernel
theorem dX4_numberIn_14 : decode cX4_numberIn 14 = .ok (.imul, 1) := by decide +kernel
theorem dX4_numberIn_15 : decode cX4_numberIn 15 = .ok (.aload_n 0, 1) := by decide +kernel
theorem dX4_numberIn_16 : decode cX4_numberIn 16 = .ok (.iload 4, 2) := by decide +kernel
theorem dX4_numberIn_18 : decode cX4_numberIn 18 = .ok (.invokevirtual 19, 3) := by decide +kernel
theorem dX4_numberIn_21 : decode cX4_numberIn 21 = .ok (.iadd, 1) := by decide +kernel
theorem dX4_numberIn_22 : decode cX4_numberIn 22 = .ok (.bipush 48, 2) := by decide +kernel
theorem dX4_numberIn_24 : decode cX4_numberIn 24 = .ok (.isub, 1) := by decide +kernel
theorem dX4_numberIn_25 : decode cX4_numberIn 25 = .ok (.istore_n 3, 1) := by decide +kernel
theorem dX4_numberIn_26 : decode cX4_numberIn 26 = .ok (.iinc 4 1, 3) := by decide +kernel
theorem dX4_numberIn_29 : decode cX4_numberIn 29 = .ok (.goto (-24), 3) := by decide +kernel
theorem dX4_numberIn_32 : decode cX4_numberIn 32 = .ok (.iload_n 3, 1) := by decide +kernel
theorem dX4_numberIn_33 : decode cX4_numberIn 33 = .ok (.ireturn, 1) := by decide +kernel
theorem dX4_dueBehind_0 : decode cX4_dueBehind 0 = .ok (.iload_n 0, 1) := by decide +kernel
theorem dX4_dueBehind_1 : decode cX4_dueBehind 1 = .ok (.tableswitch 115 0 6 #[43, 48, 53, 58, 73, 94, 110], 43) := by decide +kernel
theorem dX4_dueBehind_44 : decode cX4_dueBehind 44 = .ok (.iload_n 1, 1) := by decide +kernel
theorem dX4_dueBehind_45 : decode cX4_dueBehind 45 = .ok (.invokestatic 27, 3) := by decide +kernel
theorem dX4_dueBehind_48 : decode cX4_dueBehind 48 = .ok (.ireturn, 1) := by decide +kernel
theorem dX4_dueBehind_49 : decode cX4_dueBehind 49 = .ok (.iload_n 1, 1) := by decide +kernel
theorem dX4_dueBehind_50 : decode cX4_dueBehind 50 = .ok (.invokestatic 30, 3) := by decide +kernel
theorem dX4_dueBehind_53 : decode cX4_dueBehind 53 = .ok (.ireturn, 1) := by decide +kernel
theorem dX4_dueBehind_54 : decode cX4_dueBehind 54 = .ok (.iload_n 1, 1) := by decide +kernel
theorem dX4_dueBehind_55 : decode cX4_dueBehind 55 = .ok (.invokestatic 33, 3) := by decide +kernel
theorem dX4_dueBehind_58 : decode cX4_dueBehind 58 = .ok (.ireturn, 1) := by decide +kernel
theorem dX4_dueBehind_59 : decode cX4_dueBehind 59 = .ok (.iload_n 1, 1) := by decide +kernel
theorem dX4_dueBehind_60 : decode cX4_dueBehind 60 = .ok (.invokestatic 36, 3) := by decide +kernel
theorem dX4_dueBehind_63 : decode cX4_dueBehind 63 = .ok (.ifCond .eq 8, 3) := by decide +kernel
theorem dX4_dueBehind_66 : decode cX4_dueBehind 66 = .ok (.bipush 6, 2) := by decide +kernel
theorem dX4_dueBehind_68 : decode cX4_dueBehind 68 = .ok (.goto 5, 3) := by decide +kernel
theorem dX4_dueBehind_71 : decode cX4_dueBehind 71 = .ok (.bipush 7, 2) := by decide +kernel
theorem dX4_dueBehind_73 : decode cX4_dueBehind 73 = .ok (.ireturn, 1) := by decide +kernel
theorem dX4_dueBehind_74 : decode cX4_dueBehind 74 = .ok (.iload_n 1, 1) := by decide +kernel
theorem dX4_dueBehind_75 : decode cX4_dueBehind 75 = .ok (.bipush 48, 2) := by decide +kernel
theorem dX4_dueBehind_77 : decode cX4_dueBehind 77 = .ok (.bipush 57, 2) := by decide +kernel
theorem dX4_dueBehind_79 : decode cX4_dueBehind 79 = .ok (.invokestatic 40, 3) := by decide +kernel
theorem dX4_dueBehind_82 : decode cX4_dueBehind 82 = .ok (.ifCond .eq 8, 3) := by decide +kernel
theorem dX4_dueBehind_85 : decode cX4_dueBehind 85 = .ok (.bipush 6, 2) := by decide +kernel
theorem dX4_dueBehind_87 : decode cX4_dueBehind 87 = .ok (.goto 7, 3) := by decide +kernel
theorem dX4_dueBehind_90 : decode cX4_dueBehind 90 = .ok (.iload_n 1, 1) := by decide +kernel
theorem dX4_dueBehind_91 : decode cX4_dueBehind 91 = .ok (.invokestatic 44, 3) := by decide +kernel
theorem dX4_dueBehind_94 : decode cX4_dueBehind 94 = .ok (.ireturn, 1) := by decide +kernel
theorem dX4_dueBehind_95 : decode cX4_dueBehind 95 = .ok (.iload_n 1, 1) := by decide +kernel
theorem dX4_dueBehind_96 : decode cX4_dueBehind 96 = .ok (.bipush 48, 2) := by decide +kernel
theorem dX4_dueBehind_98 : decode cX4_dueBehind 98 = .ok (.if_icmp .ne 8, 3) := by decide +kernel
theorem dX4_dueBehind_101 : decode cX4_dueBehind 101 = .ok (.bipush 6, 2) := by decide +kernel
theorem dX4_dueBehind_103 : decode cX4_dueBehind 103 = .ok (.goto 7, 3) := by decide +kernel
theorem dX4_dueBehind_106 : decode cX4_dueBehind 106 = .ok (.iload_n 1, 1) := by decide +kernel
theorem dX4_dueBehind_107 : decode cX4_dueBehind 107 = .ok (.invokestatic 44, 3) := by decide +kernel
theorem dX4_dueBehind_110 : decode cX4_dueBehind 110 = .ok (.ireturn, 1) := by decide +kernel
theorem dX4_dueBehind_111 : decode cX4_dueBehind 111 = .ok (.iload_n 1, 1) := by decide +kernel
theorem dX4_dueBehind_112 : decode cX4_dueBehind 112 = .ok (.invokestatic 44, 3) := by decide +kernel
theorem dX4_dueBehind_115 : decode cX4_dueBehind 115 = .ok (.ireturn, 1) := by decide +kernel
theorem dX4_dueBehind_116 : decode cX4_dueBehind 116 = .ok (.bipush 7, 2) := by decide +kernel
theorem dX4_dueBehind_118 : decode cX4_dueBehind 118 = .ok (.ireturn, 1) := by decide +kernel
theorem dX4_dueBehindFirst_0 : decode cX4_dueBehindFirst 0 = .ok (.iload_n 0, 1) := by decide +kernel
theorem dX4_dueBehindFirst_1 : decode cX4_dueBehindFirst 1 = .ok (.invokestatic 36, 3) := by decide +kernel
theorem dX4_dueBehindFirst_4 : decode cX4_dueBehindFirst 4 = .ok (.ifCond .eq 5, 3) := by decide +kernel
theorem dX4_dueBehindFirst_7 : decode cX4_dueBehindFirst 7 = .ok (.iconst 2, 1) := by decide +kernel
theorem dX4_dueBehindFirst_8 : decode cX4_dueBehindFirst 8 = .ok (.ireturn, 1) := by decide +kernel
theorem dX4_dueBehindFirst_9 : decode cX4_dueBehindFirst 9 = .ok (.iload_n 0, 1) := by decide +kernel
theorem dX4_dueBehindFirst_10 : decode cX4_dueBehindFirst 10 = .ok (.lookupswitch 41 #[(45, 36), (60, 38), (114, 34)], 34) := by decide +kernel
theorem dX4_dueBehindFirst_44 : decode cX4_dueBehindFirst 44 = .ok (.iconst 1, 1) := by decide +kernel
theorem dX4_dueBehindFirst_45 : decode cX4_dueBehindFirst 45 = .ok (.ireturn, 1) := by decide +kernel
theorem dX4_dueBehindFirst_46 : decode cX4_dueBehindFirst 46 = .ok (.iconst 3, 1) := by decide +kernel
theorem dX4_dueBehindFirst_47 : decode cX4_dueBehindFirst 47 = .ok (.ireturn, 1) := by decide +kernel
theorem dX4_dueBehindFirst_48 : decode cX4_dueBehindFirst 48 = .ok (.bipush 6, 2) := by decide +kernel
theorem dX4_dueBehindFirst_50 : decode cX4_dueBehindFirst 50 = .ok (.ireturn, 1) := by decide +kernel
theorem dX4_dueBehindFirst_51 : decode cX4_dueBehindFirst 51 = .ok (.bipush 7, 2) := by decide +kernel
theorem dX4_dueBehindFirst_53 : decode cX4_dueBehindFirst 53 = .ok (.ireturn, 1) := by decide +kernel
theorem dX4_dueBehindLengthDigit_0 : decode cX4_dueBehindLengthDigit 0 = .ok (.iload_n 0, 1) := by decide +kernel
theorem dX4_dueBehindLengthDigit_1 : decode cX4_dueBehindLengthDigit 1 = .ok (.bipush 54, 2) := by decide +kernel
theorem dX4_dueBehindLengthDigit_3 : decode cX4_dueBehindLengthDigit 3 = .ok (.if_icmp .ne 5, 3) := by decide +kernel
theorem dX4_dueBehindLengthDigit_6 : decode cX4_dueBehindLengthDigit 6 = .ok (.iconst 5, 1) := by decide +kernel
theorem dX4_dueBehindLengthDigit_7 : decode cX4_dueBehindLengthDigit 7 = .ok (.ireturn, 1) := by decide +kernel
theorem dX4_dueBehindLengthDigit_8 : decode cX4_dueBehindLengthDigit 8 = .ok (.iload_n 0, 1) := by decide +kernel
theorem dX4_dueBehindLengthDigit_9 : decode cX4_dueBehindLengthDigit 9 = .ok (.bipush 49, 2) := by decide +kernel
theorem dX4_dueBehindLengthDigit_11 : decode cX4_dueBehindLengthDigit 11 = .ok (.bipush 53, 2) := by decide +kernel
theorem dX4_dueBehindLengthDigit_13 : decode cX4_dueBehindLengthDigit 13 = .ok (.invokestatic 40, 3) := by decide +kernel
theorem dX4_dueBehindLengthDigit_16 : decode cX4_dueBehindLengthDigit 16 = .ok (.ifCond .eq 5, 3) := by decide +kernel
theorem dX4_dueBehindLengthDigit_19 : decode cX4_dueBehindLengthDigit 19 = .ok (.iconst 4, 1) := by decide +kernel
theorem dX4_dueBehindLengthDigit_20 : decode cX4_dueBehindLengthDigit 20 = .ok (.ireturn, 1) := by decide +kernel
theorem dX4_dueBehindLengthDigit_21 : decode cX4_dueBehindLengthDigit 21 = .ok (.iload_n 0, 1) := by decide +kernel
theorem dX4_dueBehindLengthDigit_22 : decode cX4_dueBehindLengthDigit 22 = .ok (.bipush 55, 2) := by decide +kernel
theorem dX4_dueBehindLengthDigit_24 : decode cX4_dueBehindLengthDigit 24 = .ok (.bipush 57, 2) := by decide +kernel
theorem dX4_dueBehindLengthDigit_26 : decode cX4_dueBehindLengthDigit 26 = .ok (.invokestatic 40, 3) := by decide +kernel
theorem dX4_dueBehindLengthDigit_29 : decode cX4_dueBehindLengthDigit 29 = .ok (.ifCond .eq 8, 3) := by decide +kernel
theorem dX4_dueBehindLengthDigit_32 : decode cX4_dueBehindLengthDigit 32 = .ok (.bipush 6, 2) := by decide +kernel
theorem dX4_dueBehindLengthDigit_34 : decode cX4_dueBehindLengthDigit 34 = .ok (.goto 5, 3) := by decide +kernel
theorem dX4_dueBehindLengthDigit_37 : decode cX4_dueBehindLengthDigit 37 = .ok (.bipush 7, 2) := by decide +kernel
theorem dX4_dueBehindLengthDigit_39 : decode cX4_dueBehindLengthDigit 39 = .ok (.ireturn, 1) := by decide +kernel
theorem dX4_dueBehindPhaseDigit_0 : decode cX4_dueBehindPhaseDigit 0 = .ok (.iload_n 0, 1) := by decide +kernel
theorem dX4_dueBehindPhaseDigit_1 : decode cX4_dueBehindPhaseDigit 1 = .ok (.bipush 49, 2) := by decide +kernel
theorem dX4_dueBehindPhaseDigit_3 : decode cX4_dueBehindPhaseDigit 3 = .ok (.if_icmp .ne 5, 3) := by decide +kernel
theorem dX4_dueBehindPhaseDigit_6 : decode cX4_dueBehindPhaseDigit 6 = .ok (.iconst 4, 1) := by decide +kernel
theorem dX4_dueBehindPhaseDigit_7 : decode cX4_dueBehindPhaseDigit 7 = .ok (.ireturn, 1) := by decide +kernel
theorem dX4_dueBehindPhaseDigit_8 : decode cX4_dueBehindPhaseDigit 8 = .ok (.iload_n 0, 1) := by decide +kernel
theorem dX4_dueBehindPhaseDigit_9 : decode cX4_dueBehindPhaseDigit 9 = .ok (.bipush 48, 2) := by decide +kernel
theorem dX4_dueBehindPhaseDigit_11 : decode cX4_dueBehindPhaseDigit 11 = .ok (.bipush 57, 2) := by decide +kernel
theorem dX4_dueBehindPhaseDigit_13 : decode cX4_dueBehindPhaseDigit 13 = .ok (.invokestatic 40, 3) := by decide +kernel
theorem dX4_dueBehindPhaseDigit_16 : decode cX4_dueBehindPhaseDigit 16 = .ok (.ifCond .eq 8, 3) := by decide +kernel
theorem dX4_dueBehindPhaseDigit_19 : decode cX4_dueBehindPhaseDigit 19 = .ok (.bipush 6, 2) := by decide +kernel
theorem dX4_dueBehindPhaseDigit_21 : decode cX4_dueBehindPhaseDigit 21 = .ok (.goto 5, 3) := by decide +kernel
theorem dX4_dueBehindPhaseDigit_24 : decode cX4_dueBehindPhaseDigit 24 = .ok (.bipush 7, 2) := by decide +kernel
theorem dX4_dueBehindPhaseDigit_26 : decode cX4_dueBehindPhaseDigit 26 = .ok (.ireturn, 1) := by decide +kernel
theorem dX4_dueBehindComma_0 : decode cX4_dueBehindComma 0 = .ok (.iload_n 0, 1) := by decide +kernel
theorem dX4_dueBehindComma_1 : decode cX4_dueBehindComma 1 = .ok (.bipush 44, 2) := by decide +kernel
theorem dX4_dueBehindComma_3 : decode cX4_dueBehindComma 3 = .ok (.if_icmp .ne 7, 3) := by decide +kernel
theorem dX4_dueBehindComma_6 : decode cX4_dueBehindComma 6 = .ok (.iconst 0, 1) := by decide +kernel
theorem dX4_dueBehindComma_7 : decode cX4_dueBehindComma 7 = .ok (.goto 5, 3) := by decide +kernel
theorem dX4_dueBehindComma_10 : decode cX4_dueBehindComma 10 = .ok (.bipush 7, 2) := by decide +kernel
theorem dX4_dueBehindComma_12 : decode cX4_dueBehindComma 12 = .ok (.ireturn, 1) := by decide +kernel
theorem dX4_isHue_0 : decode cX4_isHue 0 = .ok (.iload_n 0, 1) := by decide +kernel
theorem dX4_isHue_1 : decode cX4_isHue 1 = .ok (.bipush 97, 2) := by decide +kernel
theorem dX4_isHue_3 : decode cX4_isHue 3 = .ok (.bipush 104, 2) := by decide +kernel
theorem dX4_isHue_5 : decode cX4_isHue 5 = .ok (.invokestatic 40, 3) := by decide +kernel
theorem dX4_isHue_8 : decode cX4_isHue 8 = .ok (.ireturn, 1) := by decide +kernel
theorem dX4_isBetween_0 : decode cX4_isBetween 0 = .ok (.iload_n 0, 1) := by decide +kernel
theorem dX4_isBetween_1 : decode cX4_isBetween 1 = .ok (.iload_n 1, 1) := by decide +kernel
theorem dX4_isBetween_2 : decode cX4_isBetween 2 = .ok (.if_icmp .lt 12, 3) := by decide +kernel
theorem dX4_isBetween_5 : decode cX4_isBetween 5 = .ok (.iload_n 0, 1) := by decide +kernel
theorem dX4_isBetween_6 : decode cX4_isBetween 6 = .ok (.iload_n 2, 1) := by decide +kernel
theorem dX4_isBetween_7 : decode cX4_isBetween 7 = .ok (.if_icmp .gt 7, 3) := by decide +kernel
theorem dX4_isBetween_10 : decode cX4_isBetween 10 = .ok (.iconst 1, 1) := by decide +kernel
theorem dX4_isBetween_11 : decode cX4_isBetween 11 = .ok (.goto 4, 3) := by decide +kernel
theorem dX4_isBetween_14 : decode cX4_isBetween 14 = .ok (.iconst 0, 1) := by decide +kernel
theorem dX4_isBetween_15 : decode cX4_isBetween 15 = .ok (.ireturn, 1) := by decide +kernel
theorem dX5_init_0 : decode cX5_init 0 = .ok (.aload_n 0, 1) := by decide +kernel
theorem dX5_init_1 : decode cX5_init 1 = .ok (.invokespecial 1, 3) := by decide +kernel
theorem dX5_init_4 : decode cX5_init 4 = .ok (.aload_n 0, 1) := by decide +kernel
theorem dX5_init_5 : decode cX5_init 5 = .ok (.new 7, 3) := by decide +kernel
theorem dX5_init_8 : decode cX5_init 8 = .ok (.dup, 1) := by decide +kernel
theorem dX5_init_9 : decode cX5_init 9 = .ok (.invokespecial 9, 3) := by decide +kernel
theorem dX5_init_12 : decode cX5_init 12 = .ok (.putfield 10, 3) := by decide +kernel
theorem dX5_init_15 : decode cX5_init 15 = .ok (.aload_n 0, 1) := by decide +kernel
theorem dX5_init_16 : decode cX5_init 16 = .ok (.new 7, 3) := by decide +kernel
theorem dX5_init_19 : decode cX5_init 19 = .ok (.dup, 1) := by decide +kernel
theorem dX5_init_20 : decode cX5_init 20 = .ok (.invokespecial 9, 3) := by decide +kernel
theorem dX5_init_23 : decode cX5_init 23 = .ok (.putfield 16, 3) := by decide +kernel
theorem dX5_init_26 : decode cX5_init 26 = .ok (.aload_n 0, 1) := by decide +kernel
theorem dX5_init_27 : decode cX5_init 27 = .ok (.new 19, 3) := by decide +kernel
theorem dX5_init_30 : decode cX5_init 30 = .ok (.dup, 1) := by decide +kernel
theorem dX5_init_31 : decode cX5_init 31 = .ok (.invokespecial 21, 3) := by decide +kernel
theorem dX5_init_34 : decode cX5_init 34 = .ok (.putfield 22, 3) := by decide +kernel
theorem dX5_init_37 : decode cX5_init 37 = .ok (.aload_n 0, 1) := by decide +kernel
theorem dX5_init_38 : decode cX5_init 38 = .ok (.new 26, 3) := by decide +kernel
theorem dX5_init_41 : decode cX5_init 41 = .ok (.dup, 1) := by decide +kernel
theorem dX5_init_42 : decode cX5_init 42 = .ok (.invokespecial 28, 3) := by decide +kernel
theorem dX5_init_45 : decode cX5_init 45 = .ok (.putfield 29, 3) := by decide +kernel
theorem dX5_init_48 : decode cX5_init 48 = .ok (.aload_n 0, 1) := by decide +kernel
theorem dX5_init_49 : decode cX5_init 49 = .ok (.new 33, 3) := by decide +kernel
theorem dX5_init_52 : decode cX5_init 52 = .ok (.dup, 1) := by decide +kernel
theorem dX5_init_53 : decode cX5_init 53 = .ok (.invokespecial 35, 3) := by decide +kernel
theorem dX5_init_56 : decode cX5_init 56 = .ok (.putfield 36, 3) := by decide +kernel
theorem dX5_init_59 : decode cX5_init 59 = .ok (.aload_n 0, 1) := by decide +kernel
theorem dX5_init_60 : decode cX5_init 60 = .ok (.iconst 0, 1) := by decide +kernel
theorem dX5_init_61 : decode cX5_init 61 = .ok (.putfield 40, 3) := by decide +kernel
theorem dX5_init_64 : decode cX5_init 64 = .ok (.return_, 1) := by decide +kernel
theorem dX5_gap_0 : decode cX5_gap 0 = .ok (.aload_n 0, 1) := by decide +kernel
theorem dX5_gap_1 : decode cX5_gap 1 = .ok (.iload_n 1, 1) := by decide +kernel
theorem dX5_gap_2 : decode cX5_gap 2 = .ok (.invokevirtual 44, 3) := by decide +kernel
theorem dX5_gap_5 : decode cX5_gap 5 = .ok (.iload_n 2, 1) := by decide +kernel
theorem dX5_gap_6 : decode cX5_gap 6 = .ok (.iconst 2, 1) := by decide +kernel
theorem dX5_gap_7 : decode cX5_gap 7 = .ok (.if_icmp .lt 9, 3) := by decide +kernel
theorem dX5_gap_10 : decode cX5_gap 10 = .ok (.iload_n 2, 1) := by decide +kernel
theorem dX5_gap_11 : decode cX5_gap 11 = .ok (.bipush 20, 2) := by decide +kernel
theorem dX5_gap_13 : decode cX5_gap 13 = .ok (.if_icmp .le 13, 3) := by decide +kernel
theorem dX5_gap_16 : decode cX5_gap 16 = .ok (.new 48, 3) := by decide +kernel
theorem dX5_gap_19 : decode cX5_gap 19 = .ok (.dup, 1) := by decide +kernel
theorem dX5_gap_20 : decode cX5_gap 20 = .ok (.ldc 50, 2) := by decide +kernel
theorem dX5_gap_22 : decode cX5_gap 22 = .ok (.invokespecial 52, 3) := by decide +kernel
theorem dX5_gap_25 : decode cX5_gap 25 = .ok (.athrow, 1) := by decide +kernel
theorem dX5_gap_26 : decode cX5_gap 26 = .ok (.aload_n 0, 1) := by decide +kernel
theorem dX5_gap_27 : decode cX5_gap 27 = .ok (.getfield 10, 3) := by decide +kernel
theorem dX5_gap_30 : decode cX5_gap 30 = .ok (.iload_n 1, 1) := by decide +kernel
theorem dX5_gap_31 : decode cX5_gap 31 = .ok (.invokevirtual 55, 3) := by decide +kernel
theorem dX5_gap_34 : decode cX5_gap 34 = .ok (.ifCond .eq 13, 3) := by decide +kernel
theorem dX5_gap_37 : decode cX5_gap 37 = .ok (.new 59, 3) := by decide +kernel
theorem dX5_gap_40 : decode cX5_gap 40 = .ok (.dup, 1) := by decide +kernel
theorem dX5_gap_41 : decode cX5_gap 41 = .ok (.ldc 61, 2) := by decide +kernel
theorem dX5_gap_43 : decode cX5_gap 43 = .ok (.invokespecial 63, 3) := by decide +kernel
theorem dX5_gap_46 : decode cX5_gap 46 = .ok (.athrow, 1) := by decide +kernel
theorem dX5_gap_47 : decode cX5_gap 47 = .ok (.aload_n 0, 1) := by decide +kernel
theorem dX5_gap_48 : decode cX5_gap 48 = .ok (.getfield 22, 3) := by decide +kernel
theorem dX5_gap_51 : decode cX5_gap 51 = .ok (.aload_n 0, 1) := by decide +kernel
theorem dX5_gap_52 : decode cX5_gap 52 = .ok (.getfield 10, 3) := by decide +kernel
theorem dX5_gap_55 : decode cX5_gap 55 = .ok (.invokevirtual 64, 3) := by decide +kernel
theorem dX5_gap_58 : decode cX5_gap 58 = .ok (.aload_n 0, 1) := by decide +kernel
theorem dX5_gap_59 : decode cX5_gap 59 = .ok (.getfield 10, 3) := by decide +kernel
theorem dX5_gap_62 : decode cX5_gap 62 = .ok (.iload_n 1, 1) := by decide +kernel
theorem dX5_gap_63 : decode cX5_gap 63 = .ok (.invokevirtual 68, 3) := by decide +kernel
theorem dX5_gap_66 : decode cX5_gap 66 = .ok (.istore_n 3, 1) := by decide +kernel
theorem dX5_gap_67 : decode cX5_gap 67 = .ok (.aload_n 0, 1) := by decide +kernel
theorem dX5_gap_68 : decode cX5_gap 68 = .ok (.getfield 10, 3) := by decide +kernel
theorem dX5_gap_71 : decode cX5_gap 71 = .ok (.iload_n 1, 1) := by decide +kernel
theorem dX5_gap_72 : decode cX5_gap 72 = .ok (.iload_n 2, 1) := by decide +kernel
theorem dX5_gap_73 : decode cX5_gap 73 = .ok (.invokevirtual 72, 3) := by decide +kernel
theorem dX5_gap_76 : decode cX5_gap 76 = .ok (.iload_n 3, 1) := by decide +kernel
theorem dX5_gap_77 : decode cX5_gap 77 = .ok (.ireturn, 1) := by decide +kernel
theorem dX5_rope_0 : decode cX5_rope 0 = .ok (.aload_n 0, 1) := by decide +kernel
theorem dX5_rope_1 : decode cX5_rope 1 = .ok (.iload_n 1, 1) := by decide +kernel
theorem dX5_rope_2 : decode cX5_rope 2 = .ok (.invokevirtual 76, 3) := by decide +kernel
theorem dX5_rope_5 : decode cX5_rope 5 = .ok (.aload_n 0, 1) := by decide +kernel
theorem dX5_rope_6 : decode cX5_rope 6 = .ok (.invokevirtual 79, 3) := by decide +kernel
theorem dX5_rope_9 : decode cX5_rope 9 = .ok (.aload_n 0, 1) := by decide +kernel
theorem dX5_rope_10 : decode cX5_rope 10 = .ok (.getfield 22, 3) := by decide +kernel
theorem dX5_rope_13 : decode cX5_rope 13 = .ok (.aload_n 0, 1) := by decide +kernel
theorem dX5_rope_14 : decode cX5_rope 14 = .ok (.getfield 10, 3) := by decide +kernel
theorem dX5_rope_17 : decode cX5_rope 17 = .ok (.invokevirtual 64, 3) := by decide +kernel
theorem dX5_rope_20 : decode cX5_rope 20 = .ok (.aload_n 0, 1) := by decide +kernel
theorem dX5_rope_21 : decode cX5_rope 21 = .ok (.getfield 10, 3) := by decide +kernel
theorem dX5_rope_24 : decode cX5_rope 24 = .ok (.iload_n 1, 1) := by decide +kernel
theorem dX5_rope_25 : decode cX5_rope 25 = .ok (.invokevirtual 82, 3) := by decide +kernel
theorem dX5_rope_28 : decode cX5_rope 28 = .ok (.pop, 1) := by decide +kernel
theorem dX5_rope_29 : decode cX5_rope 29 = .ok (.aload_n 0, 1) := by decide +kernel
theorem dX5_rope_30 : decode cX5_rope 30 = .ok (.getfield 10, 3) := by decide +kernel
theorem dX5_rope_33 : decode cX5_rope 33 = .ok (.invokevirtual 86, 3) := by decide +kernel
theorem dX5_rope_36 : decode cX5_rope 36 = .ok (.iconst 1, 1) := by decide +kernel
theorem dX5_rope_37 : decode cX5_rope 37 = .ok (.isub, 1) := by decide +kernel
theorem dX5_rope_38 : decode cX5_rope 38 = .ok (.ireturn, 1) := by decide +kernel
theorem dX5_drop_0 : decode cX5_drop 0 = .ok (.aload_n 0, 1) := by decide +kernel
theorem dX5_drop_1 : decode cX5_drop 1 = .ok (.iload_n 1, 1) := by decide +kernel
theorem dX5_drop_2 : decode cX5_drop 2 = .ok (.invokevirtual 90, 3) := by decide +kernel
theorem dX5_drop_5 : decode cX5_drop 5 = .ok (.pop, 1) := by decide +kernel
theorem dX5_drop_6 : decode cX5_drop 6 = .ok (.aload_n 0, 1) := by decide +kernel
theorem dX5_drop_7 : decode cX5_drop 7 = .ok (.getfield 22, 3) := by decide +kernel
theorem dX5_drop_10 : decode cX5_drop 10 = .ok (.aload_n 0, 1) := by decide +kernel
theorem dX5_drop_11 : decode cX5_drop 11 = .ok (.getfield 10, 3) := by decide +kernel
theorem dX5_drop_14 : decode cX5_drop 14 = .ok (.invokevirtual 64, 3) := by decide +kernel
theorem dX5_drop_17 : decode cX5_drop 17 = .ok (.aload_n 0, 1) := by decide +kernel
theorem dX5_drop_18 : decode cX5_drop 18 = .ok (.getfield 10, 3) := by decide +kernel
theorem dX5_drop_21 : decode cX5_drop 21 = .ok (.iload_n 1, 1) := by decide +kernel
theorem dX5_drop_22 : decode cX5_drop 22 = .ok (.invokevirtual 93, 3) := by decide +kernel
theorem dX5_drop_25 : decode cX5_drop 25 = .ok (.aload_n 0, 1) := by decide +kernel
theorem dX5_drop_26 : decode cX5_drop 26 = .ok (.getfield 10, 3) := by decide +kernel
theorem dX5_drop_29 : decode cX5_drop 29 = .ok (.invokevirtual 86, 3) := by decide +kernel
theorem dX5_drop_32 : decode cX5_drop 32 = .ok (.ireturn, 1) := by decide +kernel
theorem dX5_lay_0 : decode cX5_lay 0 = .ok (.aload_n 0, 1) := by decide +kernel
theorem dX5_lay_1 : decode cX5_lay 1 = .ok (.iload_n 1, 1) := by decide +kernel
theorem dX5_lay_2 : decode cX5_lay 2 = .ok (.invokevirtual 90, 3) := by decide +kernel
theorem dX5_lay_5 : decode cX5_lay 5 = .ok (.astore 4, 2) := by decide +kernel
theorem dX5_lay_7 : decode cX5_lay 7 = .ok (.aload_n 0, 1) := by decide +kernel
theorem dX5_lay_8 : decode cX5_lay 8 = .ok (.iload_n 2, 1) := by decide +kernel
theorem dX5_lay_9 : decode cX5_lay 9 = .ok (.invokevirtual 44, 3) := by decide +kernel
theorem dX5_lay_12 : decode cX5_lay 12 = .ok (.aload_n 0, 1) := by decide +kernel
theorem dX5_lay_13 : decode cX5_lay 13 = .ok (.iload_n 2, 1) := by decide +kernel
theorem dX5_lay_14 : decode cX5_lay 14 = .ok (.iload_n 3, 1) := by decide +kernel
theorem dX5_lay_15 : decode cX5_lay 15 = .ok (.invokevirtual 96, 3) := by decide +kernel
theorem dX5_lay_18 : decode cX5_lay 18 = .ok (.aload 4, 2) := by decide +kernel
theorem dX5_lay_20 : decode cX5_lay 20 = .ok (.iload_n 2, 1) := by decide +kernel
theorem dX5_lay_21 : decode cX5_lay 21 = .ok (.iload_n 3, 1) := by decide +kernel
theorem dX5_lay_22 : decode cX5_lay 22 = .ok (.aload_n 0, 1) := by decide +kernel
theorem dX5_lay_23 : decode cX5_lay 23 = .ok (.getfield 10, 3) := by decide +kernel
theorem dX5_lay_26 : decode cX5_lay 26 = .ok (.iload_n 2, 1) := by decide +kernel
theorem dX5_lay_27 : decode cX5_lay 27 = .ok (.invokevirtual 68, 3) := by decide +kernel
theorem dX5_lay_30 : decode cX5_lay 30 = .ok (.invokevirtual 99, 3) := by decide +kernel
theorem dX5_lay_33 : decode cX5_lay 33 = .ok (.ifCond .eq 13, 3) := by decide +kernel
theorem dX5_lay_36 : decode cX5_lay 36 = .ok (.new 59, 3) := by decide +kernel
theorem dX5_lay_39 : decode cX5_lay 39 = .ok (.dup, 1) := by decide +kernel
theorem dX5_lay_40 : decode cX5_lay 40 = .ok (.ldc 103, 2) := by decide +kernel
theorem dX5_lay_42 : decode cX5_lay 42 = .ok (.invokespecial 63, 3) := by decide +kernel
theorem dX5_lay_45 : decode cX5_lay 45 = .ok (.athrow, 1) := by decide +kernel
theorem dX5_lay_46 : decode cX5_lay 46 = .ok (.aload_n 0, 1) := by decide +kernel
theorem dX5_lay_47 : decode cX5_lay 47 = .ok (.getfield 22, 3) := by decide +kernel
theorem dX5_lay_50 : decode cX5_lay 50 = .ok (.aload_n 0, 1) := by decide +kernel
theorem dX5_lay_51 : decode cX5_lay 51 = .ok (.getfield 10, 3) := by decide +kernel
theorem dX5_lay_54 : decode cX5_lay 54 = .ok (.invokevirtual 64, 3) := by decide +kernel
theorem dX5_lay_57 : decode cX5_lay 57 = .ok (.aload_n 0, 1) := by decide +kernel
theorem dX5_lay_58 : decode cX5_lay 58 = .ok (.getfield 10, 3) := by decide +kernel
theorem dX5_lay_61 : decode cX5_lay 61 = .ok (.aload 4, 2) := by decide +kernel
theorem dX5_lay_63 : decode cX5_lay 63 = .ok (.iload_n 2, 1) := by decide +kernel
theorem dX5_lay_64 : decode cX5_lay 64 = .ok (.iload_n 3, 1) := by decide +kernel
theorem dX5_lay_65 : decode cX5_lay 65 = .ok (.invokevirtual 105, 3) := by decide +kernel
theorem dX5_lay_68 : decode cX5_lay 68 = .ok (.ireturn, 1) := by decide +kernel
theorem dX5_take_0 : decode cX5_take 0 = .ok (.aload_n 0, 1) := by decide +kernel
theorem dX5_take_1 : decode cX5_take 1 = .ok (.iload_n 1, 1) := by decide +kernel
theorem dX5_take_2 : decode cX5_take 2 = .ok (.invokevirtual 90, 3) := by decide +kernel
theorem dX5_take_5 : decode cX5_take 5 = .ok (.astore_n 3, 1) := by decide +kernel
theorem dX5_take_6 : decode cX5_take 6 = .ok (.aload_n 0, 1) := by decide +kernel
theorem dX5_take_7 : decode cX5_take 7 = .ok (.iload_n 2, 1) := by decide +kernel
theorem dX5_take_8 : decode cX5_take 8 = .ok (.invokevirtual 44, 3) := by decide +kernel
theorem dX5_take_11 : decode cX5_take 11 = .ok (.aload_n 3, 1) := by decide +kernel
theorem dX5_take_12 : decode cX5_take 12 = .ok (.iload_n 2, 1) := by decide +kernel
theorem dX5_take_13 : decode cX5_take 13 = .ok (.invokevirtual 109, 3) := by decide +kernel
theorem dX5_take_16 : decode cX5_take 16 = .ok (.iconst (-1), 1) := by decide +kernel
theorem dX5_take_17 : decode cX5_take 17 = .ok (.if_icmp .ne 13, 3) := by decide +kernel
theorem dX5_take_20 : decode cX5_take 20 = .ok (.new 59, 3) := by decide +kernel
theorem dX5_take_23 : decode cX5_take 23 = .ok (.dup, 1) := by decide +kernel
theorem dX5_take_24 : decode cX5_take 24 = .ok (.ldc 112, 2) := by decide +kernel
theorem dX5_take_26 : decode cX5_take 26 = .ok (.invokespecial 63, 3) := by decide +kernel
theorem dX5_take_29 : decode cX5_take 29 = .ok (.athrow, 1) := by decide +kernel
theorem dX5_take_30 : decode cX5_take 30 = .ok (.aload_n 0, 1) := by decide +kernel
theorem dX5_take_31 : decode cX5_take 31 = .ok (.getfield 22, 3) := by decide +kernel
theorem dX5_take_34 : decode cX5_take 34 = .ok (.aload_n 0, 1) := by decide +kernel
theorem dX5_take_35 : decode cX5_take 35 = .ok (.getfield 10, 3) := by decide +kernel
theorem dX5_take_38 : decode cX5_take 38 = .ok (.invokevirtual 64, 3) := by decide +kernel
theorem dX5_take_41 : decode cX5_take 41 = .ok (.aload_n 3, 1) := by decide +kernel
theorem dX5_take_42 : decode cX5_take 42 = .ok (.iload_n 2, 1) := by decide +kernel
theorem dX5_take_43 : decode cX5_take 43 = .ok (.invokevirtual 114, 3) := by decide +kernel
theorem dX5_take_46 : decode cX5_take 46 = .ok (.ireturn, 1) := by decide +kernel
theorem dX5_stretch_0 : decode cX5_stretch 0 = .ok (.aload_n 0, 1) := by decide +kernel
theorem dX5_stretch_1 : decode cX5_stretch 1 = .ok (.iload_n 1, 1) := by decide +kernel
theorem dX5_stretch_2 : decode cX5_stretch 2 = .ok (.invokevirtual 90, 3) := by decide +kernel
theorem dX5_stretch_5 : decode cX5_stretch 5 = .ok (.astore_n 3, 1) := by decide +kernel
theorem dX5_stretch_6 : decode cX5_stretch 6 = .ok (.aload_n 0, 1) := by decide +kernel
theorem dX5_stretch_7 : decode cX5_stretch 7 = .ok (.iload_n 2, 1) := by decide +kernel
theorem dX5_stretch_8 : decode cX5_stretch 8 = .ok (.invokevirtual 76, 3) := by decide +kernel
theorem dX5_stretch_11 : decode cX5_stretch 11 = .ok (.iload_n 2, 1) := by decide +kernel
theorem dX5_stretch_12 : decode cX5_stretch 12 = .ok (.aload_n 0, 1) := by decide +kernel
theorem dX5_stretch_13 : decode cX5_stretch 13 = .ok (.aload_n 3, 1) := by decide +kernel
theorem dX5_stretch_14 : decode cX5_stretch 14 = .ok (.invokevirtual 117, 3) := by decide +kernel
theorem dX5_stretch_17 : decode cX5_stretch 17 = .ok (.if_icmp .le 13, 3) := by decide +kernel
theorem dX5_stretch_20 : decode cX5_stretch 20 = .ok (.new 59, 3) := by decide +kernel
theorem dX5_stretch_23 : decode cX5_stretch 23 = .ok (.dup, 1) := by decide +kernel
theorem dX5_stretch_24 : decode cX5_stretch 24 = .ok (.ldc 121, 2) := by decide +kernel
theorem dX5_stretch_26 : decode cX5_stretch 26 = .ok (.invokespecial 63, 3) := by decide +kernel
theorem dX5_stretch_29 : decode cX5_stretch 29 = .ok (.athrow, 1) := by decide +kernel
theorem dX5_stretch_30 : decode cX5_stretch 30 = .ok (.aload_n 0, 1) := by decide +kernel
theorem dX5_stretch_31 : decode cX5_stretch 31 = .ok (.getfield 22, 3) := by decide +kernel
theorem dX5_stretch_34 : decode cX5_stretch 34 = .ok (.aload_n 0, 1) := by decide +kernel
theorem dX5_stretch_35 : decode cX5_stretch 35 = .ok (.getfield 10, 3) := by decide +kernel
theorem dX5_stretch_38 : decode cX5_stretch 38 = .ok (.invokevirtual 64, 3) := by decide +kernel
theorem dX5_stretch_41 : decode cX5_stretch 41 = .ok (.aload_n 3, 1) := by decide +kernel
theorem dX5_stretch_42 : decode cX5_stretch 42 = .ok (.invokevirtual 123, 3) := by decide +kernel
theorem dX5_stretch_45 : decode cX5_stretch 45 = .ok (.istore 4, 2) := by decide +kernel
theorem dX5_stretch_47 : decode cX5_stretch 47 = .ok (.aload_n 0, 1) := by decide +kernel
theorem dX5_stretch_48 : decode cX5_stretch 48 = .ok (.aload_n 3, 1) := by decide +kernel
theorem dX5_stretch_49 : decode cX5_stretch 49 = .ok (.iload_n 2, 1) := by decide +kernel
theorem dX5_stretch_50 : decode cX5_stretch 50 = .ok (.invokevirtual 126, 3) := by decide +kernel
theorem dX5_stretch_53 : decode cX5_stretch 53 = .ok (.iload 4, 2) := by decide +kernel
theorem dX5_stretch_55 : decode cX5_stretch 55 = .ok (.aload_n 3, 1) := by decide +kernel
theorem dX5_stretch_56 : decode cX5_stretch 56 = .ok (.invokevirtual 123, 3) := by decide +kernel
theorem dX5_stretch_59 : decode cX5_stretch 59 = .ok (.isub, 1) := by decide +kernel
theorem dX5_stretch_60 : decode cX5_stretch 60 = .ok (.ireturn, 1) := by decide +kernel
theorem dX5_cut_0 : decode cX5_cut 0 = .ok (.aload_n 0, 1) := by decide +kernel
theorem dX5_cut_1 : decode cX5_cut 1 = .ok (.iload_n 1, 1) := by decide +kernel
theorem dX5_cut_2 : decode cX5_cut 2 = .ok (.invokevirtual 90, 3) := by decide +kernel
theorem dX5_cut_5 : decode cX5_cut 5 = .ok (.astore_n 3, 1) := by decide +kernel
theorem dX5_cut_6 : decode cX5_cut 6 = .ok (.iload_n 2, 1) := by decide +kernel
theorem dX5_cut_7 : decode cX5_cut 7 = .ok (.iconst 1, 1) := by decide +kernel
theorem dX5_cut_8 : decode cX5_cut 8 = .ok (.if_icmp .lt 13, 3) := by decide +kernel
theorem dX5_cut_11 : decode cX5_cut 11 = .ok (.iload_n 2, 1) := by decide +kernel
theorem dX5_cut_12 : decode cX5_cut 12 = .ok (.aload_n 3, 1) := by decide +kernel
theorem dX5_cut_13 : decode cX5_cut 13 = .ok (.invokevirtual 130, 3) := by decide +kernel
theorem dX5_cut_16 : decode cX5_cut 16 = .ok (.iconst 1, 1) := by decide +kernel
theorem dX5_cut_17 : decode cX5_cut 17 = .ok (.isub, 1) := by decide +kernel
theorem dX5_cut_18 : decode cX5_cut 18 = .ok (.if_icmp .le 13, 3) := by decide +kernel
theorem dX5_cut_21 : decode cX5_cut 21 = .ok (.new 48, 3) := by decide +kernel
theorem dX5_cut_24 : decode cX5_cut 24 = .ok (.dup, 1) := by decide +kernel
theorem dX5_cut_25 : decode cX5_cut 25 = .ok (.ldc 133, 2) := by decide +kernel
theorem dX5_cut_27 : decode cX5_cut 27 = .ok (.invokespecial 52, 3) := by decide +kernel
theorem dX5_cut_30 : decode cX5_cut 30 = .ok (.athrow, 1) := by decide +kernel
theorem dX5_cut_31 : decode cX5_cut 31 = .ok (.aload_n 0, 1) := by decide +kernel
theorem dX5_cut_32 : decode cX5_cut 32 = .ok (.invokevirtual 79, 3) := by decide +kernel
theorem dX5_cut_35 : decode cX5_cut 35 = .ok (.aload_n 0, 1) := by decide +kernel
theorem dX5_cut_36 : decode cX5_cut 36 = .ok (.getfield 22, 3) := by decide +kernel
theorem dX5_cut_39 : decode cX5_cut 39 = .ok (.aload_n 0, 1) := by decide +kernel
theorem dX5_cut_40 : decode cX5_cut 40 = .ok (.getfield 10, 3) := by decide +kernel
theorem dX5_cut_43 : decode cX5_cut 43 = .ok (.invokevirtual 64, 3) := by decide +kernel
theorem dX5_cut_46 : decode cX5_cut 46 = .ok (.aload_n 0, 1) := by decide +kernel
theorem dX5_cut_47 : decode cX5_cut 47 = .ok (.getfield 10, 3) := by decide +kernel
theorem dX5_cut_50 : decode cX5_cut 50 = .ok (.aload_n 3, 1) := by decide +kernel
theorem dX5_cut_51 : decode cX5_cut 51 = .ok (.invokevirtual 130, 3) := by decide +kernel
theorem dX5_cut_54 : decode cX5_cut 54 = .ok (.iload_n 2, 1) := by decide +kernel
theorem dX5_cut_55 : decode cX5_cut 55 = .ok (.isub, 1) := by decide +kernel
theorem dX5_cut_56 : decode cX5_cut 56 = .ok (.invokevirtual 82, 3) := by decide +kernel
theorem dX5_cut_59 : decode cX5_cut 59 = .ok (.astore 4, 2) := by decide +kernel
theorem dX5_cut_61 : decode cX5_cut 61 = .ok (.aload 4, 2) := by decide +kernel
theorem dX5_cut_63 : decode cX5_cut 63 = .ok (.ifnull 11, 3) := by decide +kernel
theorem dX5_cut_66 : decode cX5_cut 66 = .ok (.aload_n 0, 1) := by decide +kernel
theorem dX5_cut_67 : decode cX5_cut 67 = .ok (.aload_n 3, 1) := by decide +kernel
theorem dX5_cut_68 : decode cX5_cut 68 = .ok (.iload_n 2, 1) := by decide +kernel
theorem dX5_cut_69 : decode cX5_cut 69 = .ok (.aload 4, 2) := by decide +kernel
theorem dX5_cut_71 : decode cX5_cut 71 = .ok (.invokevirtual 135, 3) := by decide +kernel
theorem dX5_cut_74 : decode cX5_cut 74 = .ok (.aload_n 0, 1) := by decide +kernel
theorem dX5_cut_75 : decode cX5_cut 75 = .ok (.aload_n 3, 1) := by decide +kernel
theorem dX5_cut_76 : decode cX5_cut 76 = .ok (.iload_n 2, 1) := by decide +kernel
theorem dX5_cut_77 : decode cX5_cut 77 = .ok (.invokevirtual 126, 3) := by decide +kernel
theorem dX5_cut_80 : decode cX5_cut 80 = .ok (.aload_n 0, 1) := by decide +kernel
theorem dX5_cut_81 : decode cX5_cut 81 = .ok (.getfield 10, 3) := by decide +kernel
theorem dX5_cut_84 : decode cX5_cut 84 = .ok (.invokevirtual 139, 3) := by decide +kernel
theorem dX5_cut_87 : decode cX5_cut 87 = .ok (.aload_n 0, 1) := by decide +kernel
theorem dX5_cut_88 : decode cX5_cut 88 = .ok (.getfield 10, 3) := by decide +kernel
theorem dX5_cut_91 : decode cX5_cut 91 = .ok (.invokevirtual 86, 3) := by decide +kernel
theorem dX5_cut_94 : decode cX5_cut 94 = .ok (.iconst 1, 1) := by decide +kernel
theorem dX5_cut_95 : decode cX5_cut 95 = .ok (.isub, 1) := by decide +kernel
theorem dX5_cut_96 : decode cX5_cut 96 = .ok (.ireturn, 1) := by decide +kernel
theorem dX5_turn_0 : decode cX5_turn 0 = .ok (.aload_n 0, 1) := by decide +kernel
theorem dX5_turn_1 : decode cX5_turn 1 = .ok (.iload_n 1, 1) := by decide +kernel
theorem dX5_turn_2 : decode cX5_turn 2 = .ok (.invokevirtual 90, 3) := by decide +kernel
theorem dX5_turn_5 : decode cX5_turn 5 = .ok (.astore_n 2, 1) := by decide +kernel
theorem dX5_turn_6 : decode cX5_turn 6 = .ok (.aload_n 0, 1) := by decide +kernel
theorem dX5_turn_7 : decode cX5_turn 7 = .ok (.getfield 22, 3) := by decide +kernel
theorem dX5_turn_10 : decode cX5_turn 10 = .ok (.aload_n 0, 1) := by decide +kernel
theorem dX5_turn_11 : decode cX5_turn 11 = .ok (.getfield 10, 3) := by decide +kernel
theorem dX5_turn_14 : decode cX5_turn 14 = .ok (.invokevirtual 64, 3) := by decide +kernel
theorem dX5_turn_17 : decode cX5_turn 17 = .ok (.aload_n 0, 1) := by decide +kernel
theorem dX5_turn_18 : decode cX5_turn 18 = .ok (.aload_n 2, 1) := by decide +kernel
theorem dX5_turn_19 : decode cX5_turn 19 = .ok (.invokevirtual 142, 3) := by decide +kernel
theorem dX5_turn_22 : decode cX5_turn 22 = .ok (.ireturn, 1) := by decide +kernel
theorem dX5_join_0 : decode cX5_join 0 = .ok (.aload_n 0, 1) := by decide +kernel
theorem dX5_join_1 : decode cX5_join 1 = .ok (.iload_n 1, 1) := by decide +kernel
theorem dX5_join_2 : decode cX5_join 2 = .ok (.invokevirtual 90, 3) := by decide +kernel
theorem dX5_join_5 : decode cX5_join 5 = .ok (.astore_n 3, 1) := by decide +kernel
theorem dX5_join_6 : decode cX5_join 6 = .ok (.aload_n 0, 1) := by decide +kernel
theorem dX5_join_7 : decode cX5_join 7 = .ok (.iload_n 2, 1) := by decide +kernel
theorem dX5_join_8 : decode cX5_join 8 = .ok (.invokevirtual 90, 3) := by decide +kernel
theorem dX5_join_11 : decode cX5_join 11 = .ok (.astore 4, 2) := by decide +kernel
theorem dX5_join_13 : decode cX5_join 13 = .ok (.iload_n 1, 1) := by decide +kernel
theorem dX5_join_14 : decode cX5_join 14 = .ok (.iload_n 2, 1) := by decide +kernel
theorem dX5_join_15 : decode cX5_join 15 = .ok (.if_icmp .eq 13, 3) := by decide +kernel
theorem dX5_join_18 : decode cX5_join 18 = .ok (.aload_n 0, 1) := by decide +kernel
theorem dX5_join_19 : decode cX5_join 19 = .ok (.aload_n 3, 1) := by decide +kernel
theorem dX5_join_20 : decode cX5_join 20 = .ok (.aload 4, 2) := by decide +kernel
theorem dX5_join_22 : decode cX5_join 22 = .ok (.invokevirtual 145, 3) := by decide +kernel
theorem dX5_join_25 : decode cX5_join 25 = .ok (.ifCond .eq 13, 3) := by decide +kernel
theorem dX5_join_28 : decode cX5_join 28 = .ok (.new 59, 3) := by decide +kernel
theorem dX5_join_31 : decode cX5_join 31 = .ok (.dup, 1) := by decide +kernel
theorem dX5_join_32 : decode cX5_join 32 = .ok (.ldc 149, 2) := by decide +kernel
theorem dX5_join_34 : decode cX5_join 34 = .ok (.invokespecial 63, 3) := by decide +kernel
theorem dX5_join_37 : decode cX5_join 37 = .ok (.athrow, 1) := by decide +kernel
theorem dX5_join_38 : decode cX5_join 38 = .ok (.aload_n 0, 1) := by decide +kernel
theorem dX5_join_39 : decode cX5_join 39 = .ok (.getfield 22, 3) := by decide +kernel
theorem dX5_join_42 : decode cX5_join 42 = .ok (.aload_n 0, 1) := by decide +kernel
theorem dX5_join_43 : decode cX5_join 43 = .ok (.getfield 10, 3) := by decide +kernel
theorem dX5_join_46 : decode cX5_join 46 = .ok (.invokevirtual 64, 3) := by decide +kernel
theorem dX5_join_49 : decode cX5_join 49 = .ok (.aload_n 0, 1) := by decide +kernel
theorem dX5_join_50 : decode cX5_join 50 = .ok (.aload_n 3, 1) := by decide +kernel
theorem dX5_join_51 : decode cX5_join 51 = .ok (.aload 4, 2) := by decide +kernel
theorem dX5_join_53 : decode cX5_join 53 = .ok (.invokevirtual 151, 3) := by decide +kernel
theorem dX5_join_56 : decode cX5_join 56 = .ok (.pop, 1) := by decide +kernel
theorem dX5_join_57 : decode cX5_join 57 = .ok (.aload_n 3, 1) := by decide +kernel
theorem dX5_join_58 : decode cX5_join 58 = .ok (.aload_n 0, 1) := by decide +kernel
theorem dX5_join_59 : decode cX5_join 59 = .ok (.getfield 36, 3) := by decide +kernel
theorem dX5_join_62 : decode cX5_join 62 = .ok (.invokevirtual 155, 3) := by decide +kernel
theorem dX5_join_65 : decode cX5_join 65 = .ok (.aload_n 0, 1) := by decide +kernel
theorem dX5_join_66 : decode cX5_join 66 = .ok (.getfield 10, 3) := by decide +kernel
theorem dX5_join_69 : decode cX5_join 69 = .ok (.iload_n 2, 1) := by decide +kernel
theorem dX5_join_70 : decode cX5_join 70 = .ok (.invokevirtual 93, 3) := by decide +kernel
theorem dX5_join_73 : decode cX5_join 73 = .ok (.aload_n 0, 1) := by decide +kernel
theorem dX5_join_74 : decode cX5_join 74 = .ok (.getfield 10, 3) := by decide +kernel
theorem dX5_join_77 : decode cX5_join 77 = .ok (.invokevirtual 159, 3) := by decide +kernel
theorem dX5_join_80 : decode cX5_join 80 = .ok (.aload_n 3, 1) := by decide +kernel
theorem dX5_join_81 : decode cX5_join 81 = .ok (.invokevirtual 130, 3) := by decide +kernel
theorem dX5_join_84 : decode cX5_join 84 = .ok (.ireturn, 1) := by decide +kernel
theorem dX5_append_0 : decode cX5_append 0 = .ok (.iload_n 1, 1) := by decide +kernel
theorem dX5_append_1 : decode cX5_append 1 = .ok (.bipush 33, 2) := by decide +kernel
theorem dX5_append_3 : decode cX5_append 3 = .ok (.if_icmp .lt 9, 3) := by decide +kernel
theorem dX5_append_6 : decode cX5_append 6 = .ok (.iload_n 1, 1) := by decide +kernel
theorem dX5_append_7 : decode cX5_append 7 = .ok (.bipush 126, 2) := by decide +kernel
theorem dX5_append_9 : decode cX5_append 9 = .ok (.if_icmp .le 13, 3) := by decide +kernel
theorem dX5_append_12 : decode cX5_append 12 = .ok (.new 48, 3) := by decide +kernel
theorem dX5_append_15 : decode cX5_append 15 = .ok (.dup, 1) := by decide +kernel
theorem dX5_append_16 : decode cX5_append 16 = .ok (.ldc 162, 2) := by decide +kernel
theorem dX5_append_18 : decode cX5_append 18 = .ok (.invokespecial 52, 3) := by decide +kernel
theorem dX5_append_21 : decode cX5_append 21 = .ok (.athrow, 1) := by decide +kernel
theorem dX5_append_22 : decode cX5_append 22 = .ok (.aload_n 0, 1) := by decide +kernel
theorem dX5_append_23 : decode cX5_append 23 = .ok (.getfield 29, 3) := by decide +kernel
theorem dX5_append_26 : decode cX5_append 26 = .ok (.invokevirtual 164, 3) := by decide +kernel
theorem dX5_append_29 : decode cX5_append 29 = .ok (.ifCond .eq 13, 3) := by decide +kernel
theorem dX5_append_32 : decode cX5_append 32 = .ok (.new 59, 3) := by decide +kernel
theorem dX5_append_35 : decode cX5_append 35 = .ok (.dup, 1) := by decide +kernel
theorem dX5_append_36 : decode cX5_append 36 = .ok (.ldc 168, 2) := by decide +kernel
theorem dX5_append_38 : decode cX5_append 38 = .ok (.invokespecial 63, 3) := by decide +kernel
theorem dX5_append_41 : decode cX5_append 41 = .ok (.athrow, 1) := by decide +kernel
theorem dX5_append_42 : decode cX5_append 42 = .ok (.aload_n 0, 1) := by decide +kernel
theorem dX5_append_43 : decode cX5_append 43 = .ok (.getfield 29, 3) := by decide +kernel
theorem dX5_append_46 : decode cX5_append 46 = .ok (.iload_n 1, 1) := by decide +kernel
theorem dX5_append_47 : decode cX5_append 47 = .ok (.invokevirtual 170, 3) := by decide +kernel
theorem dX5_append_50 : decode cX5_append 50 = .ok (.aload_n 0, 1) := by decide +kernel
theorem dX5_append_51 : decode cX5_append 51 = .ok (.getfield 29, 3) := by decide +kernel
theorem dX5_append_54 : decode cX5_append 54 = .ok (.invokevirtual 173, 3) := by decide +kernel
theorem dX5_append_57 : decode cX5_append 57 = .ok (.ireturn, 1) := by decide +kernel
theorem dX5_clearBuffer_0 : decode cX5_clearBuffer 0 = .ok (.aload_n 0, 1) := by decide +kernel
theorem dX5_clearBuffer_1 : decode cX5_clearBuffer 1 = .ok (.getfield 29, 3) := by decide +kernel
theorem dX5_clearBuffer_4 : decode cX5_clearBuffer 4 = .ok (.invokevirtual 173, 3) := by decide +kernel
theorem dX5_clearBuffer_7 : decode cX5_clearBuffer 7 = .ok (.istore_n 1, 1) := by decide +kernel
theorem dX5_clearBuffer_8 : decode cX5_clearBuffer 8 = .ok (.aload_n 0, 1) := by decide +kernel
theorem dX5_clearBuffer_9 : decode cX5_clearBuffer 9 = .ok (.getfield 29, 3) := by decide +kernel
theorem dX5_clearBuffer_12 : decode cX5_clearBuffer 12 = .ok (.invokevirtual 174, 3) := by decide +kernel
theorem dX5_clearBuffer_15 : decode cX5_clearBuffer 15 = .ok (.iload_n 1, 1) := by decide +kernel
theorem dX5_clearBuffer_16 : decode cX5_clearBuffer 16 = .ok (.ireturn, 1) := by decide +kernel
theorem dX5_firstError_0 : decode cX5_firstError 0 = .ok (.aload_n 0, 1) := by decide +kernel
theorem dX5_firstError_1 : decode cX5_firstError 1 = .ok (.getfield 29, 3) := by decide +kernel
theorem dX5_firstError_4 : decode cX5_firstError 4 = .ok (.invokevirtual 177, 3) := by decide +kernel
theorem dX5_firstError_7 : decode cX5_firstError 7 = .ok (.ireturn, 1) := by decide +kernel
theorem dX5_play_0 : decode cX5_play 0 = .ok (.aload_n 0, 1) := by decide +kernel
theorem dX5_play_1 : decode cX5_play 1 = .ok (.getfield 29, 3) := by decide +kernel
theorem dX5_play_4 : decode cX5_play 4 = .ok (.invokevirtual 180, 3) := by decide +kernel
theorem dX5_play_7 : decode cX5_play 7 = .ok (.ifCond .ne 13, 3) := by decide +kernel
theorem dX5_play_10 : decode cX5_play 10 = .ok (.new 48, 3) := by decide +kernel
theorem dX5_play_13 : decode cX5_play 13 = .ok (.dup, 1) := by decide +kernel
theorem dX5_play_14 : decode cX5_play 14 = .ok (.ldc 183, 2) := by decide +kernel
theorem dX5_play_16 : decode cX5_play 16 = .ok (.invokespecial 52, 3) := by decide +kernel
theorem dX5_play_19 : decode cX5_play 19 = .ok (.athrow, 1) := by decide +kernel
theorem dX5_play_20 : decode cX5_play 20 = .ok (.aload_n 0, 1) := by decide +kernel
theorem dX5_play_21 : decode cX5_play 21 = .ok (.getfield 22, 3) := by decide +kernel
theorem dX5_play_24 : decode cX5_play 24 = .ok (.aload_n 0, 1) := by decide +kernel
theorem dX5_play_25 : decode cX5_play 25 = .ok (.getfield 10, 3) := by decide +kernel
theorem dX5_play_28 : decode cX5_play 28 = .ok (.invokevirtual 64, 3) := by decide +kernel
theorem dX5_play_31 : decode cX5_play 31 = .ok (.iconst 0, 1) := by decide +kernel
theorem dX5_play_32 : decode cX5_play 32 = .ok (.istore_n 1, 1) := by decide +kernel
theorem dX5_play_33 : decode cX5_play 33 = .ok (.iconst 0, 1) := by decide +kernel
theorem dX5_play_34 : decode cX5_play 34 = .ok (.istore_n 2, 1) := by decide +kernel
theorem dX5_play_35 : decode cX5_play 35 = .ok (.iconst 0, 1) := by decide +kernel
theorem dX5_play_36 : decode cX5_play 36 = .ok (.istore_n 3, 1) := by decide +kernel
theorem dX5_play_37 : decode cX5_play 37 = .ok (.iload_n 3, 1) := by decide +kernel
theorem dX5_play_38 : decode cX5_play 38 = .ok (.bipush 60, 2) := by decide +kernel
theorem dX5_play_40 : decode cX5_play 40 = .ok (.if_icmp .ge 51, 3) := by decide +kernel
theorem dX5_play_43 : decode cX5_play 43 = .ok (.iload_n 2, 1) := by decide +kernel
theorem dX5_play_44 : decode cX5_play 44 = .ok (.aload_n 0, 1) := by decide +kernel
theorem dX5_play_45 : decode cX5_play 45 = .ok (.getfield 29, 3) := by decide +kernel
theorem dX5_play_48 : decode cX5_play 48 = .ok (.invokevirtual 173, 3) := by decide +kernel
theorem dX5_play_51 : decode cX5_play 51 = .ok (.if_icmp .ge 40, 3) := by decide +kernel
theorem dX5_play_54 : decode cX5_play 54 = .ok (.aload_n 0, 1) := by decide +kernel
theorem dX5_play_55 : decode cX5_play 55 = .ok (.getfield 29, 3) := by decide +kernel
theorem dX5_play_58 : decode cX5_play 58 = .ok (.iload_n 2, 1) := by decide +kernel
theorem dX5_play_59 : decode cX5_play 59 = .ok (.invokevirtual 185, 3) := by decide +kernel
theorem dX5_play_62 : decode cX5_play 62 = .ok (.istore 4, 2) := by decide +kernel
theorem dX5_play_64 : decode cX5_play 64 = .ok (.aload_n 0, 1) := by decide +kernel
theorem dX5_play_65 : decode cX5_play 65 = .ok (.iload_n 2, 1) := by decide +kernel
theorem dX5_play_66 : decode cX5_play 66 = .ok (.iload 4, 2) := by decide +kernel
theorem dX5_play_68 : decode cX5_play 68 = .ok (.invokevirtual 188, 3) := by decide +kernel
theorem dX5_play_71 : decode cX5_play 71 = .ok (.ifCond .ne 6, 3) := by decide +kernel
theorem dX5_play_74 : decode cX5_play 74 = .ok (.goto 17, 3) := by decide +kernel
theorem dX5_play_77 : decode cX5_play 77 = .ok (.iinc 1 1, 3) := by decide +kernel
theorem dX5_play_80 : decode cX5_play 80 = .ok (.iload 4, 2) := by decide +kernel
theorem dX5_play_82 : decode cX5_play 82 = .ok (.iconst 1, 1) := by decide +kernel
theorem dX5_play_83 : decode cX5_play 83 = .ok (.iadd, 1) := by decide +kernel
theorem dX5_play_84 : decode cX5_play 84 = .ok (.istore_n 2, 1) := by decide +kernel
theorem dX5_play_85 : decode cX5_play 85 = .ok (.iinc 3 1, 3) := by decide +kernel
theorem dX5_play_88 : decode cX5_play 88 = .ok (.goto (-51), 3) := by decide +kernel
theorem dX5_play_91 : decode cX5_play 91 = .ok (.aload_n 0, 1) := by decide +kernel
theorem dX5_play_92 : decode cX5_play 92 = .ok (.getfield 29, 3) := by decide +kernel
theorem dX5_play_95 : decode cX5_play 95 = .ok (.invokevirtual 174, 3) := by decide +kernel
theorem dX5_play_98 : decode cX5_play 98 = .ok (.iload_n 1, 1) := by decide +kernel
theorem dX5_play_99 : decode cX5_play 99 = .ok (.ireturn, 1) := by decide +kernel
theorem dX5_undo_0 : decode cX5_undo 0 = .ok (.aload_n 0, 1) := by decide +kernel
theorem dX5_undo_1 : decode cX5_undo 1 = .ok (.getfield 22, 3) := by decide +kernel
theorem dX5_undo_4 : decode cX5_undo 4 = .ok (.invokevirtual 192, 3) := by decide +kernel
theorem dX5_undo_7 : decode cX5_undo 7 = .ok (.ifCond .ne 13, 3) := by decide +kernel
theorem dX5_undo_10 : decode cX5_undo 10 = .ok (.new 59, 3) := by decide +kernel
theorem dX5_undo_13 : decode cX5_undo 13 = .ok (.dup, 1) := by decide +kernel
theorem dX5_undo_14 : decode cX5_undo 14 = .ok (.ldc 195, 2) := by decide +kernel
theorem dX5_undo_16 : decode cX5_undo 16 = .ok (.invokespecial 63, 3) := by decide +kernel
theorem dX5_undo_19 : decode cX5_undo 19 = .ok (.athrow, 1) := by decide +kernel
theorem dX5_undo_20 : decode cX5_undo 20 = .ok (.aload_n 0, 1) := by decide +kernel
theorem dX5_undo_21 : decode cX5_undo 21 = .ok (.getfield 22, 3) := by decide +kernel
theorem dX5_undo_24 : decode cX5_undo 24 = .ok (.aload_n 0, 1) := by decide +kernel
theorem dX5_undo_25 : decode cX5_undo 25 = .ok (.getfield 10, 3) := by decide +kernel
theorem dX5_undo_28 : decode cX5_undo 28 = .ok (.invokevirtual 197, 3) := by decide +kernel
theorem dX5_undo_31 : decode cX5_undo 31 = .ok (.aload_n 0, 1) := by decide +kernel
theorem dX5_undo_32 : decode cX5_undo 32 = .ok (.getfield 22, 3) := by decide +kernel
theorem dX5_undo_35 : decode cX5_undo 35 = .ok (.invokevirtual 192, 3) := by decide +kernel
theorem dX5_undo_38 : decode cX5_undo 38 = .ok (.ireturn, 1) := by decide +kernel
theorem dX5_keep_0 : decode cX5_keep 0 = .ok (.aload_n 0, 1) := by decide +kernel
theorem dX5_keep_1 : decode cX5_keep 1 = .ok (.getfield 16, 3) := by decide +kernel
theorem dX5_keep_4 : decode cX5_keep 4 = .ok (.aload_n 0, 1) := by decide +kernel
theorem dX5_keep_5 : decode cX5_keep 5 = .ok (.getfield 10, 3) := by decide +kernel
theorem dX5_keep_8 : decode cX5_keep 8 = .ok (.invokevirtual 200, 3) := by decide +kernel
theorem dX5_keep_11 : decode cX5_keep 11 = .ok (.aload_n 0, 1) := by decide +kernel
theorem dX5_keep_12 : decode cX5_keep 12 = .ok (.iconst 1, 1) := by decide +kernel
theorem dX5_keep_13 : decode cX5_keep 13 = .ok (.putfield 40, 3) := by decide +kernel
theorem dX5_keep_16 : decode cX5_keep 16 = .ok (.aload_n 0, 1) := by decide +kernel
theorem dX5_keep_17 : decode cX5_keep 17 = .ok (.getfield 10, 3) := by decide +kernel
theorem dX5_keep_20 : decode cX5_keep 20 = .ok (.invokevirtual 86, 3) := by decide +kernel
theorem dX5_keep_23 : decode cX5_keep 23 = .ok (.ireturn, 1) := by decide +kernel
theorem dX5_restore_0 : decode cX5_restore 0 = .ok (.aload_n 0, 1) := by decide +kernel
theorem dX5_restore_1 : decode cX5_restore 1 = .ok (.getfield 40, 3) := by decide +kernel
theorem dX5_restore_4 : decode cX5_restore 4 = .ok (.ifCond .ne 13, 3) := by decide +kernel
theorem dX5_restore_7 : decode cX5_restore 7 = .ok (.new 59, 3) := by decide +kernel
theorem dX5_restore_10 : decode cX5_restore 10 = .ok (.dup, 1) := by decide +kernel
theorem dX5_restore_11 : decode cX5_restore 11 = .ok (.ldc 202, 2) := by decide +kernel
theorem dX5_restore_13 : decode cX5_restore 13 = .ok (.invokespecial 63, 3) := by decide +kernel
theorem dX5_restore_16 : decode cX5_restore 16 = .ok (.athrow, 1) := by decide +kernel
theorem dX5_restore_17 : decode cX5_restore 17 = .ok (.aload_n 0, 1) := by decide +kernel
theorem dX5_restore_18 : decode cX5_restore 18 = .ok (.getfield 22, 3) := by decide +kernel
theorem dX5_restore_21 : decode cX5_restore 21 = .ok (.aload_n 0, 1) := by decide +kernel
theorem dX5_restore_22 : decode cX5_restore 22 = .ok (.getfield 10, 3) := by decide +kernel
theorem dX5_restore_25 : decode cX5_restore 25 = .ok (.invokevirtual 64, 3) := by decide +kernel
theorem dX5_restore_28 : decode cX5_restore 28 = .ok (.aload_n 0, 1) := by decide +kernel
theorem dX5_restore_29 : decode cX5_restore 29 = .ok (.getfield 10, 3) := by decide +kernel
theorem dX5_restore_32 : decode cX5_restore 32 = .ok (.aload_n 0, 1) := by decide +kernel
theorem dX5_restore_33 : decode cX5_restore 33 = .ok (.getfield 16, 3) := by decide +kernel
theorem dX5_restore_36 : decode cX5_restore 36 = .ok (.invokevirtual 200, 3) := by decide +kernel
theorem dX5_restore_39 : decode cX5_restore 39 = .ok (.aload_n 0, 1) := by decide +kernel
theorem dX5_restore_40 : decode cX5_restore 40 = .ok (.getfield 10, 3) := by decide +kernel
theorem dX5_restore_43 : decode cX5_restore 43 = .ok (.invokevirtual 86, 3) := by decide +kernel
theorem dX5_restore_46 : decode cX5_restore 46 = .ok (.ireturn, 1) := by decide +kernel
theorem dX5_place_0 : decode cX5_place 0 = .ok (.aload_n 0, 1) := by decide +kernel
theorem dX5_place_1 : decode cX5_place 1 = .ok (.iload_n 1, 1) := by decide +kernel
theorem dX5_place_2 : decode cX5_place 2 = .ok (.invokevirtual 90, 3) := by decide +kernel
theorem dX5_place_5 : decode cX5_place 5 = .ok (.astore_n 3, 1) := by decide +kernel
theorem dX5_place_6 : decode cX5_place 6 = .ok (.iload_n 2, 1) := by decide +kernel
theorem dX5_place_7 : decode cX5_place 7 = .ok (.ifCond .lt 11, 3) := by decide +kernel
theorem dX5_place_10 : decode cX5_place 10 = .ok (.iload_n 2, 1) := by decide +kernel
theorem dX5_place_11 : decode cX5_place 11 = .ok (.aload_n 3, 1) := by decide +kernel
theorem dX5_place_12 : decode cX5_place 12 = .ok (.invokevirtual 130, 3) := by decide +kernel
theorem dX5_place_15 : decode cX5_place 15 = .ok (.if_icmp .lt 13, 3) := by decide +kernel
theorem dX5_place_18 : decode cX5_place 18 = .ok (.new 204, 3) := by decide +kernel
theorem dX5_place_21 : decode cX5_place 21 = .ok (.dup, 1) := by decide +kernel
theorem dX5_place_22 : decode cX5_place 22 = .ok (.ldc 206, 2) := by decide +kernel
theorem dX5_place_24 : decode cX5_place 24 = .ok (.invokespecial 208, 3) := by decide +kernel
theorem dX5_place_27 : decode cX5_place 27 = .ok (.athrow, 1) := by decide +kernel
theorem dX5_place_28 : decode cX5_place 28 = .ok (.aload_n 3, 1) := by decide +kernel
theorem dX5_place_29 : decode cX5_place 29 = .ok (.iload_n 2, 1) := by decide +kernel
theorem dX5_place_30 : decode cX5_place 30 = .ok (.invokevirtual 209, 3) := by decide +kernel
theorem dX5_place_33 : decode cX5_place 33 = .ok (.ireturn, 1) := by decide +kernel
theorem dX5_ropeOf_0 : decode cX5_ropeOf 0 = .ok (.aload_n 0, 1) := by decide +kernel
theorem dX5_ropeOf_1 : decode cX5_ropeOf 1 = .ok (.iload_n 1, 1) := by decide +kernel
theorem dX5_ropeOf_2 : decode cX5_ropeOf 2 = .ok (.invokevirtual 90, 3) := by decide +kernel
theorem dX5_ropeOf_5 : decode cX5_ropeOf 5 = .ok (.astore_n 3, 1) := by decide +kernel
theorem dX5_ropeOf_6 : decode cX5_ropeOf 6 = .ok (.aload_n 0, 1) := by decide +kernel
theorem dX5_ropeOf_7 : decode cX5_ropeOf 7 = .ok (.iload_n 2, 1) := by decide +kernel
theorem dX5_ropeOf_8 : decode cX5_ropeOf 8 = .ok (.bipush 6, 2) := by decide +kernel
theorem dX5_ropeOf_10 : decode cX5_ropeOf 10 = .ok (.invokevirtual 212, 3) := by decide +kernel
theorem dX5_ropeOf_13 : decode cX5_ropeOf 13 = .ok (.aload_n 0, 1) := by decide +kernel
theorem dX5_ropeOf_14 : decode cX5_ropeOf 14 = .ok (.aload_n 3, 1) := by decide +kernel
theorem dX5_ropeOf_15 : decode cX5_ropeOf 15 = .ok (.iload_n 2, 1) := by decide +kernel
theorem dX5_ropeOf_16 : decode cX5_ropeOf 16 = .ok (.invokevirtual 215, 3) := by decide +kernel
theorem dX5_ropeOf_19 : decode cX5_ropeOf 19 = .ok (.ireturn, 1) := by decide +kernel
theorem dX5_hueOf_0 : decode cX5_hueOf 0 = .ok (.aload_n 0, 1) := by decide +kernel
theorem dX5_hueOf_1 : decode cX5_hueOf 1 = .ok (.iload_n 1, 1) := by decide +kernel
theorem dX5_hueOf_2 : decode cX5_hueOf 2 = .ok (.invokevirtual 90, 3) := by decide +kernel
theorem dX5_hueOf_5 : decode cX5_hueOf 5 = .ok (.astore 4, 2) := by decide +kernel
theorem dX5_hueOf_7 : decode cX5_hueOf 7 = .ok (.aload_n 0, 1) := by decide +kernel
theorem dX5_hueOf_8 : decode cX5_hueOf 8 = .ok (.iload_n 2, 1) := by decide +kernel
theorem dX5_hueOf_9 : decode cX5_hueOf 9 = .ok (.invokevirtual 44, 3) := by decide +kernel
theorem dX5_hueOf_12 : decode cX5_hueOf 12 = .ok (.aload_n 0, 1) := by decide +kernel
theorem dX5_hueOf_13 : decode cX5_hueOf 13 = .ok (.iload_n 3, 1) := by decide +kernel
theorem dX5_hueOf_14 : decode cX5_hueOf 14 = .ok (.iconst 4, 1) := by decide +kernel
theorem dX5_hueOf_15 : decode cX5_hueOf 15 = .ok (.invokevirtual 212, 3) := by decide +kernel
theorem dX5_hueOf_18 : decode cX5_hueOf 18 = .ok (.aload 4, 2) := by decide +kernel
theorem dX5_hueOf_20 : decode cX5_hueOf 20 = .ok (.iload_n 2, 1) := by decide +kernel
theorem dX5_hueOf_21 : decode cX5_hueOf 21 = .ok (.iload_n 3, 1) := by decide +kernel
theorem dX5_hueOf_22 : decode cX5_hueOf 22 = .ok (.invokevirtual 219, 3) := by decide +kernel
theorem dX5_hueOf_25 : decode cX5_hueOf 25 = .ok (.ireturn, 1) := by decide +kernel
theorem dX5_gapOf_0 : decode cX5_gapOf 0 = .ok (.aload_n 0, 1) := by decide +kernel
theorem dX5_gapOf_1 : decode cX5_gapOf 1 = .ok (.iload_n 1, 1) := by decide +kernel
theorem dX5_gapOf_2 : decode cX5_gapOf 2 = .ok (.invokevirtual 44, 3) := by decide +kernel
theorem dX5_gapOf_5 : decode cX5_gapOf 5 = .ok (.aload_n 0, 1) := by decide +kernel
theorem dX5_gapOf_6 : decode cX5_gapOf 6 = .ok (.getfield 10, 3) := by decide +kernel
theorem dX5_gapOf_9 : decode cX5_gapOf 9 = .ok (.iload_n 1, 1) := by decide +kernel
theorem dX5_gapOf_10 : decode cX5_gapOf 10 = .ok (.invokevirtual 68, 3) := by decide +kernel
theorem dX5_gapOf_13 : decode cX5_gapOf 13 = .ok (.ireturn, 1) := by decide +kernel
theorem dX5_count_0 : decode cX5_count 0 = .ok (.aload_n 0, 1) := by decide +kernel
theorem dX5_count_1 : decode cX5_count 1 = .ok (.iload_n 1, 1) := by decide +kernel
theorem dX5_count_2 : decode cX5_count 2 = .ok (.bipush 8, 2) := by decide +kernel
theorem dX5_count_4 : decode cX5_count 4 = .ok (.invokevirtual 212, 3) := by decide +kernel
theorem dX5_count_7 : decode cX5_count 7 = .ok (.aload_n 0, 1) := by decide +kernel
theorem dX5_count_8 : decode cX5_count 8 = .ok (.iload_n 1, 1) := by decide +kernel
theorem dX5_count_9 : decode cX5_count 9 = .ok (.invokevirtual 223, 3) := by decide +kernel
theorem dX5_count_12 : decode cX5_count 12 = .ok (.ireturn, 1) := by decide +kernel
theorem dX5_refusal_0 : decode cX5_refusal 0 = .ok (.aload_n 0, 1) := by decide +kernel
theorem dX5_refusal_1 : decode cX5_refusal 1 = .ok (.iload_n 1, 1) := by decide +kernel
theorem dX5_refusal_2 : decode cX5_refusal 2 = .ok (.invokevirtual 90, 3) := by decide +kernel
theorem dX5_refusal_5 : decode cX5_refusal 5 = .ok (.astore 4, 2) := by decide +kernel
theorem dX5_refusal_7 : decode cX5_refusal 7 = .ok (.aload_n 0, 1) := by decide +kernel
theorem dX5_refusal_8 : decode cX5_refusal 8 = .ok (.iload_n 2, 1) := by decide +kernel
theorem dX5_refusal_9 : decode cX5_refusal 9 = .ok (.invokevirtual 44, 3) := by decide +kernel
theorem dX5_refusal_12 : decode cX5_refusal 12 = .ok (.aload_n 0, 1) := by decide +kernel
theorem dX5_refusal_13 : decode cX5_refusal 13 = .ok (.iload_n 2, 1) := by decide +kernel
theorem dX5_refusal_14 : decode cX5_refusal 14 = .ok (.iload_n 3, 1) := by decide +kernel
theorem dX5_refusal_15 : decode cX5_refusal 15 = .ok (.invokevirtual 96, 3) := by decide +kernel
theorem dX5_refusal_18 : decode cX5_refusal 18 = .ok (.aload 4, 2) := by decide +kernel
theorem dX5_refusal_20 : decode cX5_refusal 20 = .ok (.iload_n 2, 1) := by decide +kernel
theorem dX5_refusal_21 : decode cX5_refusal 21 = .ok (.iload_n 3, 1) := by decide +kernel
theorem dX5_refusal_22 : decode cX5_refusal 22 = .ok (.aload_n 0, 1) := by decide +kernel
theorem dX5_refusal_23 : decode cX5_refusal 23 = .ok (.getfield 10, 3) := by decide +kernel
theorem dX5_refusal_26 : decode cX5_refusal 26 = .ok (.iload_n 2, 1) := by decide +kernel
theorem dX5_refusal_27 : decode cX5_refusal 27 = .ok (.invokevirtual 68, 3) := by decide +kernel
theorem dX5_refusal_30 : decode cX5_refusal 30 = .ok (.invokevirtual 99, 3) := by decide +kernel
theorem dX5_refusal_33 : decode cX5_refusal 33 = .ok (.ireturn, 1) := by decide +kernel
theorem dX5_meeting_0 : decode cX5_meeting 0 = .ok (.aload_n 0, 1) := by decide +kernel
theorem dX5_meeting_1 : decode cX5_meeting 1 = .ok (.iload_n 1, 1) := by decide +kernel
theorem dX5_meeting_2 : decode cX5_meeting 2 = .ok (.invokevirtual 44, 3) := by decide +kernel
theorem dX5_meeting_5 : decode cX5_meeting 5 = .ok (.aload_n 0, 1) := by decide +kernel
theorem dX5_meeting_6 : decode cX5_meeting 6 = .ok (.iload_n 3, 1) := by decide +kernel
theorem dX5_meeting_7 : decode cX5_meeting 7 = .ok (.invokevirtual 44, 3) := by decide +kernel
theorem dX5_meeting_10 : decode cX5_meeting 10 = .ok (.aload_n 0, 1) := by decide +kernel
theorem dX5_meeting_11 : decode cX5_meeting 11 = .ok (.iload_n 1, 1) := by decide +kernel
theorem dX5_meeting_12 : decode cX5_meeting 12 = .ok (.iload_n 2, 1) := by decide +kernel
theorem dX5_meeting_13 : decode cX5_meeting 13 = .ok (.invokevirtual 96, 3) := by decide +kernel
theorem dX5_meeting_16 : decode cX5_meeting 16 = .ok (.aload_n 0, 1) := by decide +kernel
theorem dX5_meeting_17 : decode cX5_meeting 17 = .ok (.iload_n 3, 1) := by decide +kernel
theorem dX5_meeting_18 : decode cX5_meeting 18 = .ok (.iload 4, 2) := by decide +kernel
theorem dX5_meeting_20 : decode cX5_meeting 20 = .ok (.invokevirtual 96, 3) := by decide +kernel
theorem dX5_meeting_23 : decode cX5_meeting 23 = .ok (.aload_n 0, 1) := by decide +kernel
theorem dX5_meeting_24 : decode cX5_meeting 24 = .ok (.getfield 10, 3) := by decide +kernel
theorem dX5_meeting_27 : decode cX5_meeting 27 = .ok (.iload_n 1, 1) := by decide +kernel
theorem dX5_meeting_28 : decode cX5_meeting 28 = .ok (.invokevirtual 68, 3) := by decide +kernel
theorem dX5_meeting_31 : decode cX5_meeting 31 = .ok (.iload_n 2, 1) := by decide +kernel
theorem dX5_meeting_32 : decode cX5_meeting 32 = .ok (.aload_n 0, 1) := by decide +kernel
theorem dX5_meeting_33 : decode cX5_meeting 33 = .ok (.getfield 10, 3) := by decide +kernel
theorem dX5_meeting_36 : decode cX5_meeting 36 = .ok (.iload_n 3, 1) := by decide +kernel
theorem dX5_meeting_37 : decode cX5_meeting 37 = .ok (.invokevirtual 68, 3) := by decide +kernel
theorem dX5_meeting_40 : decode cX5_meeting 40 = .ok (.iload 4, 2) := by decide +kernel
theorem dX5_meeting_42 : decode cX5_meeting 42 = .ok (.invokestatic 226, 3) := by decide +kernel
theorem dX5_meeting_45 : decode cX5_meeting 45 = .ok (.ireturn, 1) := by decide +kernel
theorem dX5_walked_0 : decode cX5_walked 0 = .ok (.aload_n 0, 1) := by decide +kernel
theorem dX5_walked_1 : decode cX5_walked 1 = .ok (.iload_n 1, 1) := by decide +kernel
theorem dX5_walked_2 : decode cX5_walked 2 = .ok (.invokevirtual 44, 3) := by decide +kernel
theorem dX5_walked_5 : decode cX5_walked 5 = .ok (.aload_n 0, 1) := by decide +kernel
theorem dX5_walked_6 : decode cX5_walked 6 = .ok (.iload_n 3, 1) := by decide +kernel
theorem dX5_walked_7 : decode cX5_walked 7 = .ok (.invokevirtual 44, 3) := by decide +kernel
theorem dX5_walked_10 : decode cX5_walked 10 = .ok (.aload_n 0, 1) := by decide +kernel
theorem dX5_walked_11 : decode cX5_walked 11 = .ok (.iload_n 1, 1) := by decide +kernel
theorem dX5_walked_12 : decode cX5_walked 12 = .ok (.iload_n 2, 1) := by decide +kernel
theorem dX5_walked_13 : decode cX5_walked 13 = .ok (.invokevirtual 96, 3) := by decide +kernel
theorem dX5_walked_16 : decode cX5_walked 16 = .ok (.aload_n 0, 1) := by decide +kernel
theorem dX5_walked_17 : decode cX5_walked 17 = .ok (.iload_n 3, 1) := by decide +kernel
theorem dX5_walked_18 : decode cX5_walked 18 = .ok (.iload 4, 2) := by decide +kernel
theorem dX5_walked_20 : decode cX5_walked 20 = .ok (.invokevirtual 96, 3) := by decide +kernel
theorem dX5_walked_23 : decode cX5_walked 23 = .ok (.aload_n 0, 1) := by decide +kernel
theorem dX5_walked_24 : decode cX5_walked 24 = .ok (.getfield 10, 3) := by decide +kernel
theorem dX5_walked_27 : decode cX5_walked 27 = .ok (.iload_n 1, 1) := by decide +kernel
theorem dX5_walked_28 : decode cX5_walked 28 = .ok (.invokevirtual 68, 3) := by decide +kernel
theorem dX5_walked_31 : decode cX5_walked 31 = .ok (.iload_n 2, 1) := by decide +kernel
theorem dX5_walked_32 : decode cX5_walked 32 = .ok (.aload_n 0, 1) := by decide +kernel
theorem dX5_walked_33 : decode cX5_walked 33 = .ok (.getfield 10, 3) := by decide +kernel
theorem dX5_walked_36 : decode cX5_walked 36 = .ok (.iload_n 3, 1) := by decide +kernel
theorem dX5_walked_37 : decode cX5_walked 37 = .ok (.invokevirtual 68, 3) := by decide +kernel
theorem dX5_walked_40 : decode cX5_walked 40 = .ok (.iload 4, 2) := by decide +kernel
theorem dX5_walked_42 : decode cX5_walked 42 = .ok (.invokestatic 232, 3) := by decide +kernel
theorem dX5_walked_45 : decode cX5_walked 45 = .ok (.ireturn, 1) := by decide +kernel
theorem dX5_phases_0 : decode cX5_phases 0 = .ok (.aload_n 0, 1) := by decide +kernel
theorem dX5_phases_1 : decode cX5_phases 1 = .ok (.iload_n 1, 1) := by decide +kernel
theorem dX5_phases_2 : decode cX5_phases 2 = .ok (.invokevirtual 90, 3) := by decide +kernel
theorem dX5_phases_5 : decode cX5_phases 5 = .ok (.astore 4, 2) := by decide +kernel
theorem dX5_phases_7 : decode cX5_phases 7 = .ok (.aload_n 0, 1) := by decide +kernel
theorem dX5_phases_8 : decode cX5_phases 8 = .ok (.iload_n 2, 1) := by decide +kernel
theorem dX5_phases_9 : decode cX5_phases 9 = .ok (.invokevirtual 44, 3) := by decide +kernel
theorem dX5_phases_12 : decode cX5_phases 12 = .ok (.aload_n 0, 1) := by decide +kernel
theorem dX5_phases_13 : decode cX5_phases 13 = .ok (.iload_n 3, 1) := by decide +kernel
theorem dX5_phases_14 : decode cX5_phases 14 = .ok (.iconst 3, 1) := by decide +kernel
theorem dX5_phases_15 : decode cX5_phases 15 = .ok (.invokevirtual 212, 3) := by decide +kernel
theorem dX5_phases_18 : decode cX5_phases 18 = .ok (.aload 4, 2) := by decide +kernel
theorem dX5_phases_20 : decode cX5_phases 20 = .ok (.iload_n 2, 1) := by decide +kernel
theorem dX5_phases_21 : decode cX5_phases 21 = .ok (.aload_n 0, 1) := by decide +kernel
theorem dX5_phases_22 : decode cX5_phases 22 = .ok (.getfield 10, 3) := by decide +kernel
theorem dX5_phases_25 : decode cX5_phases 25 = .ok (.iload_n 2, 1) := by decide +kernel
theorem dX5_phases_26 : decode cX5_phases 26 = .ok (.invokevirtual 68, 3) := by decide +kernel
theorem dX5_phases_29 : decode cX5_phases 29 = .ok (.iload_n 3, 1) := by decide +kernel
theorem dX5_phases_30 : decode cX5_phases 30 = .ok (.invokevirtual 235, 3) := by decide +kernel
theorem dX5_phases_33 : decode cX5_phases 33 = .ok (.ireturn, 1) := by decide +kernel
theorem dX5_bestHue_0 : decode cX5_bestHue 0 = .ok (.aload_n 0, 1) := by decide +kernel
theorem dX5_bestHue_1 : decode cX5_bestHue 1 = .ok (.aload_n 0, 1) := by decide +kernel
theorem dX5_bestHue_2 : decode cX5_bestHue 2 = .ok (.iload_n 1, 1) := by decide +kernel
theorem dX5_bestHue_3 : decode cX5_bestHue 3 = .ok (.invokevirtual 90, 3) := by decide +kernel
theorem dX5_bestHue_6 : decode cX5_bestHue 6 = .ok (.invokevirtual 238, 3) := by decide +kernel
theorem dX5_bestHue_9 : decode cX5_bestHue 9 = .ok (.ireturn, 1) := by decide +kernel
theorem dX5_joining_0 : decode cX5_joining 0 = .ok (.aload_n 0, 1) := by decide +kernel
theorem dX5_joining_1 : decode cX5_joining 1 = .ok (.iload_n 1, 1) := by decide +kernel
theorem dX5_joining_2 : decode cX5_joining 2 = .ok (.invokevirtual 90, 3) := by decide +kernel
theorem dX5_joining_5 : decode cX5_joining 5 = .ok (.astore_n 3, 1) := by decide +kernel
theorem dX5_joining_6 : decode cX5_joining 6 = .ok (.aload_n 0, 1) := by decide +kernel
theorem dX5_joining_7 : decode cX5_joining 7 = .ok (.iload_n 2, 1) := by decide +kernel
theorem dX5_joining_8 : decode cX5_joining 8 = .ok (.invokevirtual 90, 3) := by decide +kernel
theorem dX5_joining_11 : decode cX5_joining 11 = .ok (.astore 4, 2) := by decide +kernel
theorem dX5_joining_13 : decode cX5_joining 13 = .ok (.iload_n 1, 1) := by decide +kernel
theorem dX5_joining_14 : decode cX5_joining 14 = .ok (.iload_n 2, 1) := by decide +kernel
theorem dX5_joining_15 : decode cX5_joining 15 = .ok (.if_icmp .ne 7, 3) := by decide +kernel
theorem dX5_joining_18 : decode cX5_joining 18 = .ok (.iconst 1, 1) := by decide +kernel
theorem dX5_joining_19 : decode cX5_joining 19 = .ok (.goto 10, 3) := by decide +kernel
theorem dX5_joining_22 : decode cX5_joining 22 = .ok (.aload_n 0, 1) := by decide +kernel
theorem dX5_joining_23 : decode cX5_joining 23 = .ok (.aload_n 3, 1) := by decide +kernel
theorem dX5_joining_24 : decode cX5_joining 24 = .ok (.aload 4, 2) := by decide +kernel
theorem dX5_joining_26 : decode cX5_joining 26 = .ok (.invokevirtual 145, 3) := by decide +kernel
theorem dX5_joining_29 : decode cX5_joining 29 = .ok (.ireturn, 1) := by decide +kernel
theorem dX5_greatest_0 : decode cX5_greatest 0 = .ok (.aload_n 0, 1) := by decide +kernel
theorem dX5_greatest_1 : decode cX5_greatest 1 = .ok (.aload_n 0, 1) := by decide +kernel
theorem dX5_greatest_2 : decode cX5_greatest 2 = .ok (.iload_n 1, 1) := by decide +kernel
theorem dX5_greatest_3 : decode cX5_greatest 3 = .ok (.invokevirtual 90, 3) := by decide +kernel
theorem dX5_greatest_6 : decode cX5_greatest 6 = .ok (.invokevirtual 117, 3) := by decide +kernel
theorem dX5_greatest_9 : decode cX5_greatest 9 = .ok (.ireturn, 1) := by decide +kernel
theorem dX5_fullness_0 : decode cX5_fullness 0 = .ok (.aload_n 0, 1) := by decide +kernel
theorem dX5_fullness_1 : decode cX5_fullness 1 = .ok (.getfield 10, 3) := by decide +kernel
theorem dX5_fullness_4 : decode cX5_fullness 4 = .ok (.invokevirtual 241, 3) := by decide +kernel
theorem dX5_fullness_7 : decode cX5_fullness 7 = .ok (.istore_n 1, 1) := by decide +kernel
theorem dX5_fullness_8 : decode cX5_fullness 8 = .ok (.iload_n 1, 1) := by decide +kernel
theorem dX5_fullness_9 : decode cX5_fullness 9 = .ok (.aload_n 0, 1) := by decide +kernel
theorem dX5_fullness_10 : decode cX5_fullness 10 = .ok (.getfield 10, 3) := by decide +kernel
theorem dX5_fullness_13 : decode cX5_fullness 13 = .ok (.invokevirtual 244, 3) := by decide +kernel
theorem dX5_fullness_16 : decode cX5_fullness 16 = .ok (.isub, 1) := by decide +kernel
theorem dX5_fullness_17 : decode cX5_fullness 17 = .ok (.istore_n 2, 1) := by decide +kernel
theorem dX5_fullness_18 : decode cX5_fullness 18 = .ok (.iload_n 1, 1) := by decide +kernel
theorem dX5_fullness_19 : decode cX5_fullness 19 = .ok (.ifCond .le 11, 3) := by decide +kernel
theorem dX5_fullness_22 : decode cX5_fullness 22 = .ok (.iload_n 2, 1) := by decide +kernel
theorem dX5_fullness_23 : decode cX5_fullness 23 = .ok (.i2d, 1) := by decide +kernel
theorem dX5_fullness_24 : decode cX5_fullness 24 = .ok (.iload_n 1, 1) := by decide +kernel
theorem dX5_fullness_25 : decode cX5_fullness 25 = .ok (.i2d, 1) := by decide +kernel
theorem dX5_fullness_26 : decode cX5_fullness 26 = .ok (.ddiv, 1) := by decide +kernel
theorem dX5_fullness_27 : decode cX5_fullness 27 = .ok (.goto 4, 3) := by decide +kernel
theorem dX5_fullness_30 : decode cX5_fullness 30 = .ok (.dconst 1, 1) := by decide +kernel
theorem dX5_fullness_31 : decode cX5_fullness 31 = .ok (.dreturn, 1) := by decide +kernel
theorem dX5_digest_0 : decode cX5_digest 0 = .ok (.ldc2_w 247, 3) := by decide +kernel
theorem dX5_digest_3 : decode cX5_digest 3 = .ok (.lstore_n 1, 1) := by decide +kernel
theorem dX5_digest_4 : decode cX5_digest 4 = .ok (.iconst 0, 1) := by decide +kernel
theorem dX5_digest_5 : decode cX5_digest 5 = .ok (.istore_n 3, 1) := by decide +kernel
theorem dX5_digest_6 : decode cX5_digest 6 = .ok (.iload_n 3, 1) := by decide +kernel
theorem dX5_digest_7 : decode cX5_digest 7 = .ok (.bipush 8, 2) := by decide +kernel
theorem dX5_digest_9 : decode cX5_digest 9 = .ok (.if_icmp .ge 20, 3) := by decide +kernel
theorem dX5_digest_12 : decode cX5_digest 12 = .ok (.lload_n 1, 1) := by decide +kernel
theorem dX5_digest_13 : decode cX5_digest 13 = .ok (.aload_n 0, 1) := by decide +kernel
theorem dX5_digest_14 : decode cX5_digest 14 = .ok (.iload_n 3, 1) := by decide +kernel
theorem dX5_digest_15 : decode cX5_digest 15 = .ok (.invokevirtual 223, 3) := by decide +kernel
theorem dX5_digest_18 : decode cX5_digest 18 = .ok (.i2l, 1) := by decide +kernel
theorem dX5_digest_19 : decode cX5_digest 19 = .ok (.invokestatic 249, 3) := by decide +kernel
theorem dX5_digest_22 : decode cX5_digest 22 = .ok (.lstore_n 1, 1) := by decide +kernel
theorem dX5_digest_23 : decode cX5_digest 23 = .ok (.iinc 3 1, 3) := by decide +kernel
theorem dX5_digest_26 : decode cX5_digest 26 = .ok (.goto (-20), 3) := by decide +kernel
theorem dX5_digest_29 : decode cX5_digest 29 = .ok (.iconst 0, 1) := by decide +kernel
theorem dX5_digest_30 : decode cX5_digest 30 = .ok (.istore_n 3, 1) := by decide +kernel
theorem dX5_digest_31 : decode cX5_digest 31 = .ok (.iload_n 3, 1) := by decide +kernel
theorem dX5_digest_32 : decode cX5_digest 32 = .ok (.bipush 8, 2) := by decide +kernel
theorem dX5_digest_34 : decode cX5_digest 34 = .ok (.if_icmp .ge 23, 3) := by decide +kernel
theorem dX5_digest_37 : decode cX5_digest 37 = .ok (.lload_n 1, 1) := by decide +kernel
theorem dX5_digest_38 : decode cX5_digest 38 = .ok (.aload_n 0, 1) := by decide +kernel
theorem dX5_digest_39 : decode cX5_digest 39 = .ok (.getfield 10, 3) := by decide +kernel
theorem dX5_digest_42 : decode cX5_digest 42 = .ok (.iload_n 3, 1) := by decide +kernel
theorem dX5_digest_43 : decode cX5_digest 43 = .ok (.invokevirtual 68, 3) := by decide +kernel
theorem dX5_digest_46 : decode cX5_digest 46 = .ok (.i2l, 1) := by decide +kernel
theorem dX5_digest_47 : decode cX5_digest 47 = .ok (.invokestatic 249, 3) := by decide +kernel
theorem dX5_digest_50 : decode cX5_digest 50 = .ok (.lstore_n 1, 1) := by decide +kernel
theorem dX5_digest_51 : decode cX5_digest 51 = .ok (.iinc 3 1, 3) := by decide +kernel
theorem dX5_digest_54 : decode cX5_digest 54 = .ok (.goto (-23), 3) := by decide +kernel
theorem dX5_digest_57 : decode cX5_digest 57 = .ok (.iconst 0, 1) := by decide +kernel
theorem dX5_digest_58 : decode cX5_digest 58 = .ok (.istore_n 3, 1) := by decide +kernel
theorem dX5_digest_59 : decode cX5_digest 59 = .ok (.iload_n 3, 1) := by decide +kernel
theorem dX5_digest_60 : decode cX5_digest 60 = .ok (.aload_n 0, 1) := by decide +kernel
theorem dX5_digest_61 : decode cX5_digest 61 = .ok (.getfield 10, 3) := by decide +kernel
theorem dX5_digest_64 : decode cX5_digest 64 = .ok (.invokevirtual 86, 3) := by decide +kernel
theorem dX5_digest_67 : decode cX5_digest 67 = .ok (.if_icmp .ge 16, 3) := by decide +kernel
theorem dX5_digest_70 : decode cX5_digest 70 = .ok (.aload_n 0, 1) := by decide +kernel
theorem dX5_digest_71 : decode cX5_digest 71 = .ok (.lload_n 1, 1) := by decide +kernel
theorem dX5_digest_72 : decode cX5_digest 72 = .ok (.iload_n 3, 1) := by decide +kernel
theorem dX5_digest_73 : decode cX5_digest 73 = .ok (.invokevirtual 253, 3) := by decide +kernel
theorem dX5_digest_76 : decode cX5_digest 76 = .ok (.lstore_n 1, 1) := by decide +kernel
theorem dX5_digest_77 : decode cX5_digest 77 = .ok (.iinc 3 1, 3) := by decide +kernel
theorem dX5_digest_80 : decode cX5_digest 80 = .ok (.goto (-21), 3) := by decide +kernel
theorem dX5_digest_83 : decode cX5_digest 83 = .ok (.iconst 0, 1) := by decide +kernel
theorem dX5_digest_84 : decode cX5_digest 84 = .ok (.istore_n 3, 1) := by decide +kernel
theorem dX5_digest_85 : decode cX5_digest 85 = .ok (.iload_n 3, 1) := by decide +kernel
theorem dX5_digest_86 : decode cX5_digest 86 = .ok (.bipush 8, 2) := by decide +kernel
theorem dX5_digest_88 : decode cX5_digest 88 = .ok (.if_icmp .ge 36, 3) := by decide +kernel
theorem dX5_digest_91 : decode cX5_digest 91 = .ok (.lload_n 1, 1) := by decide +kernel
theorem dX5_digest_92 : decode cX5_digest 92 = .ok (.aload_n 0, 1) := by decide +kernel
theorem dX5_digest_93 : decode cX5_digest 93 = .ok (.getfield 10, 3) := by decide +kernel
theorem dX5_digest_96 : decode cX5_digest 96 = .ok (.iconst 0, 1) := by decide +kernel
theorem dX5_digest_97 : decode cX5_digest 97 = .ok (.invokevirtual 68, 3) := by decide +kernel
theorem dX5_digest_100 : decode cX5_digest 100 = .ok (.iconst 1, 1) := by decide +kernel
theorem dX5_digest_101 : decode cX5_digest 101 = .ok (.aload_n 0, 1) := by decide +kernel
theorem dX5_digest_102 : decode cX5_digest 102 = .ok (.getfield 10, 3) := by decide +kernel
theorem dX5_digest_105 : decode cX5_digest 105 = .ok (.iload_n 3, 1) := by decide +kernel
theorem dX5_digest_106 : decode cX5_digest 106 = .ok (.invokevirtual 68, 3) := by decide +kernel
theorem dX5_digest_109 : decode cX5_digest 109 = .ok (.iconst 0, 1) := by decide +kernel
theorem dX5_digest_110 : decode cX5_digest 110 = .ok (.invokestatic 226, 3) := by decide +kernel
theorem dX5_digest_113 : decode cX5_digest 113 = .ok (.i2l, 1) := by decide +kernel
theorem dX5_digest_114 : decode cX5_digest 114 = .ok (.invokestatic 249, 3) := by decide +kernel
theorem dX5_digest_117 : decode cX5_digest 117 = .ok (.lstore_n 1, 1) := by decide +kernel
theorem dX5_digest_118 : decode cX5_digest 118 = .ok (.iinc 3 1, 3) := by decide +kernel
theorem dX5_digest_121 : decode cX5_digest 121 = .ok (.goto (-36), 3) := by decide +kernel
theorem dX5_digest_124 : decode cX5_digest 124 = .ok (.lload_n 1, 1) := by decide +kernel
theorem dX5_digest_125 : decode cX5_digest 125 = .ok (.aload_n 0, 1) := by decide +kernel
theorem dX5_digest_126 : decode cX5_digest 126 = .ok (.invokevirtual 257, 3) := by decide +kernel
theorem dX5_digest_129 : decode cX5_digest 129 = .ok (.invokestatic 261, 3) := by decide +kernel
theorem dX5_digest_132 : decode cX5_digest 132 = .ok (.invokestatic 249, 3) := by decide +kernel
theorem dX5_digest_135 : decode cX5_digest 135 = .ok (.lstore_n 1, 1) := by decide +kernel
theorem dX5_digest_136 : decode cX5_digest 136 = .ok (.lload_n 1, 1) := by decide +kernel
theorem dX5_digest_137 : decode cX5_digest 137 = .ok (.aload_n 0, 1) := by decide +kernel
theorem dX5_digest_138 : decode cX5_digest 138 = .ok (.getfield 29, 3) := by decide +kernel
theorem dX5_digest_141 : decode cX5_digest 141 = .ok (.invokevirtual 173, 3) := by decide +kernel
theorem dX5_digest_144 : decode cX5_digest 144 = .ok (.i2l, 1) := by decide +kernel
theorem dX5_digest_145 : decode cX5_digest 145 = .ok (.invokestatic 249, 3) := by decide +kernel
theorem dX5_digest_148 : decode cX5_digest 148 = .ok (.lstore_n 1, 1) := by decide +kernel
theorem dX5_digest_149 : decode cX5_digest 149 = .ok (.iconst 0, 1) := by decide +kernel
theorem dX5_digest_150 : decode cX5_digest 150 = .ok (.istore_n 3, 1) := by decide +kernel
theorem dX5_digest_151 : decode cX5_digest 151 = .ok (.iload_n 3, 1) := by decide +kernel
theorem dX5_digest_152 : decode cX5_digest 152 = .ok (.aload_n 0, 1) := by decide +kernel
theorem dX5_digest_153 : decode cX5_digest 153 = .ok (.getfield 29, 3) := by decide +kernel
theorem dX5_digest_156 : decode cX5_digest 156 = .ok (.invokevirtual 173, 3) := by decide +kernel
theorem dX5_digest_159 : decode cX5_digest 159 = .ok (.if_icmp .ge 23, 3) := by decide +kernel
theorem dX5_digest_162 : decode cX5_digest 162 = .ok (.lload_n 1, 1) := by decide +kernel
theorem dX5_digest_163 : decode cX5_digest 163 = .ok (.aload_n 0, 1) := by decide +kernel
theorem dX5_digest_164 : decode cX5_digest 164 = .ok (.getfield 29, 3) := by decide +kernel
theorem dX5_digest_167 : decode cX5_digest 167 = .ok (.iload_n 3, 1) := by decide +kernel
theorem dX5_digest_168 : decode cX5_digest 168 = .ok (.invokevirtual 265, 3) := by decide +kernel
theorem dX5_digest_171 : decode cX5_digest 171 = .ok (.i2l, 1) := by decide +kernel
theorem dX5_digest_172 : decode cX5_digest 172 = .ok (.invokestatic 249, 3) := by decide +kernel
theorem dX5_digest_175 : decode cX5_digest 175 = .ok (.lstore_n 1, 1) := by decide +kernel
theorem dX5_digest_176 : decode cX5_digest 176 = .ok (.iinc 3 1, 3) := by decide +kernel
theorem dX5_digest_179 : decode cX5_digest 179 = .ok (.goto (-28), 3) := by decide +kernel
theorem dX5_digest_182 : decode cX5_digest 182 = .ok (.lload_n 1, 1) := by decide +kernel
theorem dX5_digest_183 : decode cX5_digest 183 = .ok (.lreturn, 1) := by decide +kernel
theorem dX5_existing_0 : decode cX5_existing 0 = .ok (.aload_n 0, 1) := by decide +kernel
theorem dX5_existing_1 : decode cX5_existing 1 = .ok (.getfield 10, 3) := by decide +kernel
theorem dX5_existing_4 : decode cX5_existing 4 = .ok (.iload_n 1, 1) := by decide +kernel
theorem dX5_existing_5 : decode cX5_existing 5 = .ok (.invokevirtual 268, 3) := by decide +kernel
theorem dX5_existing_8 : decode cX5_existing 8 = .ok (.astore_n 2, 1) := by decide +kernel
theorem dX5_existing_9 : decode cX5_existing 9 = .ok (.aload_n 2, 1) := by decide +kernel
theorem dX5_existing_10 : decode cX5_existing 10 = .ok (.ifnonnull 14, 3) := by decide +kernel
theorem dX5_existing_13 : decode cX5_existing 13 = .ok (.new 204, 3) := by decide +kernel
theorem dX5_existing_16 : decode cX5_existing 16 = .ok (.dup, 1) := by decide +kernel
theorem dX5_existing_17 : decode cX5_existing 17 = .ok (.ldc_w 271, 3) := by decide +kernel
theorem dX5_existing_20 : decode cX5_existing 20 = .ok (.invokespecial 208, 3) := by decide +kernel
theorem dX5_existing_23 : decode cX5_existing 23 = .ok (.athrow, 1) := by decide +kernel
theorem dX5_existing_24 : decode cX5_existing 24 = .ok (.aload_n 2, 1) := by decide +kernel
theorem dX5_existing_25 : decode cX5_existing 25 = .ok (.areturn, 1) := by decide +kernel
theorem dX5_requireHue_0 : decode cX5_requireHue 0 = .ok (.iload_n 1, 1) := by decide +kernel
theorem dX5_requireHue_1 : decode cX5_requireHue 1 = .ok (.ifCond .lt 9, 3) := by decide +kernel
theorem dX5_requireHue_4 : decode cX5_requireHue 4 = .ok (.iload_n 1, 1) := by decide +kernel
theorem dX5_requireHue_5 : decode cX5_requireHue 5 = .ok (.bipush 8, 2) := by decide +kernel
theorem dX5_requireHue_7 : decode cX5_requireHue 7 = .ok (.if_icmp .lt 14, 3) := by decide +kernel
theorem dX5_requireHue_10 : decode cX5_requireHue 10 = .ok (.new 204, 3) := by decide +kernel
theorem dX5_requireHue_13 : decode cX5_requireHue 13 = .ok (.dup, 1) := by decide +kernel
theorem dX5_requireHue_14 : decode cX5_requireHue 14 = .ok (.ldc_w 273, 3) := by decide +kernel
theorem dX5_requireHue_17 : decode cX5_requireHue 17 = .ok (.invokespecial 208, 3) := by decide +kernel
theorem dX5_requireHue_20 : decode cX5_requireHue 20 = .ok (.athrow, 1) := by decide +kernel
theorem dX5_requireHue_21 : decode cX5_requireHue 21 = .ok (.return_, 1) := by decide +kernel
theorem dX5_requirePhase_0 : decode cX5_requirePhase 0 = .ok (.iload_n 2, 1) := by decide +kernel
theorem dX5_requirePhase_1 : decode cX5_requirePhase 1 = .ok (.ifCond .lt 15, 3) := by decide +kernel
theorem dX5_requirePhase_4 : decode cX5_requirePhase 4 = .ok (.iload_n 2, 1) := by decide +kernel
theorem dX5_requirePhase_5 : decode cX5_requirePhase 5 = .ok (.aload_n 0, 1) := by decide +kernel
theorem dX5_requirePhase_6 : decode cX5_requirePhase 6 = .ok (.getfield 10, 3) := by decide +kernel
theorem dX5_requirePhase_9 : decode cX5_requirePhase 9 = .ok (.iload_n 1, 1) := by decide +kernel
theorem dX5_requirePhase_10 : decode cX5_requirePhase 10 = .ok (.invokevirtual 68, 3) := by decide +kernel
theorem dX5_requirePhase_13 : decode cX5_requirePhase 13 = .ok (.if_icmp .lt 14, 3) := by decide +kernel
theorem dX5_requirePhase_16 : decode cX5_requirePhase 16 = .ok (.new 48, 3) := by decide +kernel
theorem dX5_requirePhase_19 : decode cX5_requirePhase 19 = .ok (.dup, 1) := by decide +kernel
theorem dX5_requirePhase_20 : decode cX5_requirePhase 20 = .ok (.ldc_w 275, 3) := by decide +kernel
theorem dX5_requirePhase_23 : decode cX5_requirePhase 23 = .ok (.invokespecial 52, 3) := by decide +kernel
theorem dX5_requirePhase_26 : decode cX5_requirePhase 26 = .ok (.athrow, 1) := by decide +kernel
theorem dX5_requirePhase_27 : decode cX5_requirePhase 27 = .ok (.return_, 1) := by decide +kernel
theorem dX5_requireLength_0 : decode cX5_requireLength 0 = .ok (.iload_n 1, 1) := by decide +kernel
theorem dX5_requireLength_1 : decode cX5_requireLength 1 = .ok (.iconst 1, 1) := by decide +kernel
theorem dX5_requireLength_2 : decode cX5_requireLength 2 = .ok (.if_icmp .lt 9, 3) := by decide +kernel
theorem dX5_requireLength_5 : decode cX5_requireLength 5 = .ok (.iload_n 1, 1) := by decide +kernel
theorem dX5_requireLength_6 : decode cX5_requireLength 6 = .ok (.bipush 60, 2) := by decide +kernel
theorem dX5_requireLength_8 : decode cX5_requireLength 8 = .ok (.if_icmp .le 14, 3) := by decide +kernel
theorem dX5_requireLength_11 : decode cX5_requireLength 11 = .ok (.new 48, 3) := by decide +kernel
theorem dX5_requireLength_14 : decode cX5_requireLength 14 = .ok (.dup, 1) := by decide +kernel
theorem dX5_requireLength_15 : decode cX5_requireLength 15 = .ok (.ldc_w 277, 3) := by decide +kernel
theorem dX5_requireLength_18 : decode cX5_requireLength 18 = .ok (.invokespecial 52, 3) := by decide +kernel
theorem dX5_requireLength_21 : decode cX5_requireLength 21 = .ok (.athrow, 1) := by decide +kernel
theorem dX5_requireLength_22 : decode cX5_requireLength 22 = .ok (.return_, 1) := by decide +kernel
theorem dX5_requireWhat_0 : decode cX5_requireWhat 0 = .ok (.iload_n 1, 1) := by decide +kernel
theorem dX5_requireWhat_1 : decode cX5_requireWhat 1 = .ok (.ifCond .lt 8, 3) := by decide +kernel
theorem dX5_requireWhat_4 : decode cX5_requireWhat 4 = .ok (.iload_n 1, 1) := by decide +kernel
theorem dX5_requireWhat_5 : decode cX5_requireWhat 5 = .ok (.iload_n 2, 1) := by decide +kernel
theorem dX5_requireWhat_6 : decode cX5_requireWhat 6 = .ok (.if_icmp .lt 14, 3) := by decide +kernel
theorem dX5_requireWhat_9 : decode cX5_requireWhat 9 = .ok (.new 48, 3) := by decide +kernel
theorem dX5_requireWhat_12 : decode cX5_requireWhat 12 = .ok (.dup, 1) := by decide +kernel
theorem dX5_requireWhat_13 : decode cX5_requireWhat 13 = .ok (.ldc_w 279, 3) := by decide +kernel
theorem dX5_requireWhat_16 : decode cX5_requireWhat 16 = .ok (.invokespecial 52, 3) := by decide +kernel
theorem dX5_requireWhat_19 : decode cX5_requireWhat 19 = .ok (.athrow, 1) := by decide +kernel
theorem dX5_requireWhat_20 : decode cX5_requireWhat 20 = .ok (.return_, 1) := by decide +kernel
theorem dX5_requireRoomForRope_0 : decode cX5_requireRoomForRope 0 = .ok (.aload_n 0, 1) := by decide +kernel
theorem dX5_requireRoomForRope_1 : decode cX5_requireRoomForRope 1 = .ok (.getfield 10, 3) := by decide +kernel
theorem dX5_requireRoomForRope_4 : decode cX5_requireRoomForRope 4 = .ok (.invokevirtual 86, 3) := by decide +kernel
theorem dX5_requireRoomForRope_7 : decode cX5_requireRoomForRope 7 = .ok (.iconst 4, 1) := by decide +kernel
theorem dX5_requireRoomForRope_8 : decode cX5_requireRoomForRope 8 = .ok (.if_icmp .lt 14, 3) := by decide +kernel
theorem dX5_requireRoomForRope_11 : decode cX5_requireRoomForRope 11 = .ok (.new 59, 3) := by decide +kernel
theorem dX5_requireRoomForRope_14 : decode cX5_requireRoomForRope 14 = .ok (.dup, 1) := by decide +kernel
theorem dX5_requireRoomForRope_15 : decode cX5_requireRoomForRope 15 = .ok (.ldc_w 281, 3) := by decide +kernel
theorem dX5_requireRoomForRope_18 : decode cX5_requireRoomForRope 18 = .ok (.invokespecial 63, 3) := by decide +kernel
theorem dX5_requireRoomForRope_21 : decode cX5_requireRoomForRope 21 = .ok (.athrow, 1) := by decide +kernel
theorem dX5_requireRoomForRope_22 : decode cX5_requireRoomForRope 22 = .ok (.return_, 1) := by decide +kernel
theorem dX5_changeLength_0 : decode cX5_changeLength 0 = .ok (.aload_n 0, 1) := by decide +kernel
theorem dX5_changeLength_1 : decode cX5_changeLength 1 = .ok (.getfield 36, 3) := by decide +kernel
theorem dX5_changeLength_4 : decode cX5_changeLength 4 = .ok (.iload_n 2, 1) := by decide +kernel
theorem dX5_changeLength_5 : decode cX5_changeLength 5 = .ok (.invokevirtual 283, 3) := by decide +kernel
theorem dX5_changeLength_8 : decode cX5_changeLength 8 = .ok (.iconst 0, 1) := by decide +kernel
theorem dX5_changeLength_9 : decode cX5_changeLength 9 = .ok (.istore_n 3, 1) := by decide +kernel
theorem dX5_changeLength_10 : decode cX5_changeLength 10 = .ok (.iload_n 3, 1) := by decide +kernel
theorem dX5_changeLength_11 : decode cX5_changeLength 11 = .ok (.aload_n 1, 1) := by decide +kernel
theorem dX5_changeLength_12 : decode cX5_changeLength 12 = .ok (.invokevirtual 123, 3) := by decide +kernel
theorem dX5_changeLength_15 : decode cX5_changeLength 15 = .ok (.if_icmp .ge 42, 3) := by decide +kernel
theorem dX5_changeLength_18 : decode cX5_changeLength 18 = .ok (.aload_n 1, 1) := by decide +kernel
theorem dX5_changeLength_19 : decode cX5_changeLength 19 = .ok (.iload_n 3, 1) := by decide +kernel
theorem dX5_changeLength_20 : decode cX5_changeLength 20 = .ok (.invokevirtual 286, 3) := by decide +kernel
theorem dX5_changeLength_23 : decode cX5_changeLength 23 = .ok (.istore 4, 2) := by decide +kernel
theorem dX5_changeLength_25 : decode cX5_changeLength 25 = .ok (.aload_n 0, 1) := by decide +kernel
theorem dX5_changeLength_26 : decode cX5_changeLength 26 = .ok (.getfield 36, 3) := by decide +kernel
theorem dX5_changeLength_29 : decode cX5_changeLength 29 = .ok (.iload 4, 2) := by decide +kernel
theorem dX5_changeLength_31 : decode cX5_changeLength 31 = .ok (.aload_n 1, 1) := by decide +kernel
theorem dX5_changeLength_32 : decode cX5_changeLength 32 = .ok (.iload 4, 2) := by decide +kernel
theorem dX5_changeLength_34 : decode cX5_changeLength 34 = .ok (.iconst 0, 1) := by decide +kernel
theorem dX5_changeLength_35 : decode cX5_changeLength 35 = .ok (.invokevirtual 289, 3) := by decide +kernel
theorem dX5_changeLength_38 : decode cX5_changeLength 38 = .ok (.aload_n 0, 1) := by decide +kernel
theorem dX5_changeLength_39 : decode cX5_changeLength 39 = .ok (.getfield 10, 3) := by decide +kernel
theorem dX5_changeLength_42 : decode cX5_changeLength 42 = .ok (.iload 4, 2) := by decide +kernel
theorem dX5_changeLength_44 : decode cX5_changeLength 44 = .ok (.invokevirtual 68, 3) := by decide +kernel
theorem dX5_changeLength_47 : decode cX5_changeLength 47 = .ok (.invokevirtual 292, 3) := by decide +kernel
theorem dX5_changeLength_50 : decode cX5_changeLength 50 = .ok (.pop, 1) := by decide +kernel
theorem dX5_changeLength_51 : decode cX5_changeLength 51 = .ok (.iinc 3 1, 3) := by decide +kernel
theorem dX5_changeLength_54 : decode cX5_changeLength 54 = .ok (.goto (-44), 3) := by decide +kernel
theorem dX5_changeLength_57 : decode cX5_changeLength 57 = .ok (.aload_n 1, 1) := by decide +kernel
theorem dX5_changeLength_58 : decode cX5_changeLength 58 = .ok (.aload_n 0, 1) := by decide +kernel
theorem dX5_changeLength_59 : decode cX5_changeLength 59 = .ok (.getfield 36, 3) := by decide +kernel
theorem dX5_changeLength_62 : decode cX5_changeLength 62 = .ok (.invokevirtual 155, 3) := by decide +kernel
theorem dX5_changeLength_65 : decode cX5_changeLength 65 = .ok (.return_, 1) := by decide +kernel
theorem dX5_layBack_0 : decode cX5_layBack 0 = .ok (.iconst 0, 1) := by decide +kernel
theorem dX5_layBack_1 : decode cX5_layBack 1 = .ok (.istore 4, 2) := by decide +kernel
theorem dX5_layBack_3 : decode cX5_layBack 3 = .ok (.iload 4, 2) := by decide +kernel
theorem dX5_layBack_5 : decode cX5_layBack 5 = .ok (.aload_n 1, 1) := by decide +kernel
theorem dX5_layBack_6 : decode cX5_layBack 6 = .ok (.invokevirtual 123, 3) := by decide +kernel
theorem dX5_layBack_9 : decode cX5_layBack 9 = .ok (.if_icmp .ge 52, 3) := by decide +kernel
theorem dX5_layBack_12 : decode cX5_layBack 12 = .ok (.aload_n 1, 1) := by decide +kernel
theorem dX5_layBack_13 : decode cX5_layBack 13 = .ok (.iload 4, 2) := by decide +kernel
theorem dX5_layBack_15 : decode cX5_layBack 15 = .ok (.invokevirtual 286, 3) := by decide +kernel
theorem dX5_layBack_18 : decode cX5_layBack 18 = .ok (.istore 5, 2) := by decide +kernel
theorem dX5_layBack_20 : decode cX5_layBack 20 = .ok (.aload_n 1, 1) := by decide +kernel
theorem dX5_layBack_21 : decode cX5_layBack 21 = .ok (.iload 5, 2) := by decide +kernel
theorem dX5_layBack_23 : decode cX5_layBack 23 = .ok (.iload_n 2, 1) := by decide +kernel
theorem dX5_layBack_24 : decode cX5_layBack 24 = .ok (.invokevirtual 289, 3) := by decide +kernel
theorem dX5_layBack_27 : decode cX5_layBack 27 = .ok (.istore 6, 2) := by decide +kernel
theorem dX5_layBack_29 : decode cX5_layBack 29 = .ok (.iload 6, 2) := by decide +kernel
theorem dX5_layBack_31 : decode cX5_layBack 31 = .ok (.iconst (-1), 1) := by decide +kernel
theorem dX5_layBack_32 : decode cX5_layBack 32 = .ok (.if_icmp .eq 23, 3) := by decide +kernel
theorem dX5_layBack_35 : decode cX5_layBack 35 = .ok (.aload_n 3, 1) := by decide +kernel
theorem dX5_layBack_36 : decode cX5_layBack 36 = .ok (.iload 5, 2) := by decide +kernel
theorem dX5_layBack_38 : decode cX5_layBack 38 = .ok (.iload 6, 2) := by decide +kernel
theorem dX5_layBack_40 : decode cX5_layBack 40 = .ok (.iload_n 2, 1) := by decide +kernel
theorem dX5_layBack_41 : decode cX5_layBack 41 = .ok (.isub, 1) := by decide +kernel
theorem dX5_layBack_42 : decode cX5_layBack 42 = .ok (.aload_n 0, 1) := by decide +kernel
theorem dX5_layBack_43 : decode cX5_layBack 43 = .ok (.getfield 10, 3) := by decide +kernel
theorem dX5_layBack_46 : decode cX5_layBack 46 = .ok (.iload 5, 2) := by decide +kernel
theorem dX5_layBack_48 : decode cX5_layBack 48 = .ok (.invokevirtual 68, 3) := by decide +kernel
theorem dX5_layBack_51 : decode cX5_layBack 51 = .ok (.invokevirtual 292, 3) := by decide +kernel
theorem dX5_layBack_54 : decode cX5_layBack 54 = .ok (.pop, 1) := by decide +kernel
theorem dX5_layBack_55 : decode cX5_layBack 55 = .ok (.iinc 4 1, 3) := by decide +kernel
theorem dX5_layBack_58 : decode cX5_layBack 58 = .ok (.goto (-55), 3) := by decide +kernel
theorem dX5_layBack_61 : decode cX5_layBack 61 = .ok (.return_, 1) := by decide +kernel
theorem dX5_turnRound_0 : decode cX5_turnRound 0 = .ok (.aload_n 0, 1) := by decide +kernel
theorem dX5_turnRound_1 : decode cX5_turnRound 1 = .ok (.getfield 36, 3) := by decide +kernel
theorem dX5_turnRound_4 : decode cX5_turnRound 4 = .ok (.aload_n 1, 1) := by decide +kernel
theorem dX5_turnRound_5 : decode cX5_turnRound 5 = .ok (.invokevirtual 130, 3) := by decide +kernel
theorem dX5_turnRound_8 : decode cX5_turnRound 8 = .ok (.invokevirtual 283, 3) := by decide +kernel
theorem dX5_turnRound_11 : decode cX5_turnRound 11 = .ok (.iconst 0, 1) := by decide +kernel
theorem dX5_turnRound_12 : decode cX5_turnRound 12 = .ok (.istore_n 2, 1) := by decide +kernel
theorem dX5_turnRound_13 : decode cX5_turnRound 13 = .ok (.iload_n 2, 1) := by decide +kernel
theorem dX5_turnRound_14 : decode cX5_turnRound 14 = .ok (.aload_n 1, 1) := by decide +kernel
theorem dX5_turnRound_15 : decode cX5_turnRound 15 = .ok (.invokevirtual 123, 3) := by decide +kernel
theorem dX5_turnRound_18 : decode cX5_turnRound 18 = .ok (.if_icmp .ge 44, 3) := by decide +kernel
theorem dX5_turnRound_21 : decode cX5_turnRound 21 = .ok (.aload_n 1, 1) := by decide +kernel
theorem dX5_turnRound_22 : decode cX5_turnRound 22 = .ok (.iload_n 2, 1) := by decide +kernel
theorem dX5_turnRound_23 : decode cX5_turnRound 23 = .ok (.invokevirtual 286, 3) := by decide +kernel
theorem dX5_turnRound_26 : decode cX5_turnRound 26 = .ok (.istore_n 3, 1) := by decide +kernel
theorem dX5_turnRound_27 : decode cX5_turnRound 27 = .ok (.aload_n 0, 1) := by decide +kernel
theorem dX5_turnRound_28 : decode cX5_turnRound 28 = .ok (.getfield 36, 3) := by decide +kernel
theorem dX5_turnRound_31 : decode cX5_turnRound 31 = .ok (.iload_n 3, 1) := by decide +kernel
theorem dX5_turnRound_32 : decode cX5_turnRound 32 = .ok (.aload_n 1, 1) := by decide +kernel
theorem dX5_turnRound_33 : decode cX5_turnRound 33 = .ok (.invokevirtual 130, 3) := by decide +kernel
theorem dX5_turnRound_36 : decode cX5_turnRound 36 = .ok (.iconst 1, 1) := by decide +kernel
theorem dX5_turnRound_37 : decode cX5_turnRound 37 = .ok (.isub, 1) := by decide +kernel
theorem dX5_turnRound_38 : decode cX5_turnRound 38 = .ok (.aload_n 1, 1) := by decide +kernel
theorem dX5_turnRound_39 : decode cX5_turnRound 39 = .ok (.iload_n 3, 1) := by decide +kernel
theorem dX5_turnRound_40 : decode cX5_turnRound 40 = .ok (.invokevirtual 295, 3) := by decide +kernel
theorem dX5_turnRound_43 : decode cX5_turnRound 43 = .ok (.isub, 1) := by decide +kernel
theorem dX5_turnRound_44 : decode cX5_turnRound 44 = .ok (.aload_n 0, 1) := by decide +kernel
theorem dX5_turnRound_45 : decode cX5_turnRound 45 = .ok (.getfield 10, 3) := by decide +kernel
theorem dX5_turnRound_48 : decode cX5_turnRound 48 = .ok (.iload_n 3, 1) := by decide +kernel
theorem dX5_turnRound_49 : decode cX5_turnRound 49 = .ok (.invokevirtual 68, 3) := by decide +kernel
theorem dX5_turnRound_52 : decode cX5_turnRound 52 = .ok (.invokevirtual 292, 3) := by decide +kernel
theorem dX5_turnRound_55 : decode cX5_turnRound 55 = .ok (.pop, 1) := by decide +kernel
theorem dX5_turnRound_56 : decode cX5_turnRound 56 = .ok (.iinc 2 1, 3) := by decide +kernel
theorem dX5_turnRound_59 : decode cX5_turnRound 59 = .ok (.goto (-46), 3) := by decide +kernel
theorem dX5_turnRound_62 : decode cX5_turnRound 62 = .ok (.aload_n 1, 1) := by decide +kernel
theorem dX5_turnRound_63 : decode cX5_turnRound 63 = .ok (.aload_n 0, 1) := by decide +kernel
theorem dX5_turnRound_64 : decode cX5_turnRound 64 = .ok (.getfield 36, 3) := by decide +kernel
theorem dX5_turnRound_67 : decode cX5_turnRound 67 = .ok (.invokevirtual 298, 3) := by decide +kernel
theorem dX5_turnRound_70 : decode cX5_turnRound 70 = .ok (.istore_n 2, 1) := by decide +kernel
theorem dX5_turnRound_71 : decode cX5_turnRound 71 = .ok (.aload_n 1, 1) := by decide +kernel
theorem dX5_turnRound_72 : decode cX5_turnRound 72 = .ok (.aload_n 0, 1) := by decide +kernel
theorem dX5_turnRound_73 : decode cX5_turnRound 73 = .ok (.getfield 36, 3) := by decide +kernel
theorem dX5_turnRound_76 : decode cX5_turnRound 76 = .ok (.invokevirtual 155, 3) := by decide +kernel
theorem dX5_turnRound_79 : decode cX5_turnRound 79 = .ok (.iload_n 2, 1) := by decide +kernel
theorem dX5_turnRound_80 : decode cX5_turnRound 80 = .ok (.ireturn, 1) := by decide +kernel
theorem dX5_draftJoined_0 : decode cX5_draftJoined 0 = .ok (.aload_n 0, 1) := by decide +kernel
theorem dX5_draftJoined_1 : decode cX5_draftJoined 1 = .ok (.getfield 36, 3) := by decide +kernel
theorem dX5_draftJoined_4 : decode cX5_draftJoined 4 = .ok (.aload_n 1, 1) := by decide +kernel
theorem dX5_draftJoined_5 : decode cX5_draftJoined 5 = .ok (.invokevirtual 130, 3) := by decide +kernel
theorem dX5_draftJoined_8 : decode cX5_draftJoined 8 = .ok (.aload_n 2, 1) := by decide +kernel
theorem dX5_draftJoined_9 : decode cX5_draftJoined 9 = .ok (.invokevirtual 130, 3) := by decide +kernel
theorem dX5_draftJoined_12 : decode cX5_draftJoined 12 = .ok (.iadd, 1) := by decide +kernel
theorem dX5_draftJoined_13 : decode cX5_draftJoined 13 = .ok (.invokevirtual 283, 3) := by decide +kernel
theorem dX5_draftJoined_16 : decode cX5_draftJoined 16 = .ok (.iconst 1, 1) := by decide +kernel
theorem dX5_draftJoined_17 : decode cX5_draftJoined 17 = .ok (.istore_n 3, 1) := by decide +kernel
theorem dX5_draftJoined_18 : decode cX5_draftJoined 18 = .ok (.iconst 0, 1) := by decide +kernel
theorem dX5_draftJoined_19 : decode cX5_draftJoined 19 = .ok (.istore 4, 2) := by decide +kernel
theorem dX5_draftJoined_21 : decode cX5_draftJoined 21 = .ok (.iload 4, 2) := by decide +kernel
theorem dX5_draftJoined_23 : decode cX5_draftJoined 23 = .ok (.aload_n 1, 1) := by decide +kernel
theorem dX5_draftJoined_24 : decode cX5_draftJoined 24 = .ok (.invokevirtual 123, 3) := by decide +kernel
theorem dX5_draftJoined_27 : decode cX5_draftJoined 27 = .ok (.if_icmp .ge 43, 3) := by decide +kernel
theorem dX5_draftJoined_30 : decode cX5_draftJoined 30 = .ok (.aload_n 1, 1) := by decide +kernel
theorem dX5_draftJoined_31 : decode cX5_draftJoined 31 = .ok (.iload 4, 2) := by decide +kernel
theorem dX5_draftJoined_33 : decode cX5_draftJoined 33 = .ok (.invokevirtual 286, 3) := by decide +kernel
theorem dX5_draftJoined_36 : decode cX5_draftJoined 36 = .ok (.istore 5, 2) := by decide +kernel
theorem dX5_draftJoined_38 : decode cX5_draftJoined 38 = .ok (.aload_n 0, 1) := by decide +kernel
theorem dX5_draftJoined_39 : decode cX5_draftJoined 39 = .ok (.iload 5, 2) := by decide +kernel
theorem dX5_draftJoined_41 : decode cX5_draftJoined 41 = .ok (.aload_n 1, 1) := by decide +kernel
theorem dX5_draftJoined_42 : decode cX5_draftJoined 42 = .ok (.iload 5, 2) := by decide +kernel
theorem dX5_draftJoined_44 : decode cX5_draftJoined 44 = .ok (.iconst 0, 1) := by decide +kernel
theorem dX5_draftJoined_45 : decode cX5_draftJoined 45 = .ok (.invokevirtual 289, 3) := by decide +kernel
theorem dX5_draftJoined_48 : decode cX5_draftJoined 48 = .ok (.invokevirtual 301, 3) := by decide +kernel
theorem dX5_draftJoined_51 : decode cX5_draftJoined 51 = .ok (.ifCond .eq 11, 3) := by decide +kernel
theorem dX5_draftJoined_54 : decode cX5_draftJoined 54 = .ok (.iload_n 3, 1) := by decide +kernel
theorem dX5_draftJoined_55 : decode cX5_draftJoined 55 = .ok (.ifCond .eq 7, 3) := by decide +kernel
theorem dX5_draftJoined_58 : decode cX5_draftJoined 58 = .ok (.iconst 1, 1) := by decide +kernel
theorem dX5_draftJoined_59 : decode cX5_draftJoined 59 = .ok (.goto 4, 3) := by decide +kernel
theorem dX5_draftJoined_62 : decode cX5_draftJoined 62 = .ok (.iconst 0, 1) := by decide +kernel
theorem dX5_draftJoined_63 : decode cX5_draftJoined 63 = .ok (.istore_n 3, 1) := by decide +kernel
theorem dX5_draftJoined_64 : decode cX5_draftJoined 64 = .ok (.iinc 4 1, 3) := by decide +kernel
theorem dX5_draftJoined_67 : decode cX5_draftJoined 67 = .ok (.goto (-46), 3) := by decide +kernel
theorem dX5_draftJoined_70 : decode cX5_draftJoined 70 = .ok (.iconst 0, 1) := by decide +kernel
theorem dX5_draftJoined_71 : decode cX5_draftJoined 71 = .ok (.istore 4, 2) := by decide +kernel
theorem dX5_draftJoined_73 : decode cX5_draftJoined 73 = .ok (.iload 4, 2) := by decide +kernel
theorem dX5_draftJoined_75 : decode cX5_draftJoined 75 = .ok (.aload_n 2, 1) := by decide +kernel
theorem dX5_draftJoined_76 : decode cX5_draftJoined 76 = .ok (.invokevirtual 123, 3) := by decide +kernel
theorem dX5_draftJoined_79 : decode cX5_draftJoined 79 = .ok (.if_icmp .ge 74, 3) := by decide +kernel
theorem dX5_draftJoined_82 : decode cX5_draftJoined 82 = .ok (.aload_n 2, 1) := by decide +kernel
theorem dX5_draftJoined_83 : decode cX5_draftJoined 83 = .ok (.iload 4, 2) := by decide +kernel
theorem dX5_draftJoined_85 : decode cX5_draftJoined 85 = .ok (.invokevirtual 286, 3) := by decide +kernel
theorem dX5_draftJoined_88 : decode cX5_draftJoined 88 = .ok (.istore 5, 2) := by decide +kernel
theorem dX5_draftJoined_90 : decode cX5_draftJoined 90 = .ok (.aload_n 1, 1) := by decide +kernel
theorem dX5_draftJoined_91 : decode cX5_draftJoined 91 = .ok (.iload 5, 2) := by decide +kernel
theorem dX5_draftJoined_93 : decode cX5_draftJoined 93 = .ok (.invokevirtual 109, 3) := by decide +kernel
theorem dX5_draftJoined_96 : decode cX5_draftJoined 96 = .ok (.iconst (-1), 1) := by decide +kernel
theorem dX5_draftJoined_97 : decode cX5_draftJoined 97 = .ok (.if_icmp .ne 50, 3) := by decide +kernel
theorem dX5_draftJoined_100 : decode cX5_draftJoined 100 = .ok (.aload_n 1, 1) := by decide +kernel
theorem dX5_draftJoined_101 : decode cX5_draftJoined 101 = .ok (.invokevirtual 130, 3) := by decide +kernel
theorem dX5_draftJoined_104 : decode cX5_draftJoined 104 = .ok (.aload_n 2, 1) := by decide +kernel
theorem dX5_draftJoined_105 : decode cX5_draftJoined 105 = .ok (.iload 5, 2) := by decide +kernel
theorem dX5_draftJoined_107 : decode cX5_draftJoined 107 = .ok (.iconst 0, 1) := by decide +kernel
theorem dX5_draftJoined_108 : decode cX5_draftJoined 108 = .ok (.invokevirtual 289, 3) := by decide +kernel
theorem dX5_draftJoined_111 : decode cX5_draftJoined 111 = .ok (.iadd, 1) := by decide +kernel
theorem dX5_draftJoined_112 : decode cX5_draftJoined 112 = .ok (.istore 6, 2) := by decide +kernel
theorem dX5_draftJoined_114 : decode cX5_draftJoined 114 = .ok (.aload_n 0, 1) := by decide +kernel
theorem dX5_draftJoined_115 : decode cX5_draftJoined 115 = .ok (.iload 5, 2) := by decide +kernel
theorem dX5_draftJoined_117 : decode cX5_draftJoined 117 = .ok (.iload 6, 2) := by decide +kernel
theorem dX5_draftJoined_119 : decode cX5_draftJoined 119 = .ok (.aload_n 0, 1) := by decide +kernel
theorem dX5_draftJoined_120 : decode cX5_draftJoined 120 = .ok (.getfield 10, 3) := by decide +kernel
theorem dX5_draftJoined_123 : decode cX5_draftJoined 123 = .ok (.iload 5, 2) := by decide +kernel
theorem dX5_draftJoined_125 : decode cX5_draftJoined 125 = .ok (.invokevirtual 68, 3) := by decide +kernel
theorem dX5_draftJoined_128 : decode cX5_draftJoined 128 = .ok (.invokestatic 304, 3) := by decide +kernel
theorem dX5_draftJoined_131 : decode cX5_draftJoined 131 = .ok (.invokevirtual 301, 3) := by decide +kernel
theorem dX5_draftJoined_134 : decode cX5_draftJoined 134 = .ok (.ifCond .eq 11, 3) := by decide +kernel
theorem dX5_draftJoined_137 : decode cX5_draftJoined 137 = .ok (.iload_n 3, 1) := by decide +kernel
theorem dX5_draftJoined_138 : decode cX5_draftJoined 138 = .ok (.ifCond .eq 7, 3) := by decide +kernel
theorem dX5_draftJoined_141 : decode cX5_draftJoined 141 = .ok (.iconst 1, 1) := by decide +kernel
theorem dX5_draftJoined_142 : decode cX5_draftJoined 142 = .ok (.goto 4, 3) := by decide +kernel
theorem dX5_draftJoined_145 : decode cX5_draftJoined 145 = .ok (.iconst 0, 1) := by decide +kernel
theorem dX5_draftJoined_146 : decode cX5_draftJoined 146 = .ok (.istore_n 3, 1) := by decide +kernel
theorem dX5_draftJoined_147 : decode cX5_draftJoined 147 = .ok (.iinc 4 1, 3) := by decide +kernel
theorem dX5_draftJoined_150 : decode cX5_draftJoined 150 = .ok (.goto (-77), 3) := by decide +kernel
theorem dX5_draftJoined_153 : decode cX5_draftJoined 153 = .ok (.iload_n 3, 1) := by decide +kernel
theorem dX5_draftJoined_154 : decode cX5_draftJoined 154 = .ok (.ireturn, 1) := by decide +kernel
theorem dX5_draftLaid_0 : decode cX5_draftLaid 0 = .ok (.aload_n 0, 1) := by decide +kernel
theorem dX5_draftLaid_1 : decode cX5_draftLaid 1 = .ok (.getfield 10, 3) := by decide +kernel
theorem dX5_draftLaid_4 : decode cX5_draftLaid 4 = .ok (.iload_n 1, 1) := by decide +kernel
theorem dX5_draftLaid_5 : decode cX5_draftLaid 5 = .ok (.invokevirtual 68, 3) := by decide +kernel
theorem dX5_draftLaid_8 : decode cX5_draftLaid 8 = .ok (.istore_n 3, 1) := by decide +kernel
theorem dX5_draftLaid_9 : decode cX5_draftLaid 9 = .ok (.aload_n 0, 1) := by decide +kernel
theorem dX5_draftLaid_10 : decode cX5_draftLaid 10 = .ok (.getfield 36, 3) := by decide +kernel
theorem dX5_draftLaid_13 : decode cX5_draftLaid 13 = .ok (.iload_n 1, 1) := by decide +kernel
theorem dX5_draftLaid_14 : decode cX5_draftLaid 14 = .ok (.iload_n 2, 1) := by decide +kernel
theorem dX5_draftLaid_15 : decode cX5_draftLaid 15 = .ok (.iload_n 3, 1) := by decide +kernel
theorem dX5_draftLaid_16 : decode cX5_draftLaid 16 = .ok (.invokevirtual 99, 3) := by decide +kernel
theorem dX5_draftLaid_19 : decode cX5_draftLaid 19 = .ok (.ifCond .eq 5, 3) := by decide +kernel
theorem dX5_draftLaid_22 : decode cX5_draftLaid 22 = .ok (.iconst 0, 1) := by decide +kernel
theorem dX5_draftLaid_23 : decode cX5_draftLaid 23 = .ok (.ireturn, 1) := by decide +kernel
theorem dX5_draftLaid_24 : decode cX5_draftLaid 24 = .ok (.aload_n 0, 1) := by decide +kernel
theorem dX5_draftLaid_25 : decode cX5_draftLaid 25 = .ok (.getfield 36, 3) := by decide +kernel
theorem dX5_draftLaid_28 : decode cX5_draftLaid 28 = .ok (.iload_n 1, 1) := by decide +kernel
theorem dX5_draftLaid_29 : decode cX5_draftLaid 29 = .ok (.iload_n 2, 1) := by decide +kernel
theorem dX5_draftLaid_30 : decode cX5_draftLaid 30 = .ok (.iload_n 3, 1) := by decide +kernel
theorem dX5_draftLaid_31 : decode cX5_draftLaid 31 = .ok (.invokevirtual 292, 3) := by decide +kernel
theorem dX5_draftLaid_34 : decode cX5_draftLaid 34 = .ok (.pop, 1) := by decide +kernel
theorem dX5_draftLaid_35 : decode cX5_draftLaid 35 = .ok (.iconst 1, 1) := by decide +kernel
theorem dX5_draftLaid_36 : decode cX5_draftLaid 36 = .ok (.ireturn, 1) := by decide +kernel
theorem dX5_playPart_0 : decode cX5_playPart 0 = .ok (.aload_n 0, 1) := by decide +kernel
theorem dX5_playPart_1 : decode cX5_playPart 1 = .ok (.getfield 29, 3) := by decide +kernel
theorem dX5_playPart_4 : decode cX5_playPart 4 = .ok (.iload_n 1, 1) := by decide +kernel
theorem dX5_playPart_5 : decode cX5_playPart 5 = .ok (.invokevirtual 265, 3) := by decide +kernel
theorem dX5_playPart_8 : decode cX5_playPart 8 = .ok (.istore_n 3, 1) := by decide +kernel
theorem dX5_playPart_9 : decode cX5_playPart 9 = .ok (.iload_n 3, 1) := by decide +kernel
theorem dX5_playPart_10 : decode cX5_playPart 10 = .ok (.bipush 114, 2) := by decide +kernel
theorem dX5_playPart_12 : decode cX5_playPart 12 = .ok (.if_icmp .ne 30, 3) := by decide +kernel
theorem dX5_playPart_15 : decode cX5_playPart 15 = .ok (.aload_n 0, 1) := by decide +kernel
theorem dX5_playPart_16 : decode cX5_playPart 16 = .ok (.getfield 10, 3) := by decide +kernel
theorem dX5_playPart_19 : decode cX5_playPart 19 = .ok (.aload_n 0, 1) := by decide +kernel
theorem dX5_playPart_20 : decode cX5_playPart 20 = .ok (.getfield 29, 3) := by decide +kernel
theorem dX5_playPart_23 : decode cX5_playPart 23 = .ok (.iload_n 1, 1) := by decide +kernel
theorem dX5_playPart_24 : decode cX5_playPart 24 = .ok (.iconst 1, 1) := by decide +kernel
theorem dX5_playPart_25 : decode cX5_playPart 25 = .ok (.iadd, 1) := by decide +kernel
theorem dX5_playPart_26 : decode cX5_playPart 26 = .ok (.iload_n 2, 1) := by decide +kernel
theorem dX5_playPart_27 : decode cX5_playPart 27 = .ok (.invokevirtual 307, 3) := by decide +kernel
theorem dX5_playPart_30 : decode cX5_playPart 30 = .ok (.invokevirtual 82, 3) := by decide +kernel
theorem dX5_playPart_33 : decode cX5_playPart 33 = .ok (.ifnull 7, 3) := by decide +kernel
theorem dX5_playPart_36 : decode cX5_playPart 36 = .ok (.iconst 1, 1) := by decide +kernel
theorem dX5_playPart_37 : decode cX5_playPart 37 = .ok (.goto 4, 3) := by decide +kernel
theorem dX5_playPart_40 : decode cX5_playPart 40 = .ok (.iconst 0, 1) := by decide +kernel
theorem dX5_playPart_41 : decode cX5_playPart 41 = .ok (.ireturn, 1) := by decide +kernel
theorem dX5_playPart_42 : decode cX5_playPart 42 = .ok (.aload_n 0, 1) := by decide +kernel
theorem dX5_playPart_43 : decode cX5_playPart 43 = .ok (.getfield 10, 3) := by decide +kernel
theorem dX5_playPart_46 : decode cX5_playPart 46 = .ok (.aload_n 0, 1) := by decide +kernel
theorem dX5_playPart_47 : decode cX5_playPart 47 = .ok (.getfield 10, 3) := by decide +kernel
theorem dX5_playPart_50 : decode cX5_playPart 50 = .ok (.invokevirtual 86, 3) := by decide +kernel
theorem dX5_playPart_53 : decode cX5_playPart 53 = .ok (.iconst 1, 1) := by decide +kernel
theorem dX5_playPart_54 : decode cX5_playPart 54 = .ok (.isub, 1) := by decide +kernel
theorem dX5_playPart_55 : decode cX5_playPart 55 = .ok (.invokevirtual 268, 3) := by decide +kernel
theorem dX5_playPart_58 : decode cX5_playPart 58 = .ok (.astore 4, 2) := by decide +kernel
theorem dX5_playPart_60 : decode cX5_playPart 60 = .ok (.aload 4, 2) := by decide +kernel
theorem dX5_playPart_62 : decode cX5_playPart 62 = .ok (.ifnonnull 5, 3) := by decide +kernel
theorem dX5_playPart_65 : decode cX5_playPart 65 = .ok (.iconst 0, 1) := by decide +kernel
theorem dX5_playPart_66 : decode cX5_playPart 66 = .ok (.ireturn, 1) := by decide +kernel
theorem dX5_playPart_67 : decode cX5_playPart 67 = .ok (.iload_n 3, 1) := by decide +kernel
theorem dX5_playPart_68 : decode cX5_playPart 68 = .ok (.bipush 60, 2) := by decide +kernel
theorem dX5_playPart_70 : decode cX5_playPart 70 = .ok (.if_icmp .ne 12, 3) := by decide +kernel
theorem dX5_playPart_73 : decode cX5_playPart 73 = .ok (.aload_n 0, 1) := by decide +kernel
theorem dX5_playPart_74 : decode cX5_playPart 74 = .ok (.aload 4, 2) := by decide +kernel
theorem dX5_playPart_76 : decode cX5_playPart 76 = .ok (.invokevirtual 142, 3) := by decide +kernel
theorem dX5_playPart_79 : decode cX5_playPart 79 = .ok (.pop, 1) := by decide +kernel
theorem dX5_playPart_80 : decode cX5_playPart 80 = .ok (.iconst 1, 1) := by decide +kernel
theorem dX5_playPart_81 : decode cX5_playPart 81 = .ok (.ireturn, 1) := by decide +kernel
theorem dX5_playPart_82 : decode cX5_playPart 82 = .ok (.iload_n 3, 1) := by decide +kernel
theorem dX5_playPart_83 : decode cX5_playPart 83 = .ok (.bipush 45, 2) := by decide +kernel
theorem dX5_playPart_85 : decode cX5_playPart 85 = .ok (.if_icmp .ne 30, 3) := by decide +kernel
theorem dX5_playPart_88 : decode cX5_playPart 88 = .ok (.aload 4, 2) := by decide +kernel
theorem dX5_playPart_90 : decode cX5_playPart 90 = .ok (.aload_n 0, 1) := by decide +kernel
theorem dX5_playPart_91 : decode cX5_playPart 91 = .ok (.getfield 29, 3) := by decide +kernel
theorem dX5_playPart_94 : decode cX5_playPart 94 = .ok (.iload_n 1, 1) := by decide +kernel
theorem dX5_playPart_95 : decode cX5_playPart 95 = .ok (.iconst 1, 1) := by decide +kernel
theorem dX5_playPart_96 : decode cX5_playPart 96 = .ok (.iadd, 1) := by decide +kernel
theorem dX5_playPart_97 : decode cX5_playPart 97 = .ok (.invokevirtual 265, 3) := by decide +kernel
theorem dX5_playPart_100 : decode cX5_playPart 100 = .ok (.bipush 97, 2) := by decide +kernel
theorem dX5_playPart_102 : decode cX5_playPart 102 = .ok (.isub, 1) := by decide +kernel
theorem dX5_playPart_103 : decode cX5_playPart 103 = .ok (.invokevirtual 114, 3) := by decide +kernel
theorem dX5_playPart_106 : decode cX5_playPart 106 = .ok (.ifCond .le 7, 3) := by decide +kernel
theorem dX5_playPart_109 : decode cX5_playPart 109 = .ok (.iconst 1, 1) := by decide +kernel
theorem dX5_playPart_110 : decode cX5_playPart 110 = .ok (.goto 4, 3) := by decide +kernel
theorem dX5_playPart_113 : decode cX5_playPart 113 = .ok (.iconst 0, 1) := by decide +kernel
theorem dX5_playPart_114 : decode cX5_playPart 114 = .ok (.ireturn, 1) := by decide +kernel
theorem dX5_playPart_115 : decode cX5_playPart 115 = .ok (.aload_n 0, 1) := by decide +kernel
theorem dX5_playPart_116 : decode cX5_playPart 116 = .ok (.aload 4, 2) := by decide +kernel
theorem dX5_playPart_118 : decode cX5_playPart 118 = .ok (.iload_n 3, 1) := by decide +kernel
theorem dX5_playPart_119 : decode cX5_playPart 119 = .ok (.bipush 97, 2) := by decide +kernel
theorem dX5_playPart_121 : decode cX5_playPart 121 = .ok (.isub, 1) := by decide +kernel
theorem dX5_playPart_122 : decode cX5_playPart 122 = .ok (.aload_n 0, 1) := by decide +kernel
theorem dX5_playPart_123 : decode cX5_playPart 123 = .ok (.getfield 29, 3) := by decide +kernel
theorem dX5_playPart_126 : decode cX5_playPart 126 = .ok (.iload_n 1, 1) := by decide +kernel
theorem dX5_playPart_127 : decode cX5_playPart 127 = .ok (.iconst 1, 1) := by decide +kernel
theorem dX5_playPart_128 : decode cX5_playPart 128 = .ok (.iadd, 1) := by decide +kernel
theorem dX5_playPart_129 : decode cX5_playPart 129 = .ok (.iload_n 2, 1) := by decide +kernel
theorem dX5_playPart_130 : decode cX5_playPart 130 = .ok (.invokevirtual 307, 3) := by decide +kernel
theorem dX5_playPart_133 : decode cX5_playPart 133 = .ok (.invokevirtual 310, 3) := by decide +kernel
theorem dX5_playPart_136 : decode cX5_playPart 136 = .ok (.ireturn, 1) := by decide +kernel
theorem dX5_playLaying_0 : decode cX5_playLaying 0 = .ok (.aload_n 0, 1) := by decide +kernel
theorem dX5_playLaying_1 : decode cX5_playLaying 1 = .ok (.getfield 10, 3) := by decide +kernel
theorem dX5_playLaying_4 : decode cX5_playLaying 4 = .ok (.iload_n 2, 1) := by decide +kernel
theorem dX5_playLaying_5 : decode cX5_playLaying 5 = .ok (.invokevirtual 68, 3) := by decide +kernel
theorem dX5_playLaying_8 : decode cX5_playLaying 8 = .ok (.istore 4, 2) := by decide +kernel
theorem dX5_playLaying_10 : decode cX5_playLaying 10 = .ok (.iload 4, 2) := by decide +kernel
theorem dX5_playLaying_12 : decode cX5_playLaying 12 = .ok (.iload_n 3, 1) := by decide +kernel
theorem dX5_playLaying_13 : decode cX5_playLaying 13 = .ok (.if_icmp .le 14, 3) := by decide +kernel
theorem dX5_playLaying_16 : decode cX5_playLaying 16 = .ok (.aload_n 1, 1) := by decide +kernel
theorem dX5_playLaying_17 : decode cX5_playLaying 17 = .ok (.iload_n 2, 1) := by decide +kernel
theorem dX5_playLaying_18 : decode cX5_playLaying 18 = .ok (.iload_n 3, 1) := by decide +kernel
theorem dX5_playLaying_19 : decode cX5_playLaying 19 = .ok (.iload 4, 2) := by decide +kernel
theorem dX5_playLaying_21 : decode cX5_playLaying 21 = .ok (.invokevirtual 99, 3) := by decide +kernel
theorem dX5_playLaying_24 : decode cX5_playLaying 24 = .ok (.ifCond .eq 5, 3) := by decide +kernel
theorem dX5_playLaying_27 : decode cX5_playLaying 27 = .ok (.iconst 0, 1) := by decide +kernel
theorem dX5_playLaying_28 : decode cX5_playLaying 28 = .ok (.ireturn, 1) := by decide +kernel
theorem dX5_playLaying_29 : decode cX5_playLaying 29 = .ok (.aload_n 0, 1) := by decide +kernel
theorem dX5_playLaying_30 : decode cX5_playLaying 30 = .ok (.getfield 10, 3) := by decide +kernel
theorem dX5_playLaying_33 : decode cX5_playLaying 33 = .ok (.aload_n 1, 1) := by decide +kernel
theorem dX5_playLaying_34 : decode cX5_playLaying 34 = .ok (.iload_n 2, 1) := by decide +kernel
theorem dX5_playLaying_35 : decode cX5_playLaying 35 = .ok (.iload_n 3, 1) := by decide +kernel
theorem dX5_playLaying_36 : decode cX5_playLaying 36 = .ok (.invokevirtual 105, 3) := by decide +kernel
theorem dX5_playLaying_39 : decode cX5_playLaying 39 = .ok (.pop, 1) := by decide +kernel
theorem dX5_playLaying_40 : decode cX5_playLaying 40 = .ok (.iconst 1, 1) := by decide +kernel
theorem dX5_playLaying_41 : decode cX5_playLaying 41 = .ok (.ireturn, 1) := by decide +kernel
theorem dX5_reasonAgainstJoining_0 : decode cX5_reasonAgainstJoining 0 = .ok (.aload_n 1, 1) := by decide +kernel
theorem dX5_reasonAgainstJoining_1 : decode cX5_reasonAgainstJoining 1 = .ok (.invokevirtual 130, 3) := by decide +kernel
theorem dX5_reasonAgainstJoining_4 : decode cX5_reasonAgainstJoining 4 = .ok (.aload_n 2, 1) := by decide +kernel
theorem dX5_reasonAgainstJoining_5 : decode cX5_reasonAgainstJoining 5 = .ok (.invokevirtual 130, 3) := by decide +kernel
theorem dX5_reasonAgainstJoining_8 : decode cX5_reasonAgainstJoining 8 = .ok (.iadd, 1) := by decide +kernel
theorem dX5_reasonAgainstJoining_9 : decode cX5_reasonAgainstJoining 9 = .ok (.bipush 60, 2) := by decide +kernel
theorem dX5_reasonAgainstJoining_11 : decode cX5_reasonAgainstJoining 11 = .ok (.if_icmp .le 5, 3) := by decide +kernel
theorem dX5_reasonAgainstJoining_14 : decode cX5_reasonAgainstJoining 14 = .ok (.iconst 2, 1) := by decide +kernel
theorem dX5_reasonAgainstJoining_15 : decode cX5_reasonAgainstJoining 15 = .ok (.ireturn, 1) := by decide +kernel
theorem dX5_reasonAgainstJoining_16 : decode cX5_reasonAgainstJoining 16 = .ok (.iconst 0, 1) := by decide +kernel
theorem dX5_reasonAgainstJoining_17 : decode cX5_reasonAgainstJoining 17 = .ok (.istore_n 3, 1) := by decide +kernel
theorem dX5_reasonAgainstJoining_18 : decode cX5_reasonAgainstJoining 18 = .ok (.iload_n 3, 1) := by decide +kernel
theorem dX5_reasonAgainstJoining_19 : decode cX5_reasonAgainstJoining 19 = .ok (.aload_n 1, 1) := by decide +kernel
theorem dX5_reasonAgainstJoining_20 : decode cX5_reasonAgainstJoining 20 = .ok (.invokevirtual 123, 3) := by decide +kernel
theorem dX5_reasonAgainstJoining_23 : decode cX5_reasonAgainstJoining 23 = .ok (.if_icmp .ge 63, 3) := by decide +kernel
theorem dX5_reasonAgainstJoining_26 : decode cX5_reasonAgainstJoining 26 = .ok (.aload_n 1, 1) := by decide +kernel
theorem dX5_reasonAgainstJoining_27 : decode cX5_reasonAgainstJoining 27 = .ok (.iload_n 3, 1) := by decide +kernel
theorem dX5_reasonAgainstJoining_28 : decode cX5_reasonAgainstJoining 28 = .ok (.invokevirtual 286, 3) := by decide +kernel
theorem dX5_reasonAgainstJoining_31 : decode cX5_reasonAgainstJoining 31 = .ok (.istore 4, 2) := by decide +kernel
theorem dX5_reasonAgainstJoining_33 : decode cX5_reasonAgainstJoining 33 = .ok (.aload_n 1, 1) := by decide +kernel
theorem dX5_reasonAgainstJoining_34 : decode cX5_reasonAgainstJoining 34 = .ok (.iload 4, 2) := by decide +kernel
theorem dX5_reasonAgainstJoining_36 : decode cX5_reasonAgainstJoining 36 = .ok (.invokevirtual 295, 3) := by decide +kernel
theorem dX5_reasonAgainstJoining_39 : decode cX5_reasonAgainstJoining 39 = .ok (.aload_n 0, 1) := by decide +kernel
theorem dX5_reasonAgainstJoining_40 : decode cX5_reasonAgainstJoining 40 = .ok (.getfield 10, 3) := by decide +kernel
theorem dX5_reasonAgainstJoining_43 : decode cX5_reasonAgainstJoining 43 = .ok (.iload 4, 2) := by decide +kernel
theorem dX5_reasonAgainstJoining_45 : decode cX5_reasonAgainstJoining 45 = .ok (.invokevirtual 68, 3) := by decide +kernel
theorem dX5_reasonAgainstJoining_48 : decode cX5_reasonAgainstJoining 48 = .ok (.iadd, 1) := by decide +kernel
theorem dX5_reasonAgainstJoining_49 : decode cX5_reasonAgainstJoining 49 = .ok (.istore 5, 2) := by decide +kernel
theorem dX5_reasonAgainstJoining_51 : decode cX5_reasonAgainstJoining 51 = .ok (.aload_n 2, 1) := by decide +kernel
theorem dX5_reasonAgainstJoining_52 : decode cX5_reasonAgainstJoining 52 = .ok (.iload 4, 2) := by decide +kernel
theorem dX5_reasonAgainstJoining_54 : decode cX5_reasonAgainstJoining 54 = .ok (.invokevirtual 109, 3) := by decide +kernel
theorem dX5_reasonAgainstJoining_57 : decode cX5_reasonAgainstJoining 57 = .ok (.iconst (-1), 1) := by decide +kernel
theorem dX5_reasonAgainstJoining_58 : decode cX5_reasonAgainstJoining 58 = .ok (.if_icmp .eq 22, 3) := by decide +kernel
theorem dX5_reasonAgainstJoining_61 : decode cX5_reasonAgainstJoining 61 = .ok (.iload 5, 2) := by decide +kernel
theorem dX5_reasonAgainstJoining_63 : decode cX5_reasonAgainstJoining 63 = .ok (.aload_n 1, 1) := by decide +kernel
theorem dX5_reasonAgainstJoining_64 : decode cX5_reasonAgainstJoining 64 = .ok (.invokevirtual 130, 3) := by decide +kernel
theorem dX5_reasonAgainstJoining_67 : decode cX5_reasonAgainstJoining 67 = .ok (.aload_n 2, 1) := by decide +kernel
theorem dX5_reasonAgainstJoining_68 : decode cX5_reasonAgainstJoining 68 = .ok (.iload 4, 2) := by decide +kernel
theorem dX5_reasonAgainstJoining_70 : decode cX5_reasonAgainstJoining 70 = .ok (.iconst 0, 1) := by decide +kernel
theorem dX5_reasonAgainstJoining_71 : decode cX5_reasonAgainstJoining 71 = .ok (.invokevirtual 289, 3) := by decide +kernel
theorem dX5_reasonAgainstJoining_74 : decode cX5_reasonAgainstJoining 74 = .ok (.iadd, 1) := by decide +kernel
theorem dX5_reasonAgainstJoining_75 : decode cX5_reasonAgainstJoining 75 = .ok (.if_icmp .eq 5, 3) := by decide +kernel
theorem dX5_reasonAgainstJoining_78 : decode cX5_reasonAgainstJoining 78 = .ok (.iconst 3, 1) := by decide +kernel
theorem dX5_reasonAgainstJoining_79 : decode cX5_reasonAgainstJoining 79 = .ok (.ireturn, 1) := by decide +kernel
theorem dX5_reasonAgainstJoining_80 : decode cX5_reasonAgainstJoining 80 = .ok (.iinc 3 1, 3) := by decide +kernel
theorem dX5_reasonAgainstJoining_83 : decode cX5_reasonAgainstJoining 83 = .ok (.goto (-65), 3) := by decide +kernel
theorem dX5_reasonAgainstJoining_86 : decode cX5_reasonAgainstJoining 86 = .ok (.aload_n 0, 1) := by decide +kernel
theorem dX5_reasonAgainstJoining_87 : decode cX5_reasonAgainstJoining 87 = .ok (.aload_n 1, 1) := by decide +kernel
theorem dX5_reasonAgainstJoining_88 : decode cX5_reasonAgainstJoining 88 = .ok (.aload_n 2, 1) := by decide +kernel
theorem dX5_reasonAgainstJoining_89 : decode cX5_reasonAgainstJoining 89 = .ok (.invokevirtual 151, 3) := by decide +kernel
theorem dX5_reasonAgainstJoining_92 : decode cX5_reasonAgainstJoining 92 = .ok (.ifCond .eq 7, 3) := by decide +kernel
theorem dX5_reasonAgainstJoining_95 : decode cX5_reasonAgainstJoining 95 = .ok (.iconst 0, 1) := by decide +kernel
theorem dX5_reasonAgainstJoining_96 : decode cX5_reasonAgainstJoining 96 = .ok (.goto 4, 3) := by decide +kernel
theorem dX5_reasonAgainstJoining_99 : decode cX5_reasonAgainstJoining 99 = .ok (.iconst 4, 1) := by decide +kernel
theorem dX5_reasonAgainstJoining_100 : decode cX5_reasonAgainstJoining 100 = .ok (.ireturn, 1) := by decide +kernel
theorem dX5_greatestLength_0 : decode cX5_greatestLength 0 = .ok (.aload_n 1, 1) := by decide +kernel
theorem dX5_greatestLength_1 : decode cX5_greatestLength 1 = .ok (.invokevirtual 130, 3) := by decide +kernel
theorem dX5_greatestLength_4 : decode cX5_greatestLength 4 = .ok (.istore_n 2, 1) := by decide +kernel
theorem dX5_greatestLength_5 : decode cX5_greatestLength 5 = .ok (.iload_n 2, 1) := by decide +kernel
theorem dX5_greatestLength_6 : decode cX5_greatestLength 6 = .ok (.bipush 60, 2) := by decide +kernel
theorem dX5_greatestLength_8 : decode cX5_greatestLength 8 = .ok (.if_icmp .ge 21, 3) := by decide +kernel
theorem dX5_greatestLength_11 : decode cX5_greatestLength 11 = .ok (.aload_n 0, 1) := by decide +kernel
theorem dX5_greatestLength_12 : decode cX5_greatestLength 12 = .ok (.aload_n 1, 1) := by decide +kernel
theorem dX5_greatestLength_13 : decode cX5_greatestLength 13 = .ok (.iload_n 2, 1) := by decide +kernel
theorem dX5_greatestLength_14 : decode cX5_greatestLength 14 = .ok (.invokevirtual 314, 3) := by decide +kernel
theorem dX5_greatestLength_17 : decode cX5_greatestLength 17 = .ok (.iconst 1, 1) := by decide +kernel
theorem dX5_greatestLength_18 : decode cX5_greatestLength 18 = .ok (.if_icmp .le 5, 3) := by decide +kernel
theorem dX5_greatestLength_21 : decode cX5_greatestLength 21 = .ok (.iload_n 2, 1) := by decide +kernel
theorem dX5_greatestLength_22 : decode cX5_greatestLength 22 = .ok (.ireturn, 1) := by decide +kernel
theorem dX5_greatestLength_23 : decode cX5_greatestLength 23 = .ok (.iinc 2 1, 3) := by decide +kernel
theorem dX5_greatestLength_26 : decode cX5_greatestLength 26 = .ok (.goto (-21), 3) := by decide +kernel
theorem dX5_greatestLength_29 : decode cX5_greatestLength 29 = .ok (.bipush 60, 2) := by decide +kernel
theorem dX5_greatestLength_31 : decode cX5_greatestLength 31 = .ok (.ireturn, 1) := by decide +kernel
theorem dX5_huesDueAt_0 : decode cX5_huesDueAt 0 = .ok (.iconst 0, 1) := by decide +kernel
theorem dX5_huesDueAt_1 : decode cX5_huesDueAt 1 = .ok (.istore_n 3, 1) := by decide +kernel
theorem dX5_huesDueAt_2 : decode cX5_huesDueAt 2 = .ok (.iconst 0, 1) := by decide +kernel
theorem dX5_huesDueAt_3 : decode cX5_huesDueAt 3 = .ok (.istore 4, 2) := by decide +kernel
theorem dX5_huesDueAt_5 : decode cX5_huesDueAt 5 = .ok (.iload 4, 2) := by decide +kernel
theorem dX5_huesDueAt_7 : decode cX5_huesDueAt 7 = .ok (.aload_n 1, 1) := by decide +kernel
theorem dX5_huesDueAt_8 : decode cX5_huesDueAt 8 = .ok (.invokevirtual 123, 3) := by decide +kernel
theorem dX5_huesDueAt_11 : decode cX5_huesDueAt 11 = .ok (.if_icmp .ge 44, 3) := by decide +kernel
theorem dX5_huesDueAt_14 : decode cX5_huesDueAt 14 = .ok (.aload_n 1, 1) := by decide +kernel
theorem dX5_huesDueAt_15 : decode cX5_huesDueAt 15 = .ok (.iload 4, 2) := by decide +kernel
theorem dX5_huesDueAt_17 : decode cX5_huesDueAt 17 = .ok (.invokevirtual 286, 3) := by decide +kernel
theorem dX5_huesDueAt_20 : decode cX5_huesDueAt 20 = .ok (.istore 5, 2) := by decide +kernel
theorem dX5_huesDueAt_22 : decode cX5_huesDueAt 22 = .ok (.iload_n 2, 1) := by decide +kernel
theorem dX5_huesDueAt_23 : decode cX5_huesDueAt 23 = .ok (.aload_n 1, 1) := by decide +kernel
theorem dX5_huesDueAt_24 : decode cX5_huesDueAt 24 = .ok (.iload 5, 2) := by decide +kernel
theorem dX5_huesDueAt_26 : decode cX5_huesDueAt 26 = .ok (.iconst 0, 1) := by decide +kernel
theorem dX5_huesDueAt_27 : decode cX5_huesDueAt 27 = .ok (.invokevirtual 289, 3) := by decide +kernel
theorem dX5_huesDueAt_30 : decode cX5_huesDueAt 30 = .ok (.isub, 1) := by decide +kernel
theorem dX5_huesDueAt_31 : decode cX5_huesDueAt 31 = .ok (.aload_n 0, 1) := by decide +kernel
theorem dX5_huesDueAt_32 : decode cX5_huesDueAt 32 = .ok (.getfield 10, 3) := by decide +kernel
theorem dX5_huesDueAt_35 : decode cX5_huesDueAt 35 = .ok (.iload 5, 2) := by decide +kernel
theorem dX5_huesDueAt_37 : decode cX5_huesDueAt 37 = .ok (.invokevirtual 68, 3) := by decide +kernel
theorem dX5_huesDueAt_40 : decode cX5_huesDueAt 40 = .ok (.invokestatic 304, 3) := by decide +kernel
theorem dX5_huesDueAt_43 : decode cX5_huesDueAt 43 = .ok (.ifCond .ne 6, 3) := by decide +kernel
theorem dX5_huesDueAt_46 : decode cX5_huesDueAt 46 = .ok (.iinc 3 1, 3) := by decide +kernel
theorem dX5_huesDueAt_49 : decode cX5_huesDueAt 49 = .ok (.iinc 4 1, 3) := by decide +kernel
theorem dX5_huesDueAt_52 : decode cX5_huesDueAt 52 = .ok (.goto (-47), 3) := by decide +kernel
theorem dX5_huesDueAt_55 : decode cX5_huesDueAt 55 = .ok (.iload_n 3, 1) := by decide +kernel
theorem dX5_huesDueAt_56 : decode cX5_huesDueAt 56 = .ok (.ireturn, 1) := by decide +kernel
theorem dX5_fillingHue_0 : decode cX5_fillingHue 0 = .ok (.iconst (-1), 1) := by decide +kernel
theorem dX5_fillingHue_1 : decode cX5_fillingHue 1 = .ok (.istore_n 2, 1) := by decide +kernel
theorem dX5_fillingHue_2 : decode cX5_fillingHue 2 = .ok (.iconst 0, 1) := by decide +kernel
theorem dX5_fillingHue_3 : decode cX5_fillingHue 3 = .ok (.istore_n 3, 1) := by decide +kernel
theorem dX5_fillingHue_4 : decode cX5_fillingHue 4 = .ok (.iconst 0, 1) := by decide +kernel
theorem dX5_fillingHue_5 : decode cX5_fillingHue 5 = .ok (.istore 4, 2) := by decide +kernel
theorem dX5_fillingHue_7 : decode cX5_fillingHue 7 = .ok (.iload 4, 2) := by decide +kernel
theorem dX5_fillingHue_9 : decode cX5_fillingHue 9 = .ok (.bipush 8, 2) := by decide +kernel
theorem dX5_fillingHue_11 : decode cX5_fillingHue 11 = .ok (.if_icmp .ge 62, 3) := by decide +kernel
theorem dX5_fillingHue_14 : decode cX5_fillingHue 14 = .ok (.aload_n 0, 1) := by decide +kernel
theorem dX5_fillingHue_15 : decode cX5_fillingHue 15 = .ok (.getfield 10, 3) := by decide +kernel
theorem dX5_fillingHue_18 : decode cX5_fillingHue 18 = .ok (.iload 4, 2) := by decide +kernel
theorem dX5_fillingHue_20 : decode cX5_fillingHue 20 = .ok (.invokevirtual 68, 3) := by decide +kernel
theorem dX5_fillingHue_23 : decode cX5_fillingHue 23 = .ok (.istore 5, 2) := by decide +kernel
theorem dX5_fillingHue_25 : decode cX5_fillingHue 25 = .ok (.aload_n 1, 1) := by decide +kernel
theorem dX5_fillingHue_26 : decode cX5_fillingHue 26 = .ok (.iload 4, 2) := by decide +kernel
theorem dX5_fillingHue_28 : decode cX5_fillingHue 28 = .ok (.iload 5, 2) := by decide +kernel
theorem dX5_fillingHue_30 : decode cX5_fillingHue 30 = .ok (.invokevirtual 317, 3) := by decide +kernel
theorem dX5_fillingHue_33 : decode cX5_fillingHue 33 = .ok (.istore 6, 2) := by decide +kernel
theorem dX5_fillingHue_35 : decode cX5_fillingHue 35 = .ok (.iload 6, 2) := by decide +kernel
theorem dX5_fillingHue_37 : decode cX5_fillingHue 37 = .ok (.iconst (-1), 1) := by decide +kernel
theorem dX5_fillingHue_38 : decode cX5_fillingHue 38 = .ok (.if_icmp .ne 7, 3) := by decide +kernel
theorem dX5_fillingHue_41 : decode cX5_fillingHue 41 = .ok (.iconst 0, 1) := by decide +kernel
theorem dX5_fillingHue_42 : decode cX5_fillingHue 42 = .ok (.goto 11, 3) := by decide +kernel
theorem dX5_fillingHue_45 : decode cX5_fillingHue 45 = .ok (.aload_n 1, 1) := by decide +kernel
theorem dX5_fillingHue_46 : decode cX5_fillingHue 46 = .ok (.iload 6, 2) := by decide +kernel
theorem dX5_fillingHue_48 : decode cX5_fillingHue 48 = .ok (.iload 5, 2) := by decide +kernel
theorem dX5_fillingHue_50 : decode cX5_fillingHue 50 = .ok (.invokevirtual 320, 3) := by decide +kernel
theorem dX5_fillingHue_53 : decode cX5_fillingHue 53 = .ok (.istore 7, 2) := by decide +kernel
theorem dX5_fillingHue_55 : decode cX5_fillingHue 55 = .ok (.iload 7, 2) := by decide +kernel
theorem dX5_fillingHue_57 : decode cX5_fillingHue 57 = .ok (.iload_n 3, 1) := by decide +kernel
theorem dX5_fillingHue_58 : decode cX5_fillingHue 58 = .ok (.if_icmp .le 9, 3) := by decide +kernel
theorem dX5_fillingHue_61 : decode cX5_fillingHue 61 = .ok (.iload 7, 2) := by decide +kernel
theorem dX5_fillingHue_63 : decode cX5_fillingHue 63 = .ok (.istore_n 3, 1) := by decide +kernel
theorem dX5_fillingHue_64 : decode cX5_fillingHue 64 = .ok (.iload 4, 2) := by decide +kernel
theorem dX5_fillingHue_66 : decode cX5_fillingHue 66 = .ok (.istore_n 2, 1) := by decide +kernel
theorem dX5_fillingHue_67 : decode cX5_fillingHue 67 = .ok (.iinc 4 1, 3) := by decide +kernel
theorem dX5_fillingHue_70 : decode cX5_fillingHue 70 = .ok (.goto (-63), 3) := by decide +kernel
theorem dX5_fillingHue_73 : decode cX5_fillingHue 73 = .ok (.iload_n 2, 1) := by decide +kernel
theorem dX5_fillingHue_74 : decode cX5_fillingHue 74 = .ok (.ireturn, 1) := by decide +kernel
theorem dX5_period_0 : decode cX5_period 0 = .ok (.iconst 1, 1) := by decide +kernel
theorem dX5_period_1 : decode cX5_period 1 = .ok (.istore_n 2, 1) := by decide +kernel
theorem dX5_period_2 : decode cX5_period 2 = .ok (.iconst 0, 1) := by decide +kernel
theorem dX5_period_3 : decode cX5_period 3 = .ok (.istore_n 3, 1) := by decide +kernel
theorem dX5_period_4 : decode cX5_period 4 = .ok (.iload_n 3, 1) := by decide +kernel
theorem dX5_period_5 : decode cX5_period 5 = .ok (.aload_n 1, 1) := by decide +kernel
theorem dX5_period_6 : decode cX5_period 6 = .ok (.invokevirtual 123, 3) := by decide +kernel
theorem dX5_period_9 : decode cX5_period 9 = .ok (.if_icmp .ge 26, 3) := by decide +kernel
theorem dX5_period_12 : decode cX5_period 12 = .ok (.iload_n 2, 1) := by decide +kernel
theorem dX5_period_13 : decode cX5_period 13 = .ok (.aload_n 0, 1) := by decide +kernel
theorem dX5_period_14 : decode cX5_period 14 = .ok (.getfield 10, 3) := by decide +kernel
theorem dX5_period_17 : decode cX5_period 17 = .ok (.aload_n 1, 1) := by decide +kernel
theorem dX5_period_18 : decode cX5_period 18 = .ok (.iload_n 3, 1) := by decide +kernel
theorem dX5_period_19 : decode cX5_period 19 = .ok (.invokevirtual 286, 3) := by decide +kernel
theorem dX5_period_22 : decode cX5_period 22 = .ok (.invokevirtual 68, 3) := by decide +kernel
theorem dX5_period_25 : decode cX5_period 25 = .ok (.invokestatic 323, 3) := by decide +kernel
theorem dX5_period_28 : decode cX5_period 28 = .ok (.istore_n 2, 1) := by decide +kernel
theorem dX5_period_29 : decode cX5_period 29 = .ok (.iinc 3 1, 3) := by decide +kernel
theorem dX5_period_32 : decode cX5_period 32 = .ok (.goto (-28), 3) := by decide +kernel
theorem dX5_period_35 : decode cX5_period 35 = .ok (.iload_n 2, 1) := by decide +kernel
theorem dX5_period_36 : decode cX5_period 36 = .ok (.ireturn, 1) := by decide +kernel
theorem dX5_ropeNumber_0 : decode cX5_ropeNumber 0 = .ok (.iload_n 2, 1) := by decide +kernel
theorem dX5_ropeNumber_1 : decode cX5_ropeNumber 1 = .ok (.tableswitch 63 0 4 #[35, 40, 45, 51, 58], 35) := by decide +kernel
theorem dX5_ropeNumber_36 : decode cX5_ropeNumber 36 = .ok (.aload_n 1, 1) := by decide +kernel
theorem dX5_ropeNumber_37 : decode cX5_ropeNumber 37 = .ok (.invokevirtual 130, 3) := by decide +kernel
theorem dX5_ropeNumber_40 : decode cX5_ropeNumber 40 = .ok (.ireturn, 1) := by decide +kernel
theorem dX5_ropeNumber_41 : decode cX5_ropeNumber 41 = .ok (.aload_n 1, 1) := by decide +kernel
theorem dX5_ropeNumber_42 : decode cX5_ropeNumber 42 = .ok (.invokevirtual 123, 3) := by decide +kernel
theorem dX5_ropeNumber_45 : decode cX5_ropeNumber 45 = .ok (.ireturn, 1) := by decide +kernel
theorem dX5_ropeNumber_46 : decode cX5_ropeNumber 46 = .ok (.aload_n 1, 1) := by decide +kernel
theorem dX5_ropeNumber_47 : decode cX5_ropeNumber 47 = .ok (.iconst (-1), 1) := by decide +kernel
theorem dX5_ropeNumber_48 : decode cX5_ropeNumber 48 = .ok (.invokevirtual 326, 3) := by decide +kernel
theorem dX5_ropeNumber_51 : decode cX5_ropeNumber 51 = .ok (.ireturn, 1) := by decide +kernel
theorem dX5_ropeNumber_52 : decode cX5_ropeNumber 52 = .ok (.aload_n 1, 1) := by decide +kernel
theorem dX5_ropeNumber_53 : decode cX5_ropeNumber 53 = .ok (.iconst (-1), 1) := by decide +kernel
theorem dX5_ropeNumber_54 : decode cX5_ropeNumber 54 = .ok (.iconst 0, 1) := by decide +kernel
theorem dX5_ropeNumber_55 : decode cX5_ropeNumber 55 = .ok (.invokevirtual 289, 3) := by decide +kernel
theorem dX5_ropeNumber_58 : decode cX5_ropeNumber 58 = .ok (.ireturn, 1) := by decide +kernel
theorem dX5_ropeNumber_59 : decode cX5_ropeNumber 59 = .ok (.aload_n 1, 1) := by decide +kernel
theorem dX5_ropeNumber_60 : decode cX5_ropeNumber 60 = .ok (.invokevirtual 329, 3) := by decide +kernel
theorem dX5_ropeNumber_63 : decode cX5_ropeNumber 63 = .ok (.ireturn, 1) := by decide +kernel
theorem dX5_ropeNumber_64 : decode cX5_ropeNumber 64 = .ok (.aload_n 0, 1) := by decide +kernel
theorem dX5_ropeNumber_65 : decode cX5_ropeNumber 65 = .ok (.aload_n 1, 1) := by decide +kernel
theorem dX5_ropeNumber_66 : decode cX5_ropeNumber 66 = .ok (.invokevirtual 332, 3) := by decide +kernel
theorem dX5_ropeNumber_69 : decode cX5_ropeNumber 69 = .ok (.ireturn, 1) := by decide +kernel
theorem dX5_counted_0 : decode cX5_counted 0 = .ok (.iload_n 1, 1) := by decide +kernel
theorem dX5_counted_1 : decode cX5_counted 1 = .ok (.tableswitch 99 0 6 #[43, 51, 59, 67, 75, 83, 91], 43) := by decide +kernel
theorem dX5_counted_44 : decode cX5_counted 44 = .ok (.aload_n 0, 1) := by decide +kernel
theorem dX5_counted_45 : decode cX5_counted 45 = .ok (.getfield 10, 3) := by decide +kernel
theorem dX5_counted_48 : decode cX5_counted 48 = .ok (.invokevirtual 86, 3) := by decide +kernel
theorem dX5_counted_51 : decode cX5_counted 51 = .ok (.ireturn, 1) := by decide +kernel
theorem dX5_counted_52 : decode cX5_counted 52 = .ok (.aload_n 0, 1) := by decide +kernel
theorem dX5_counted_53 : decode cX5_counted 53 = .ok (.getfield 10, 3) := by decide +kernel
theorem dX5_counted_56 : decode cX5_counted 56 = .ok (.invokevirtual 241, 3) := by decide +kernel
theorem dX5_counted_59 : decode cX5_counted 59 = .ok (.ireturn, 1) := by decide +kernel
theorem dX5_counted_60 : decode cX5_counted 60 = .ok (.aload_n 0, 1) := by decide +kernel
theorem dX5_counted_61 : decode cX5_counted 61 = .ok (.getfield 10, 3) := by decide +kernel
theorem dX5_counted_64 : decode cX5_counted 64 = .ok (.invokevirtual 244, 3) := by decide +kernel
theorem dX5_counted_67 : decode cX5_counted 67 = .ok (.ireturn, 1) := by decide +kernel
theorem dX5_counted_68 : decode cX5_counted 68 = .ok (.aload_n 0, 1) := by decide +kernel
theorem dX5_counted_69 : decode cX5_counted 69 = .ok (.getfield 10, 3) := by decide +kernel
theorem dX5_counted_72 : decode cX5_counted 72 = .ok (.invokevirtual 335, 3) := by decide +kernel
theorem dX5_counted_75 : decode cX5_counted 75 = .ok (.ireturn, 1) := by decide +kernel
theorem dX5_counted_76 : decode cX5_counted 76 = .ok (.aload_n 0, 1) := by decide +kernel
theorem dX5_counted_77 : decode cX5_counted 77 = .ok (.getfield 10, 3) := by decide +kernel
theorem dX5_counted_80 : decode cX5_counted 80 = .ok (.invokevirtual 338, 3) := by decide +kernel
theorem dX5_counted_83 : decode cX5_counted 83 = .ok (.ireturn, 1) := by decide +kernel
theorem dX5_counted_84 : decode cX5_counted 84 = .ok (.aload_n 0, 1) := by decide +kernel
theorem dX5_counted_85 : decode cX5_counted 85 = .ok (.getfield 10, 3) := by decide +kernel
theorem dX5_counted_88 : decode cX5_counted 88 = .ok (.invokevirtual 341, 3) := by decide +kernel
theorem dX5_counted_91 : decode cX5_counted 91 = .ok (.ireturn, 1) := by decide +kernel
theorem dX5_counted_92 : decode cX5_counted 92 = .ok (.aload_n 0, 1) := by decide +kernel
theorem dX5_counted_93 : decode cX5_counted 93 = .ok (.getfield 10, 3) := by decide +kernel
theorem dX5_counted_96 : decode cX5_counted 96 = .ok (.invokevirtual 344, 3) := by decide +kernel
theorem dX5_counted_99 : decode cX5_counted 99 = .ok (.ireturn, 1) := by decide +kernel
theorem dX5_counted_100 : decode cX5_counted 100 = .ok (.aload_n 0, 1) := by decide +kernel
theorem dX5_counted_101 : decode cX5_counted 101 = .ok (.getfield 22, 3) := by decide +kernel
theorem dX5_counted_104 : decode cX5_counted 104 = .ok (.invokevirtual 192, 3) := by decide +kernel
theorem dX5_counted_107 : decode cX5_counted 107 = .ok (.ireturn, 1) := by decide +kernel
theorem dX5_mixed_0 : decode cX5_mixed 0 = .ok (.ldc2_w 347, 3) := by decide +kernel
theorem dX5_mixed_3 : decode cX5_mixed 3 = .ok (.lload_n 0, 1) := by decide +kernel
theorem dX5_mixed_4 : decode cX5_mixed 4 = .ok (.lmul, 1) := by decide +kernel
theorem dX5_mixed_5 : decode cX5_mixed 5 = .ok (.lload_n 2, 1) := by decide +kernel
theorem dX5_mixed_6 : decode cX5_mixed 6 = .ok (.ladd, 1) := by decide +kernel
theorem dX5_mixed_7 : decode cX5_mixed 7 = .ok (.lreturn, 1) := by decide +kernel
theorem dX5_ropeMixed_0 : decode cX5_ropeMixed 0 = .ok (.aload_n 0, 1) := by decide +kernel
theorem dX5_ropeMixed_1 : decode cX5_ropeMixed 1 = .ok (.getfield 10, 3) := by decide +kernel
theorem dX5_ropeMixed_4 : decode cX5_ropeMixed 4 = .ok (.iload_n 3, 1) := by decide +kernel
theorem dX5_ropeMixed_5 : decode cX5_ropeMixed 5 = .ok (.invokevirtual 268, 3) := by decide +kernel
theorem dX5_ropeMixed_8 : decode cX5_ropeMixed 8 = .ok (.astore 4, 2) := by decide +kernel
theorem dX5_ropeMixed_10 : decode cX5_ropeMixed 10 = .ok (.aload_n 0, 1) := by decide +kernel
theorem dX5_ropeMixed_11 : decode cX5_ropeMixed 11 = .ok (.getfield 10, 3) := by decide +kernel
theorem dX5_ropeMixed_14 : decode cX5_ropeMixed 14 = .ok (.iconst 0, 1) := by decide +kernel
theorem dX5_ropeMixed_15 : decode cX5_ropeMixed 15 = .ok (.invokevirtual 268, 3) := by decide +kernel
theorem dX5_ropeMixed_18 : decode cX5_ropeMixed 18 = .ok (.astore 5, 2) := by decide +kernel
theorem dX5_ropeMixed_20 : decode cX5_ropeMixed 20 = .ok (.aload 4, 2) := by decide +kernel
theorem dX5_ropeMixed_22 : decode cX5_ropeMixed 22 = .ok (.ifnull 8, 3) := by decide +kernel
theorem dX5_ropeMixed_25 : decode cX5_ropeMixed 25 = .ok (.aload 5, 2) := by decide +kernel
theorem dX5_ropeMixed_27 : decode cX5_ropeMixed 27 = .ok (.ifnonnull 5, 3) := by decide +kernel
theorem dX5_ropeMixed_30 : decode cX5_ropeMixed 30 = .ok (.lload_n 1, 1) := by decide +kernel
theorem dX5_ropeMixed_31 : decode cX5_ropeMixed 31 = .ok (.lreturn, 1) := by decide +kernel
theorem dX5_ropeMixed_32 : decode cX5_ropeMixed 32 = .ok (.lload_n 1, 1) := by decide +kernel
theorem dX5_ropeMixed_33 : decode cX5_ropeMixed 33 = .ok (.lstore 6, 2) := by decide +kernel
theorem dX5_ropeMixed_35 : decode cX5_ropeMixed 35 = .ok (.iconst 0, 1) := by decide +kernel
theorem dX5_ropeMixed_36 : decode cX5_ropeMixed 36 = .ok (.istore 8, 2) := by decide +kernel
theorem dX5_ropeMixed_38 : decode cX5_ropeMixed 38 = .ok (.iload 8, 2) := by decide +kernel
theorem dX5_ropeMixed_40 : decode cX5_ropeMixed 40 = .ok (.bipush 6, 2) := by decide +kernel
theorem dX5_ropeMixed_42 : decode cX5_ropeMixed 42 = .ok (.if_icmp .ge 25, 3) := by decide +kernel
theorem dX5_ropeMixed_45 : decode cX5_ropeMixed 45 = .ok (.lload 6, 2) := by decide +kernel
theorem dX5_ropeMixed_47 : decode cX5_ropeMixed 47 = .ok (.aload_n 0, 1) := by decide +kernel
theorem dX5_ropeMixed_48 : decode cX5_ropeMixed 48 = .ok (.aload 4, 2) := by decide +kernel
theorem dX5_ropeMixed_50 : decode cX5_ropeMixed 50 = .ok (.iload 8, 2) := by decide +kernel
theorem dX5_ropeMixed_52 : decode cX5_ropeMixed 52 = .ok (.invokevirtual 215, 3) := by decide +kernel
theorem dX5_ropeMixed_55 : decode cX5_ropeMixed 55 = .ok (.i2l, 1) := by decide +kernel
theorem dX5_ropeMixed_56 : decode cX5_ropeMixed 56 = .ok (.invokestatic 249, 3) := by decide +kernel
theorem dX5_ropeMixed_59 : decode cX5_ropeMixed 59 = .ok (.lstore 6, 2) := by decide +kernel
theorem dX5_ropeMixed_61 : decode cX5_ropeMixed 61 = .ok (.iinc 8 1, 3) := by decide +kernel
theorem dX5_ropeMixed_64 : decode cX5_ropeMixed 64 = .ok (.goto (-26), 3) := by decide +kernel
theorem dX5_ropeMixed_67 : decode cX5_ropeMixed 67 = .ok (.iconst 0, 1) := by decide +kernel
theorem dX5_ropeMixed_68 : decode cX5_ropeMixed 68 = .ok (.istore 8, 2) := by decide +kernel
theorem dX5_ropeMixed_70 : decode cX5_ropeMixed 70 = .ok (.iload 8, 2) := by decide +kernel
theorem dX5_ropeMixed_72 : decode cX5_ropeMixed 72 = .ok (.aload 4, 2) := by decide +kernel
theorem dX5_ropeMixed_74 : decode cX5_ropeMixed 74 = .ok (.invokevirtual 130, 3) := by decide +kernel
theorem dX5_ropeMixed_77 : decode cX5_ropeMixed 77 = .ok (.if_icmp .ge 24, 3) := by decide +kernel
theorem dX5_ropeMixed_80 : decode cX5_ropeMixed 80 = .ok (.lload 6, 2) := by decide +kernel
theorem dX5_ropeMixed_82 : decode cX5_ropeMixed 82 = .ok (.aload 4, 2) := by decide +kernel
theorem dX5_ropeMixed_84 : decode cX5_ropeMixed 84 = .ok (.iload 8, 2) := by decide +kernel
theorem dX5_ropeMixed_86 : decode cX5_ropeMixed 86 = .ok (.invokevirtual 209, 3) := by decide +kernel
theorem dX5_ropeMixed_89 : decode cX5_ropeMixed 89 = .ok (.i2l, 1) := by decide +kernel
theorem dX5_ropeMixed_90 : decode cX5_ropeMixed 90 = .ok (.invokestatic 249, 3) := by decide +kernel
theorem dX5_ropeMixed_93 : decode cX5_ropeMixed 93 = .ok (.lstore 6, 2) := by decide +kernel
theorem dX5_ropeMixed_95 : decode cX5_ropeMixed 95 = .ok (.iinc 8 1, 3) := by decide +kernel
theorem dX5_ropeMixed_98 : decode cX5_ropeMixed 98 = .ok (.goto (-28), 3) := by decide +kernel
theorem dX5_ropeMixed_101 : decode cX5_ropeMixed 101 = .ok (.iconst 0, 1) := by decide +kernel
theorem dX5_ropeMixed_102 : decode cX5_ropeMixed 102 = .ok (.istore 8, 2) := by decide +kernel
theorem dX5_ropeMixed_104 : decode cX5_ropeMixed 104 = .ok (.iload 8, 2) := by decide +kernel
theorem dX5_ropeMixed_106 : decode cX5_ropeMixed 106 = .ok (.bipush 8, 2) := by decide +kernel
theorem dX5_ropeMixed_108 : decode cX5_ropeMixed 108 = .ok (.if_icmp .ge 21, 3) := by decide +kernel
theorem dX5_ropeMixed_111 : decode cX5_ropeMixed 111 = .ok (.aload_n 0, 1) := by decide +kernel
theorem dX5_ropeMixed_112 : decode cX5_ropeMixed 112 = .ok (.lload 6, 2) := by decide +kernel
theorem dX5_ropeMixed_114 : decode cX5_ropeMixed 114 = .ok (.aload 4, 2) := by decide +kernel
theorem dX5_ropeMixed_116 : decode cX5_ropeMixed 116 = .ok (.iload 8, 2) := by decide +kernel
theorem dX5_ropeMixed_118 : decode cX5_ropeMixed 118 = .ok (.invokevirtual 349, 3) := by decide +kernel
theorem dX5_ropeMixed_121 : decode cX5_ropeMixed 121 = .ok (.lstore 6, 2) := by decide +kernel
theorem dX5_ropeMixed_123 : decode cX5_ropeMixed 123 = .ok (.iinc 8 1, 3) := by decide +kernel
theorem dX5_ropeMixed_126 : decode cX5_ropeMixed 126 = .ok (.goto (-22), 3) := by decide +kernel
theorem dX5_ropeMixed_129 : decode cX5_ropeMixed 129 = .ok (.lload 6, 2) := by decide +kernel
theorem dX5_ropeMixed_131 : decode cX5_ropeMixed 131 = .ok (.aload_n 0, 1) := by decide +kernel
theorem dX5_ropeMixed_132 : decode cX5_ropeMixed 132 = .ok (.aload 4, 2) := by decide +kernel
theorem dX5_ropeMixed_134 : decode cX5_ropeMixed 134 = .ok (.invokevirtual 238, 3) := by decide +kernel
theorem dX5_ropeMixed_137 : decode cX5_ropeMixed 137 = .ok (.i2l, 1) := by decide +kernel
theorem dX5_ropeMixed_138 : decode cX5_ropeMixed 138 = .ok (.invokestatic 249, 3) := by decide +kernel
theorem dX5_ropeMixed_141 : decode cX5_ropeMixed 141 = .ok (.lstore 6, 2) := by decide +kernel
theorem dX5_ropeMixed_143 : decode cX5_ropeMixed 143 = .ok (.lload 6, 2) := by decide +kernel
theorem dX5_ropeMixed_145 : decode cX5_ropeMixed 145 = .ok (.aload_n 0, 1) := by decide +kernel
theorem dX5_ropeMixed_146 : decode cX5_ropeMixed 146 = .ok (.aload 4, 2) := by decide +kernel
theorem dX5_ropeMixed_148 : decode cX5_ropeMixed 148 = .ok (.invokevirtual 117, 3) := by decide +kernel
theorem dX5_ropeMixed_151 : decode cX5_ropeMixed 151 = .ok (.i2l, 1) := by decide +kernel
theorem dX5_ropeMixed_152 : decode cX5_ropeMixed 152 = .ok (.invokestatic 249, 3) := by decide +kernel
theorem dX5_ropeMixed_155 : decode cX5_ropeMixed 155 = .ok (.lstore 6, 2) := by decide +kernel
theorem dX5_ropeMixed_157 : decode cX5_ropeMixed 157 = .ok (.lload 6, 2) := by decide +kernel
theorem dX5_ropeMixed_159 : decode cX5_ropeMixed 159 = .ok (.iload_n 3, 1) := by decide +kernel
theorem dX5_ropeMixed_160 : decode cX5_ropeMixed 160 = .ok (.ifCond .ne 7, 3) := by decide +kernel
theorem dX5_ropeMixed_163 : decode cX5_ropeMixed 163 = .ok (.lconst 1, 1) := by decide +kernel
theorem dX5_ropeMixed_164 : decode cX5_ropeMixed 164 = .ok (.goto 12, 3) := by decide +kernel
theorem dX5_ropeMixed_167 : decode cX5_ropeMixed 167 = .ok (.aload_n 0, 1) := by decide +kernel
theorem dX5_ropeMixed_168 : decode cX5_ropeMixed 168 = .ok (.aload 4, 2) := by decide +kernel
theorem dX5_ropeMixed_170 : decode cX5_ropeMixed 170 = .ok (.aload 5, 2) := by decide +kernel
theorem dX5_ropeMixed_172 : decode cX5_ropeMixed 172 = .ok (.invokevirtual 145, 3) := by decide +kernel
theorem dX5_ropeMixed_175 : decode cX5_ropeMixed 175 = .ok (.i2l, 1) := by decide +kernel
theorem dX5_ropeMixed_176 : decode cX5_ropeMixed 176 = .ok (.invokestatic 249, 3) := by decide +kernel
theorem dX5_ropeMixed_179 : decode cX5_ropeMixed 179 = .ok (.lreturn, 1) := by decide +kernel
theorem dX5_hueMixed_0 : decode cX5_hueMixed 0 = .ok (.lload_n 1, 1) := by decide +kernel
theorem dX5_hueMixed_1 : decode cX5_hueMixed 1 = .ok (.lstore 5, 2) := by decide +kernel
theorem dX5_hueMixed_3 : decode cX5_hueMixed 3 = .ok (.iconst 0, 1) := by decide +kernel
theorem dX5_hueMixed_4 : decode cX5_hueMixed 4 = .ok (.istore 7, 2) := by decide +kernel
theorem dX5_hueMixed_6 : decode cX5_hueMixed 6 = .ok (.iload 7, 2) := by decide +kernel
theorem dX5_hueMixed_8 : decode cX5_hueMixed 8 = .ok (.iconst 4, 1) := by decide +kernel
theorem dX5_hueMixed_9 : decode cX5_hueMixed 9 = .ok (.if_icmp .ge 25, 3) := by decide +kernel
theorem dX5_hueMixed_12 : decode cX5_hueMixed 12 = .ok (.lload 5, 2) := by decide +kernel
theorem dX5_hueMixed_14 : decode cX5_hueMixed 14 = .ok (.aload_n 3, 1) := by decide +kernel
theorem dX5_hueMixed_15 : decode cX5_hueMixed 15 = .ok (.iload 4, 2) := by decide +kernel
theorem dX5_hueMixed_17 : decode cX5_hueMixed 17 = .ok (.iload 7, 2) := by decide +kernel
theorem dX5_hueMixed_19 : decode cX5_hueMixed 19 = .ok (.invokevirtual 219, 3) := by decide +kernel
theorem dX5_hueMixed_22 : decode cX5_hueMixed 22 = .ok (.i2l, 1) := by decide +kernel
theorem dX5_hueMixed_23 : decode cX5_hueMixed 23 = .ok (.invokestatic 249, 3) := by decide +kernel
theorem dX5_hueMixed_26 : decode cX5_hueMixed 26 = .ok (.lstore 5, 2) := by decide +kernel
theorem dX5_hueMixed_28 : decode cX5_hueMixed 28 = .ok (.iinc 7 1, 3) := by decide +kernel
theorem dX5_hueMixed_31 : decode cX5_hueMixed 31 = .ok (.goto (-25), 3) := by decide +kernel
theorem dX5_hueMixed_34 : decode cX5_hueMixed 34 = .ok (.iconst 0, 1) := by decide +kernel
theorem dX5_hueMixed_35 : decode cX5_hueMixed 35 = .ok (.istore 7, 2) := by decide +kernel
theorem dX5_hueMixed_37 : decode cX5_hueMixed 37 = .ok (.iload 7, 2) := by decide +kernel
theorem dX5_hueMixed_39 : decode cX5_hueMixed 39 = .ok (.iconst 3, 1) := by decide +kernel
theorem dX5_hueMixed_40 : decode cX5_hueMixed 40 = .ok (.if_icmp .ge 34, 3) := by decide +kernel
theorem dX5_hueMixed_43 : decode cX5_hueMixed 43 = .ok (.lload 5, 2) := by decide +kernel
theorem dX5_hueMixed_45 : decode cX5_hueMixed 45 = .ok (.aload_n 3, 1) := by decide +kernel
theorem dX5_hueMixed_46 : decode cX5_hueMixed 46 = .ok (.iload 4, 2) := by decide +kernel
theorem dX5_hueMixed_48 : decode cX5_hueMixed 48 = .ok (.aload_n 0, 1) := by decide +kernel
theorem dX5_hueMixed_49 : decode cX5_hueMixed 49 = .ok (.getfield 10, 3) := by decide +kernel
theorem dX5_hueMixed_52 : decode cX5_hueMixed 52 = .ok (.iload 4, 2) := by decide +kernel
theorem dX5_hueMixed_54 : decode cX5_hueMixed 54 = .ok (.invokevirtual 68, 3) := by decide +kernel
theorem dX5_hueMixed_57 : decode cX5_hueMixed 57 = .ok (.iload 7, 2) := by decide +kernel
theorem dX5_hueMixed_59 : decode cX5_hueMixed 59 = .ok (.invokevirtual 235, 3) := by decide +kernel
theorem dX5_hueMixed_62 : decode cX5_hueMixed 62 = .ok (.i2l, 1) := by decide +kernel
theorem dX5_hueMixed_63 : decode cX5_hueMixed 63 = .ok (.invokestatic 249, 3) := by decide +kernel
theorem dX5_hueMixed_66 : decode cX5_hueMixed 66 = .ok (.lstore 5, 2) := by decide +kernel
theorem dX5_hueMixed_68 : decode cX5_hueMixed 68 = .ok (.iinc 7 1, 3) := by decide +kernel
theorem dX5_hueMixed_71 : decode cX5_hueMixed 71 = .ok (.goto (-34), 3) := by decide +kernel
theorem dX5_hueMixed_74 : decode cX5_hueMixed 74 = .ok (.lload 5, 2) := by decide +kernel
theorem dX5_hueMixed_76 : decode cX5_hueMixed 76 = .ok (.lreturn, 1) := by decide +kernel
end
section
/-! THE PURE HEAP: what a cell holds, by its address; G: the machine at a place of a method, over any heap that holds it -/
abbrev PC : Type := (Nat × (Nat → Int32)) ⊕ ((Nat × Nat × (Nat → Option Nat)) ⊕ (Nat × List Value))
abbrev PH : Type := Nat → Option PC
def pu (h : PH) (a : Nat) (e : PC) : PH := fun b => if b = a then some e else h b
abbrev GC : Type := va_G × ClassId × ClassId × ClassId × ClassId
def wcv (g : GC) (e : PC) : va_E := match e with
  | .inl (n, f) => .inl (g.2.1, n, .inl f)
  | .inr (.inl (k, n, f)) => .inl ((if k = 0 then g.2.2.1 else g.2.2.2.1), n, .inr (.inr (.inr (.inr f))))
  | .inr (.inr (ci, fs)) => .inr (ci, fs)
def wty (g : GC) : List (ClassId × FieldType) := [(g.2.1, .int), (g.2.2.1, .object "PennantRopes$Rope"), (g.2.2.2.1, .object "PennantRopes$State"), (g.2.2.2.2, .long)]
/-- the heap H holds the pure heap h, and beside it the cells X; all of them lie in A -/
def WW (g : GC) (A : Nat → Prop) (X : va_W) (h : PH) (H : Heap) : Prop := ∃ (L : List Nat) (f : Nat → PC), (∀ a, h a = if a ∈ L then some (f a) else none) ∧ va_P g.1 vwCl (X ++ va_pl L (fun a => wcv g (f a))) H ∧ va_D A (X ++ va_pl L (fun a => wcv g (f a)))
def AF (X : va_W) (h : PH) (sz : Nat) : Nat → Prop := fun q => (∃ e, (q, e) ∈ X) ∨ (∃ e, h q = some e) ∨ sz ≤ q
theorem WW.mem {g : GC} {A : Nat → Prop} {X : va_W} {h : PH} {H : Heap} (hW : WW g A X h H) : (∀ q e, (q, e) ∈ X → A q) ∧ (∀ q e, h q = some e → A q) := by
  obtain ⟨L, f, h1, hP, hD⟩ := hW
  refine ⟨fun q e hq => ?_, fun q e hq => ?_⟩
  · obtain ⟨k, hk⟩ := List.getElem?_of_mem (List.mem_append_left (va_pl L (fun a => wcv g (f a))) hq)
    exact hD.2 k _ hk
  · have h2 := h1 q
    rw [hq] at h2
    by_cases hL : q ∈ L
    · obtain ⟨k, hk⟩ := va_pl_get (X := X) (f := fun a => wcv g (f a)) hL
      exact hD.2 k _ hk
    · rw [if_neg hL] at h2
      cases h2
theorem WW.sub {g : GC} {A B : Nat → Prop} {X : va_W} {h : PH} {H : Heap} (hW : WW g A X h H) (hAB : ∀ q, A q → B q) : WW g B X h H := by
  obtain ⟨L, f, h1, hP, hD⟩ := hW
  exact ⟨L, f, h1, hP, hD.1, fun k q hk => hAB _ (hD.2 k q hk)⟩
theorem WW.self {g : GC} {A : Nat → Prop} {X : va_W} {h : PH} {H : Heap} (hW : WW g A X h H) (sz : Nat) : WW g (AF X h sz) X h H := by
  obtain ⟨L, f, h1, hP, hD⟩ := hW
  refine ⟨L, f, h1, hP, hD.1, fun k q hk => ?_⟩
  rcases List.mem_append.mp (List.mem_of_getElem? hk) with h9 | h9
  · exact Or.inl ⟨q.2, h9⟩
  · obtain ⟨a, ha, rfl⟩ := List.mem_map.mp h9
    exact Or.inr (Or.inl ⟨f a, by rw [h1, if_pos ha]⟩)
theorem WW.at {g : GC} {A : Nat → Prop} {X : va_W} {h : PH} {H : Heap} {a : Nat} {e : PC} (hW : WW g A X h H) (he : h a = some e) :
    ∃ (ws : va_W) (q0 : Nat), va_P g.1 vwCl ws H ∧ va_D A ws ∧ ws[q0]? = some (a, wcv g e) ∧ (∀ e' H1, va_P g.1 vwCl (ws.set q0 (a, wcv g e')) H1 → va_D A (ws.set q0 (a, wcv g e')) → WW g A X (pu h a e') H1) ∧ ∀ a2 e2, h a2 = some e2 → ∃ q2 : Nat, ws[q2]? = some (a2, wcv g e2) := by
  obtain ⟨L, f, h1, hP, hD⟩ := hW
  have get : ∀ a e, h a = some e → a ∈ L ∧ f a = e := by
    intro a e he
    have h2 := h1 a
    rw [he] at h2
    by_cases hL : a ∈ L
    · rw [if_pos hL] at h2
      exact ⟨hL, (Option.some.inj h2).symm⟩
    · rw [if_neg hL] at h2
      cases h2
  obtain ⟨hL, hf⟩ := get a e he
  obtain ⟨k, hk⟩ := va_pl_get (X := X) (f := fun a => wcv g (f a)) hL
  refine ⟨_, k, hP, hD, by rw [hk, hf], fun e' H1 p d => ⟨L, fun b => if b = a then e' else f b, fun b => ?_, ?_, ?_⟩, fun a2 e2 h2 => ?_⟩
  · unfold pu
    by_cases hb : b = a
    · subst hb
      rw [if_pos rfl, if_pos hL]
      exact congrArg some (if_pos rfl).symm
    · rw [if_neg hb, h1 b]
      by_cases hbL : b ∈ L
      · rw [if_pos hbL, if_pos hbL]
        exact congrArg some (if_neg hb).symm
      · rw [if_neg hbL, if_neg hbL]
  · rw [va_pl_set hD hL hk] at p
    rw [show (fun b => wcv g (if b = a then e' else f b)) = va_up (fun a => wcv g (f a)) a (wcv g e') by funext b; unfold va_up; by_cases hb : b = a <;> simp [hb]]
    exact p
  · rw [va_pl_set hD hL hk] at d
    rw [show (fun b => wcv g (if b = a then e' else f b)) = va_up (fun a => wcv g (f a)) a (wcv g e') by funext b; unfold va_up; by_cases hb : b = a <;> simp [hb]]
    exact d
  · obtain ⟨hL2, hf2⟩ := get a2 e2 h2
    obtain ⟨k2, hk2⟩ := va_pl_get (X := X) (f := fun a => wcv g (f a)) hL2
    exact ⟨k2, by rw [hk2, hf2]⟩
/-- what holds of the method's frame, once and for all -/
def Cx (p : Program) (s : State) (m : MethodId) (args : Array Value) (meth : Method) (c : Code) (b : ByteArray) (n : Nat) (own : String) (ret : Option FieldType) (g : GC) : Prop :=
  p.tables.exec = Jvm.exec ∧ c.code = b ∧ c.maxLocals = n ∧ meth.sig.returnType = ret ∧ s.vm.findClass own = some m.cls ∧ (∀ w ∈ wsL_law, w.before args s = true) ∧ meth.locks = false ∧ va_K g.1 vwCl (wty g) s
def G (p : Program) (l : Launch) (e : Env) (R : Room) (s : State) (m : MethodId) (args : Array Value) (below : List Frame) (meth : Method) (c : Code) (n : Nat) (g : GC) (X : va_W) (h0 : PH) (cells slots : Nat) (Q : State → Prop) (pc : Nat) (lv : List (Nat × Value)) (st : List Value) (h : PH) : Prop :=
  ∀ (H : Heap) (locs : List Loc) (ls : Array Slot), WW g (AF X h0 s.heap.size) X h H → va_S (AF X h0 s.heap.size) s.heap H locs → lv_has ls n lv → W p l e R s m args below meth c H locs cells slots Q (F0 m pc ls st)
/-- loops, with a bound -/
def lpn {σ ρ : Type} (b : σ → Option (σ ⊕ ρ)) : Nat → σ → Option ρ
  | 0, _ => none
  | k + 1, x => (b x).bind (fun r => match r with | .inl x' => lpn b k x' | .inr y => some y)
def LF : Nat := 1000000
theorem bind_some {α β : Type} {o : Option α} {f : α → Option β} {r : β} (h : o.bind f = some r) : ∃ a, o = some a ∧ f a = some r := by
  cases o with
  | none => cases h
  | some a => exact ⟨a, rfl, h⟩
/-- what is read and written -/
def rdI (h : PH) (a ci k : Nat) : Option Int32 := match h a with
  | some (.inr (.inr (c, fs))) => if c = ci then (match fs[k]? with | some (.int v) => some v | _ => none) else none
  | _ => none
def rdJ (h : PH) (a ci k : Nat) : Option Int64 := match h a with
  | some (.inr (.inr (c, fs))) => if c = ci then (match fs[k]? with | some (.long v) => some v | _ => none) else none
  | _ => none
def rdR (h : PH) (a ci k : Nat) : Option Nat := match h a with
  | some (.inr (.inr (c, fs))) => if c = ci then (match fs[k]? with | some (.ref v) => some v | _ => none) else none
  | _ => none
def wrF (h : PH) (a ci k : Nat) (v : Value) : Option PH := match h a with
  | some (.inr (.inr (c, fs))) => if c = ci ∧ k < fs.length then some (pu h a (.inr (.inr (c, fs.set k v)))) else none
  | _ => none
def ldI (h : PH) (a : Nat) (i : Int32) : Option Int32 := match h a with
  | some (.inl (n, f)) => if i < 0 ∨ n ≤ i.toNatClampNeg then none else some (f i.toNatClampNeg)
  | _ => none
def stI (h : PH) (a : Nat) (i x : Int32) : Option PH := match h a with
  | some (.inl (n, f)) => if i < 0 ∨ n ≤ i.toNatClampNeg then none else some (pu h a (.inl (n, upd f i.toNatClampNeg x)))
  | _ => none
def ldQ (h : PH) (a : Nat) (i : Int32) : Option (Option Nat) := match h a with
  | some (.inr (.inl (_, n, f))) => if i < 0 ∨ n ≤ i.toNatClampNeg then none else some (f i.toNatClampNeg)
  | _ => none
def kO (h : PH) (a ci : Nat) : Prop := ∃ fs, h a = some (.inr (.inr (ci, fs)))
def okO (h : PH) (a ci : Nat) : Bool := match h a with
  | some (.inr (.inr (c, _))) => c == ci
  | _ => false
theorem okO_k {h : PH} {a ci : Nat} (q : okO h a ci = true) : kO h a ci := by
  unfold okO at q
  split at q
  · rename_i c fs he
    exact ⟨fs, by rw [he, eq_of_beq q]⟩
  · cases q
/-- a reference goes into a row of references: of Ropes (kind 0), or of States (kind 1) -/
def stQ (h : PH) (a : Nat) (i : Int32) (v : Nat) : Option PH := match h a with
  | some (.inr (.inl (k, n, f))) => if (i < 0 ∨ n ≤ i.toNatClampNeg) then none else if (k = 0 ∧ okO h v 1 = true) ∨ (k = 1 ∧ okO h v 2 = true) then some (pu h a (.inr (.inl (k, n, va_up f i.toNatClampNeg (some v))))) else none
  | _ => none
def lnA (h : PH) (a : Nat) : Option Int32 := match h a with
  | some (.inl (n, _)) => some (Int32.ofNat n)
  | some (.inr (.inl (_, n, _))) => some (Int32.ofNat n)
  | _ => none
theorem gd_ok {c : Prop} [Decidable c] {α : Type} {x : Option α} {r : α} (h : (if c then x else none) = some r) : c ∧ x = some r := by
  by_cases hc : c
  · rw [if_pos hc] at h
    exact ⟨hc, h⟩
  · rw [if_neg hc] at h
    cases h
theorem lpn_0 {σ ρ : Type} {b : σ → Option (σ ⊕ ρ)} {x : σ} {r : ρ} (h : lpn b 0 x = some r) : False := by cases h
theorem lpn_s {σ ρ : Type} {b : σ → Option (σ ⊕ ρ)} {k : Nat} {x : σ} {r : ρ} (h : lpn b (k + 1) x = some r) : ∃ y, b x = some y ∧ (match y with | .inl x' => lpn b k x' | .inr z => some z) = some r := bind_some h
def z01 (v : Int32) : Bool := v == 0 || v == 1
theorem z01_or {v : Int32} (h : z01 v = true) : v = 0 ∨ v = 1 := by
  unfold z01 at h
  rcases (Bool.or_eq_true _ _).mp h with h | h
  · exact Or.inl (eq_of_beq h)
  · exact Or.inr (eq_of_beq h)
theorem z01_n {v : Int32} (h : z01 v = true) : narrow .boolean (.int v) = .int v := by
  rcases z01_or h with rfl | rfl <;> rfl
theorem z01_f {v : Int32} (h : z01 v = true) : fits .boolean (.int v) = true := by
  rcases z01_or h with rfl | rfl <;> rfl
def nn64 (x : UInt64) : Bool := decide (x &&& 0x7fffffffffffffff ≤ 0x7ff0000000000000)
theorem nn64_ok {x : UInt64} (h : nn64 x = true) : vf_n64 x := by
  unfold vf_n64
  exact of_decide_eq_true h
theorem rdI_at {h : PH} {a ci k : Nat} {v : Int32} (q : rdI h a ci k = some v) : ∃ fs, h a = some (.inr (.inr (ci, fs))) ∧ fs[k]? = some (.int v) := by
  unfold rdI at q
  split at q
  · rename_i c fs he
    by_cases hc : c = ci
    · subst hc
      rw [if_pos rfl] at q
      split at q
      · rename_i w hw
        cases q
        exact ⟨fs, he, hw⟩
      · cases q
    · rw [if_neg hc] at q
      cases q
  · cases q
theorem rdJ_at {h : PH} {a ci k : Nat} {v : Int64} (q : rdJ h a ci k = some v) : ∃ fs, h a = some (.inr (.inr (ci, fs))) ∧ fs[k]? = some (.long v) := by
  unfold rdJ at q
  split at q
  · rename_i c fs he
    by_cases hc : c = ci
    · subst hc
      rw [if_pos rfl] at q
      split at q
      · rename_i w hw
        cases q
        exact ⟨fs, he, hw⟩
      · cases q
    · rw [if_neg hc] at q
      cases q
  · cases q
theorem rdR_at {h : PH} {a ci k : Nat} {v : Nat} (q : rdR h a ci k = some v) : ∃ fs, h a = some (.inr (.inr (ci, fs))) ∧ fs[k]? = some (.ref v) := by
  unfold rdR at q
  split at q
  · rename_i c fs he
    by_cases hc : c = ci
    · subst hc
      rw [if_pos rfl] at q
      split at q
      · rename_i w hw
        cases q
        exact ⟨fs, he, hw⟩
      · cases q
    · rw [if_neg hc] at q
      cases q
  · cases q
theorem wrF_at {h h1 : PH} {a ci k : Nat} {v : Value} (q : wrF h a ci k v = some h1) : ∃ fs, h a = some (.inr (.inr (ci, fs))) ∧ k < fs.length ∧ h1 = pu h a (.inr (.inr (ci, fs.set k v))) := by
  unfold wrF at q
  split at q
  · rename_i c fs he
    by_cases hc : c = ci ∧ k < fs.length
    · rw [if_pos hc] at q
      obtain ⟨rfl, hk⟩ := hc
      cases q
      exact ⟨fs, he, hk, rfl⟩
    · rw [if_neg hc] at q
      cases q
  · cases q
theorem ldI_at {h : PH} {a : Nat} {i v : Int32} (q : ldI h a i = some v) : ∃ n f, h a = some (.inl (n, f)) ∧ vp_in i n ∧ v = f i.toNatClampNeg := by
  unfold ldI at q
  split at q
  · rename_i n f he
    by_cases hc : i < 0 ∨ n ≤ i.toNatClampNeg
    · rw [if_pos hc] at q
      cases q
    · rw [if_neg hc] at q
      cases q
      exact ⟨n, f, he, hc, rfl⟩
  · cases q
theorem stI_at {h h1 : PH} {a : Nat} {i x : Int32} (q : stI h a i x = some h1) : ∃ n f, h a = some (.inl (n, f)) ∧ vp_in i n ∧ h1 = pu h a (.inl (n, upd f i.toNatClampNeg x)) := by
  unfold stI at q
  split at q
  · rename_i n f he
    by_cases hc : i < 0 ∨ n ≤ i.toNatClampNeg
    · rw [if_pos hc] at q
      cases q
    · rw [if_neg hc] at q
      cases q
      exact ⟨n, f, he, hc, rfl⟩
  · cases q
theorem ldQ_at {h : PH} {a : Nat} {i : Int32} {v : Option Nat} (q : ldQ h a i = some v) : ∃ k n f, h a = some (.inr (.inl (k, n, f))) ∧ vp_in i n ∧ v = f i.toNatClampNeg := by
  unfold ldQ at q
  split at q
  · rename_i k n f he
    by_cases hc : i < 0 ∨ n ≤ i.toNatClampNeg
    · rw [if_pos hc] at q
      cases q
    · rw [if_neg hc] at q
      cases q
      exact ⟨k, n, f, he, hc, rfl⟩
  · cases q
theorem stQ_at {h h1 : PH} {a : Nat} {i : Int32} {v : Nat} (q : stQ h a i v = some h1) : ∃ k n f, h a = some (.inr (.inl (k, n, f))) ∧ vp_in i n ∧ ((k = 0 ∧ kO h v 1) ∨ (k = 1 ∧ kO h v 2)) ∧ h1 = pu h a (.inr (.inl (k, n, va_up f i.toNatClampNeg (some v)))) := by
  unfold stQ at q
  split at q
  · rename_i k n f he
    by_cases hc : i < 0 ∨ n ≤ i.toNatClampNeg
    · rw [if_pos hc] at q
      cases q
    · rw [if_neg hc] at q
      split at q
      · rename_i h9
        cases q
        exact ⟨k, n, f, he, hc, h9.imp (fun z => ⟨z.1, okO_k z.2⟩) (fun z => ⟨z.1, okO_k z.2⟩), rfl⟩
      · cases q
  · cases q
theorem va_rf_or9 (r : Option Nat) : va_rf r = .null ∨ ∃ a, va_rf r = .ref a := by
  cases r with
  | none => exact Or.inl rfl
  | some a => exact Or.inr ⟨a, rfl⟩

section GR
variable {p : Program} {l : Launch} {e : Env} {R : Room} {s : State} {m : MethodId} {args : Array Value} {below : List Frame} {meth : Method} {c : Code} {n : Nat} {g : GC} {X : va_W} {h0 h : PH} {cells slots : Nat} {Q : State → Prop} {pc : Nat} {lv : List (Nat × Value)} {st : List Value} {b : ByteArray} {own : String} {ret : Option FieldType}
theorem G.iconst (C : Cx p s m args meth c b n own ret g) {k : Int} {v : Int32} (d : decode b pc = .ok (.iconst k, 1)) (hv : Int32.ofInt k = v) (kk : G p l e R s m args below meth c n g X h0 cells slots Q (pc + 1) lv (.int v :: st) h) : G p l e R s m args below meth c n g X h0 cells slots Q (pc) lv (st) h := fun H locs ls hW hS hl => lv_iconst C.1 C.2.1 d hv (kk H locs ls hW hS hl)
theorem G.bipush (C : Cx p s m args meth c b n own ret g) {k : Int} {v : Int32} (d : decode b pc = .ok (.bipush k, 2)) (hv : (Int8.ofInt k).toInt32 = v) (kk : G p l e R s m args below meth c n g X h0 cells slots Q (pc + 2) lv (.int v :: st) h) : G p l e R s m args below meth c n g X h0 cells slots Q (pc) lv (st) h := fun H locs ls hW hS hl => lv_bipush C.1 C.2.1 d hv (kk H locs ls hW hS hl)
theorem G.sipush (C : Cx p s m args meth c b n own ret g) {k : Int} {v : Int32} (d : decode b pc = .ok (.sipush k, 3)) (hv : (Int16.ofInt k).toInt32 = v) (kk : G p l e R s m args below meth c n g X h0 cells slots Q (pc + 3) lv (.int v :: st) h) : G p l e R s m args below meth c n g X h0 cells slots Q (pc) lv (st) h := fun H locs ls hW hS hl => lv_sipush C.1 C.2.1 d hv (kk H locs ls hW hS hl)
theorem G.lconst (C : Cx p s m args meth c b n own ret g) {k : Fin 2} {v : Int64} (d : decode b pc = .ok (.lconst k, 1)) (hv : Int64.ofNat (k : Nat) = v) (kk : G p l e R s m args below meth c n g X h0 cells slots Q (pc + 1) lv (.long v :: st) h) : G p l e R s m args below meth c n g X h0 cells slots Q (pc) lv (st) h := fun H locs ls hW hS hl => lv_lconst C.1 C.2.1 d hv (kk H locs ls hW hS hl)
theorem G.dconst0 (C : Cx p s m args meth c b n own ret g) (d : decode b pc = .ok (.dconst 0, 1)) (kk : G p l e R s m args below meth c n g X h0 cells slots Q (pc + 1) lv (.double FP.dconst0 :: st) h) : G p l e R s m args below meth c n g X h0 cells slots Q (pc) lv (st) h := fun H locs ls hW hS hl => lv_dconst0 C.1 C.2.1 d (kk H locs ls hW hS hl)
theorem G.dconst1 (C : Cx p s m args meth c b n own ret g) (d : decode b pc = .ok (.dconst 1, 1)) (kk : G p l e R s m args below meth c n g X h0 cells slots Q (pc + 1) lv (.double FP.dconst1 :: st) h) : G p l e R s m args below meth c n g X h0 cells slots Q (pc) lv (st) h := fun H locs ls hW hS hl => lv_dconst1 C.1 C.2.1 d (kk H locs ls hW hS hl)
theorem G.ldc2 (C : Cx p s m args meth c b n own ret g) {idx : Nat} {v : Int64} (hc : Cond.constantLong own idx v ∈ wsL_law) (d : decode b pc = .ok (.ldc2_w idx, 3)) (kk : G p l e R s m args below meth c n g X h0 cells slots Q (pc + 3) lv (.long v :: st) h) : G p l e R s m args below meth c n g X h0 cells slots Q (pc) lv (st) h := fun H locs ls hW hS hl => lv_ldc2 C.1 C.2.1 C.2.2.2.2.1 (C.2.2.2.2.2.1 _ hc) d (kk H locs ls hW hS hl)
theorem G.ldc2d (C : Cx p s m args meth c b n own ret g) {idx : Nat} {v : UInt64} (hc : Cond.constantDouble own idx v ∈ wsL_law) (d : decode b pc = .ok (.ldc2_w idx, 3)) (kk : G p l e R s m args below meth c n g X h0 cells slots Q (pc + 3) lv (.double v :: st) h) : G p l e R s m args below meth c n g X h0 cells slots Q (pc) lv (st) h := fun H locs ls hW hS hl => lv_ldc2d C.1 C.2.1 C.2.2.2.2.1 (C.2.2.2.2.2.1 _ hc) d (kk H locs ls hW hS hl)
theorem G.null (C : Cx p s m args meth c b n own ret g) (d : decode b pc = .ok (.aconst_null, 1)) (kk : G p l e R s m args below meth c n g X h0 cells slots Q (pc + 1) lv (.null :: st) h) : G p l e R s m args below meth c n g X h0 cells slots Q (pc) lv (st) h := fun H locs ls hW hS hl => lv_null C.1 C.2.1 d (kk H locs ls hW hS hl)
theorem G.iload_n (C : Cx p s m args meth c b n own ret g) {i9 : Fin 4} {i : Nat} {x : Int32} (k : Nat) (d : decode b pc = .ok (.iload_n i9, 1)) (hi : (i9 : Nat) = i) (hk : lv[k]? = some (i, .int x)) (kk : G p l e R s m args below meth c n g X h0 cells slots Q (pc + 1) lv (.int x :: st) h) : G p l e R s m args below meth c n g X h0 cells slots Q (pc) lv (st) h := fun H locs ls hW hS hl => lv_iload_n C.1 C.2.1 d hi (lv_at hl k hk) (kk H locs ls hW hS hl)
theorem G.iload (C : Cx p s m args meth c b n own ret g) {i : Nat} {x : Int32} (k : Nat) (d : decode b pc = .ok (.iload i, 2)) (hk : lv[k]? = some (i, .int x)) (kk : G p l e R s m args below meth c n g X h0 cells slots Q (pc + 2) lv (.int x :: st) h) : G p l e R s m args below meth c n g X h0 cells slots Q (pc) lv (st) h := fun H locs ls hW hS hl => lv_iload C.1 C.2.1 d (lv_at hl k hk) (kk H locs ls hW hS hl)
theorem G.istore_n (C : Cx p s m args meth c b n own ret g) {i9 : Fin 4} {i : Nat} {x : Int32} {lv' : List (Nat × Value)} (d : decode b pc = .ok (.istore_n i9, 1)) (hi : (i9 : Nat) = i) (hn : i < n) (hl1 : (i, Value.int x) :: lv.filter (fun q => !(q.1 == i) && !(q.1 + 1 == i && q.2.category == 2)) = lv') (kk : G p l e R s m args below meth c n g X h0 cells slots Q (pc + 1) lv' (st) h) : G p l e R s m args below meth c n g X h0 cells slots Q (pc) lv (.int x :: st) h := fun H locs ls hW hS hl => lv_istore_n C.1 C.2.1 d hi hl hn hl1 (fun ls' hl' => kk H locs ls' hW hS hl')
theorem G.istore (C : Cx p s m args meth c b n own ret g) {i : Nat} {x : Int32} {lv' : List (Nat × Value)} (d : decode b pc = .ok (.istore i, 2)) (hn : i < n) (hl1 : (i, Value.int x) :: lv.filter (fun q => !(q.1 == i) && !(q.1 + 1 == i && q.2.category == 2)) = lv') (kk : G p l e R s m args below meth c n g X h0 cells slots Q (pc + 2) lv' (st) h) : G p l e R s m args below meth c n g X h0 cells slots Q (pc) lv (.int x :: st) h := fun H locs ls hW hS hl => lv_istore C.1 C.2.1 d hl hn hl1 (fun ls' hl' => kk H locs ls' hW hS hl')
theorem G.lload_n (C : Cx p s m args meth c b n own ret g) {i9 : Fin 4} {i : Nat} {x : Int64} (k : Nat) (d : decode b pc = .ok (.lload_n i9, 1)) (hi : (i9 : Nat) = i) (hk : lv[k]? = some (i, .long x)) (kk : G p l e R s m args below meth c n g X h0 cells slots Q (pc + 1) lv (.long x :: st) h) : G p l e R s m args below meth c n g X h0 cells slots Q (pc) lv (st) h := fun H locs ls hW hS hl => lv_lload_n C.1 C.2.1 d hi (lv_at hl k hk) (kk H locs ls hW hS hl)
theorem G.lload (C : Cx p s m args meth c b n own ret g) {i : Nat} {x : Int64} (k : Nat) (d : decode b pc = .ok (.lload i, 2)) (hk : lv[k]? = some (i, .long x)) (kk : G p l e R s m args below meth c n g X h0 cells slots Q (pc + 2) lv (.long x :: st) h) : G p l e R s m args below meth c n g X h0 cells slots Q (pc) lv (st) h := fun H locs ls hW hS hl => lv_lload C.1 C.2.1 d (lv_at hl k hk) (kk H locs ls hW hS hl)
theorem G.lstore_n (C : Cx p s m args meth c b n own ret g) {i9 : Fin 4} {i : Nat} {x : Int64} {lv' : List (Nat × Value)} (d : decode b pc = .ok (.lstore_n i9, 1)) (hi : (i9 : Nat) = i) (hn : i + 1 < n) (hl1 : (i, Value.long x) :: lv.filter (fun q => !(q.1 == i) && (!(q.1 == i + 1) && !(q.1 + 1 == i && q.2.category == 2))) = lv') (kk : G p l e R s m args below meth c n g X h0 cells slots Q (pc + 1) lv' (st) h) : G p l e R s m args below meth c n g X h0 cells slots Q (pc) lv (.long x :: st) h := fun H locs ls hW hS hl => lv_lstore_n C.1 C.2.1 d hi hl hn hl1 (fun ls' hl' => kk H locs ls' hW hS hl')
theorem G.lstore (C : Cx p s m args meth c b n own ret g) {i : Nat} {x : Int64} {lv' : List (Nat × Value)} (d : decode b pc = .ok (.lstore i, 2)) (hn : i + 1 < n) (hl1 : (i, Value.long x) :: lv.filter (fun q => !(q.1 == i) && (!(q.1 == i + 1) && !(q.1 + 1 == i && q.2.category == 2))) = lv') (kk : G p l e R s m args below meth c n g X h0 cells slots Q (pc + 2) lv' (st) h) : G p l e R s m args below meth c n g X h0 cells slots Q (pc) lv (.long x :: st) h := fun H locs ls hW hS hl => lv_lstore C.1 C.2.1 d hl hn hl1 (fun ls' hl' => kk H locs ls' hW hS hl')
theorem G.dload_n (C : Cx p s m args meth c b n own ret g) {i9 : Fin 4} {i : Nat} {x : UInt64} (k : Nat) (d : decode b pc = .ok (.dload_n i9, 1)) (hi : (i9 : Nat) = i) (hk : lv[k]? = some (i, .double x)) (kk : G p l e R s m args below meth c n g X h0 cells slots Q (pc + 1) lv (.double x :: st) h) : G p l e R s m args below meth c n g X h0 cells slots Q (pc) lv (st) h := fun H locs ls hW hS hl => lv_dload_n C.1 C.2.1 d hi (lv_at hl k hk) (kk H locs ls hW hS hl)
theorem G.dload (C : Cx p s m args meth c b n own ret g) {i : Nat} {x : UInt64} (k : Nat) (d : decode b pc = .ok (.dload i, 2)) (hk : lv[k]? = some (i, .double x)) (kk : G p l e R s m args below meth c n g X h0 cells slots Q (pc + 2) lv (.double x :: st) h) : G p l e R s m args below meth c n g X h0 cells slots Q (pc) lv (st) h := fun H locs ls hW hS hl => lv_dload C.1 C.2.1 d (lv_at hl k hk) (kk H locs ls hW hS hl)
theorem G.dstore_n (C : Cx p s m args meth c b n own ret g) {i9 : Fin 4} {i : Nat} {x : UInt64} {lv' : List (Nat × Value)} (d : decode b pc = .ok (.dstore_n i9, 1)) (hi : (i9 : Nat) = i) (hn : i + 1 < n) (hl1 : (i, Value.double x) :: lv.filter (fun q => !(q.1 == i) && (!(q.1 == i + 1) && !(q.1 + 1 == i && q.2.category == 2))) = lv') (kk : G p l e R s m args below meth c n g X h0 cells slots Q (pc + 1) lv' (st) h) : G p l e R s m args below meth c n g X h0 cells slots Q (pc) lv (.double x :: st) h := fun H locs ls hW hS hl => lv_dstore_n C.1 C.2.1 d hi hl hn hl1 (fun ls' hl' => kk H locs ls' hW hS hl')
theorem G.dstore (C : Cx p s m args meth c b n own ret g) {i : Nat} {x : UInt64} {lv' : List (Nat × Value)} (d : decode b pc = .ok (.dstore i, 2)) (hn : i + 1 < n) (hl1 : (i, Value.double x) :: lv.filter (fun q => !(q.1 == i) && (!(q.1 == i + 1) && !(q.1 + 1 == i && q.2.category == 2))) = lv') (kk : G p l e R s m args below meth c n g X h0 cells slots Q (pc + 2) lv' (st) h) : G p l e R s m args below meth c n g X h0 cells slots Q (pc) lv (.double x :: st) h := fun H locs ls hW hS hl => lv_dstore C.1 C.2.1 d hl hn hl1 (fun ls' hl' => kk H locs ls' hW hS hl')
theorem G.aload_n (C : Cx p s m args meth c b n own ret g) {i9 : Fin 4} {i : Nat} {x : Nat} (k : Nat) (d : decode b pc = .ok (.aload_n i9, 1)) (hi : (i9 : Nat) = i) (hk : lv[k]? = some (i, .ref x)) (kk : G p l e R s m args below meth c n g X h0 cells slots Q (pc + 1) lv (.ref x :: st) h) : G p l e R s m args below meth c n g X h0 cells slots Q (pc) lv (st) h := fun H locs ls hW hS hl => lv_aload_n C.1 C.2.1 d hi (lv_at hl k hk) (kk H locs ls hW hS hl)
theorem G.aload (C : Cx p s m args meth c b n own ret g) {i : Nat} {x : Nat} (k : Nat) (d : decode b pc = .ok (.aload i, 2)) (hk : lv[k]? = some (i, .ref x)) (kk : G p l e R s m args below meth c n g X h0 cells slots Q (pc + 2) lv (.ref x :: st) h) : G p l e R s m args below meth c n g X h0 cells slots Q (pc) lv (st) h := fun H locs ls hW hS hl => lv_aload C.1 C.2.1 d (lv_at hl k hk) (kk H locs ls hW hS hl)
theorem G.astore_n (C : Cx p s m args meth c b n own ret g) {i9 : Fin 4} {i : Nat} {x : Nat} {lv' : List (Nat × Value)} (d : decode b pc = .ok (.astore_n i9, 1)) (hi : (i9 : Nat) = i) (hn : i < n) (hl1 : (i, Value.ref x) :: lv.filter (fun q => !(q.1 == i) && !(q.1 + 1 == i && q.2.category == 2)) = lv') (kk : G p l e R s m args below meth c n g X h0 cells slots Q (pc + 1) lv' (st) h) : G p l e R s m args below meth c n g X h0 cells slots Q (pc) lv (.ref x :: st) h := fun H locs ls hW hS hl => lv_astore_n C.1 C.2.1 d hi hl hn hl1 (fun ls' hl' => kk H locs ls' hW hS hl')
theorem G.astore (C : Cx p s m args meth c b n own ret g) {i : Nat} {x : Nat} {lv' : List (Nat × Value)} (d : decode b pc = .ok (.astore i, 2)) (hn : i < n) (hl1 : (i, Value.ref x) :: lv.filter (fun q => !(q.1 == i) && !(q.1 + 1 == i && q.2.category == 2)) = lv') (kk : G p l e R s m args below meth c n g X h0 cells slots Q (pc + 2) lv' (st) h) : G p l e R s m args below meth c n g X h0 cells slots Q (pc) lv (.ref x :: st) h := fun H locs ls hW hS hl => lv_astore C.1 C.2.1 d hl hn hl1 (fun ls' hl' => kk H locs ls' hW hS hl')
theorem G.qload_n (C : Cx p s m args meth c b n own ret g) {i9 : Fin 4} {i : Nat} {x : Option Nat} (k : Nat) (d : decode b pc = .ok (.aload_n i9, 1)) (hi : (i9 : Nat) = i) (hk : lv[k]? = some (i, va_rf x)) (kk : G p l e R s m args below meth c n g X h0 cells slots Q (pc + 1) lv (va_rf x :: st) h) : G p l e R s m args below meth c n g X h0 cells slots Q (pc) lv (st) h := by
  intro H locs ls hW hS hl
  cases x with
  | none => exact lv_aload_nN C.1 C.2.1 d hi (lv_at hl k hk) (kk H locs ls hW hS hl)
  | some a => exact lv_aload_n C.1 C.2.1 d hi (lv_at hl k hk) (kk H locs ls hW hS hl)
theorem G.qstore_n (C : Cx p s m args meth c b n own ret g) {i9 : Fin 4} {i : Nat} {x : Option Nat} {lv' : List (Nat × Value)} (d : decode b pc = .ok (.astore_n i9, 1)) (hi : (i9 : Nat) = i) (hn : i < n) (hl1 : (i, va_rf x) :: lv.filter (fun q => !(q.1 == i) && !(q.1 + 1 == i && q.2.category == 2)) = lv') (kk : G p l e R s m args below meth c n g X h0 cells slots Q (pc + 1) lv' (st) h) : G p l e R s m args below meth c n g X h0 cells slots Q (pc) lv (va_rf x :: st) h := by
  intro H locs ls hW hS hl
  cases x with
  | none => exact lv_astore_nN C.1 C.2.1 d hi hl hn hl1 (fun ls' hl' => kk H locs ls' hW hS hl')
  | some a => exact lv_astore_n C.1 C.2.1 d hi hl hn hl1 (fun ls' hl' => kk H locs ls' hW hS hl')
theorem G.qload (C : Cx p s m args meth c b n own ret g) {i : Nat} {x : Option Nat} (k : Nat) (d : decode b pc = .ok (.aload i, 2)) (hk : lv[k]? = some (i, va_rf x)) (kk : G p l e R s m args below meth c n g X h0 cells slots Q (pc + 2) lv (va_rf x :: st) h) : G p l e R s m args below meth c n g X h0 cells slots Q (pc) lv (st) h := by
  intro H locs ls hW hS hl
  cases x with
  | none => exact lv_aloadN C.1 C.2.1 d (lv_at hl k hk) (kk H locs ls hW hS hl)
  | some a => exact lv_aload C.1 C.2.1 d (lv_at hl k hk) (kk H locs ls hW hS hl)
theorem G.qstore (C : Cx p s m args meth c b n own ret g) {i : Nat} {x : Option Nat} {lv' : List (Nat × Value)} (d : decode b pc = .ok (.astore i, 2)) (hn : i < n) (hl1 : (i, va_rf x) :: lv.filter (fun q => !(q.1 == i) && !(q.1 + 1 == i && q.2.category == 2)) = lv') (kk : G p l e R s m args below meth c n g X h0 cells slots Q (pc + 2) lv' (st) h) : G p l e R s m args below meth c n g X h0 cells slots Q (pc) lv (va_rf x :: st) h := by
  intro H locs ls hW hS hl
  cases x with
  | none => exact lv_astoreN C.1 C.2.1 d hl hn hl1 (fun ls' hl' => kk H locs ls' hW hS hl')
  | some a => exact lv_astore C.1 C.2.1 d hl hn hl1 (fun ls' hl' => kk H locs ls' hW hS hl')
theorem G.iinc (C : Cx p s m args meth c b n own ret g) {i k : Nat} {z : Int} {x v : Int32} {lv' : List (Nat × Value)} (d : decode b pc = .ok (.iinc i z, 3)) (hk : lv[k]? = some (i, .int x)) (hv : x + Int32.ofInt z = v) (hn : i < n) (hl1 : (i, Value.int v) :: lv.filter (fun q => !(q.1 == i) && !(q.1 + 1 == i && q.2.category == 2)) = lv') (kk : G p l e R s m args below meth c n g X h0 cells slots Q (pc + 3) lv' (st) h) : G p l e R s m args below meth c n g X h0 cells slots Q (pc) lv (st) h := fun H locs ls hW hS hl => lv_iinc C.1 C.2.1 d hl hk hv hn hl1 (fun ls' hl' => kk H locs ls' hW hS hl')
theorem G.iadd (C : Cx p s m args meth c b n own ret g) {x y : Int32} (d : decode b pc = .ok (.iadd, 1)) (kk : G p l e R s m args below meth c n g X h0 cells slots Q (pc + 1) lv (.int (x + y) :: st) h) : G p l e R s m args below meth c n g X h0 cells slots Q (pc) lv (.int y :: .int x :: st) h := fun H locs ls hW hS hl => lv_iadd C.1 C.2.1 d (kk H locs ls hW hS hl)
theorem G.isub (C : Cx p s m args meth c b n own ret g) {x y : Int32} (d : decode b pc = .ok (.isub, 1)) (kk : G p l e R s m args below meth c n g X h0 cells slots Q (pc + 1) lv (.int (x - y) :: st) h) : G p l e R s m args below meth c n g X h0 cells slots Q (pc) lv (.int y :: .int x :: st) h := fun H locs ls hW hS hl => lv_isub C.1 C.2.1 d (kk H locs ls hW hS hl)
theorem G.imul (C : Cx p s m args meth c b n own ret g) {x y : Int32} (d : decode b pc = .ok (.imul, 1)) (kk : G p l e R s m args below meth c n g X h0 cells slots Q (pc + 1) lv (.int (x * y) :: st) h) : G p l e R s m args below meth c n g X h0 cells slots Q (pc) lv (.int y :: .int x :: st) h := fun H locs ls hW hS hl => lv_imul C.1 C.2.1 d (kk H locs ls hW hS hl)
theorem G.iand (C : Cx p s m args meth c b n own ret g) {x y : Int32} (d : decode b pc = .ok (.iand, 1)) (kk : G p l e R s m args below meth c n g X h0 cells slots Q (pc + 1) lv (.int (x &&& y) :: st) h) : G p l e R s m args below meth c n g X h0 cells slots Q (pc) lv (.int y :: .int x :: st) h := fun H locs ls hW hS hl => lv_iand C.1 C.2.1 d (kk H locs ls hW hS hl)
theorem G.idiv (C : Cx p s m args meth c b n own ret g) {x y : Int32} (d : decode b pc = .ok (.idiv, 1)) (hne : ¬ y = 0) (kk : G p l e R s m args below meth c n g X h0 cells slots Q (pc + 1) lv (.int (x / y) :: st) h) : G p l e R s m args below meth c n g X h0 cells slots Q (pc) lv (.int y :: .int x :: st) h := fun H locs ls hW hS hl => lv_idiv C.1 C.2.1 d hne (kk H locs ls hW hS hl)
theorem G.irem (C : Cx p s m args meth c b n own ret g) {x y : Int32} (d : decode b pc = .ok (.irem, 1)) (hne : ¬ y = 0) (kk : G p l e R s m args below meth c n g X h0 cells slots Q (pc + 1) lv (.int (x - x / y * y) :: st) h) : G p l e R s m args below meth c n g X h0 cells slots Q (pc) lv (.int y :: .int x :: st) h := fun H locs ls hW hS hl => lv_irem C.1 C.2.1 d hne (kk H locs ls hW hS hl)
theorem G.ladd (C : Cx p s m args meth c b n own ret g) {x y : Int64} (d : decode b pc = .ok (.ladd, 1)) (kk : G p l e R s m args below meth c n g X h0 cells slots Q (pc + 1) lv (.long (x + y) :: st) h) : G p l e R s m args below meth c n g X h0 cells slots Q (pc) lv (.long y :: .long x :: st) h := fun H locs ls hW hS hl => lv_ladd C.1 C.2.1 d (kk H locs ls hW hS hl)
theorem G.lsub (C : Cx p s m args meth c b n own ret g) {x y : Int64} (d : decode b pc = .ok (.lsub, 1)) (kk : G p l e R s m args below meth c n g X h0 cells slots Q (pc + 1) lv (.long (x - y) :: st) h) : G p l e R s m args below meth c n g X h0 cells slots Q (pc) lv (.long y :: .long x :: st) h := fun H locs ls hW hS hl => lv_lsub C.1 C.2.1 d (kk H locs ls hW hS hl)
theorem G.lmul (C : Cx p s m args meth c b n own ret g) {x y : Int64} (d : decode b pc = .ok (.lmul, 1)) (kk : G p l e R s m args below meth c n g X h0 cells slots Q (pc + 1) lv (.long (x * y) :: st) h) : G p l e R s m args below meth c n g X h0 cells slots Q (pc) lv (.long y :: .long x :: st) h := fun H locs ls hW hS hl => lv_lmul C.1 C.2.1 d (kk H locs ls hW hS hl)
theorem G.lshl (C : Cx p s m args meth c b n own ret g) {x : Int64} {y : Int32} (d : decode b pc = .ok (.lshl, 1)) (kk : G p l e R s m args below meth c n g X h0 cells slots Q (pc + 1) lv (.long (x <<< (y.toInt64 &&& 63)) :: st) h) : G p l e R s m args below meth c n g X h0 cells slots Q (pc) lv (.int y :: .long x :: st) h := fun H locs ls hW hS hl => lv_lshl C.1 C.2.1 d rfl (kk H locs ls hW hS hl)
theorem G.i2l (C : Cx p s m args meth c b n own ret g) {x : Int32} (d : decode b pc = .ok (.i2l, 1)) (kk : G p l e R s m args below meth c n g X h0 cells slots Q (pc + 1) lv (.long x.toInt64 :: st) h) : G p l e R s m args below meth c n g X h0 cells slots Q (pc) lv (.int x :: st) h := fun H locs ls hW hS hl => lv_i2l C.1 C.2.1 d rfl (kk H locs ls hW hS hl)
theorem G.i2d (C : Cx p s m args meth c b n own ret g) {x : Int32} (d : decode b pc = .ok (.i2d, 1)) (kk : G p l e R s m args below meth c n g X h0 cells slots Q (pc + 1) lv (.double (FP.i2d x) :: st) h) : G p l e R s m args below meth c n g X h0 cells slots Q (pc) lv (.int x :: st) h := fun H locs ls hW hS hl => lv_i2d C.1 C.2.1 d (kk H locs ls hW hS hl)
theorem G.l2d (C : Cx p s m args meth c b n own ret g) {x : Int64} (d : decode b pc = .ok (.l2d, 1)) (kk : G p l e R s m args below meth c n g X h0 cells slots Q (pc + 1) lv (.double (FP.l2d x) :: st) h) : G p l e R s m args below meth c n g X h0 cells slots Q (pc) lv (.long x :: st) h := fun H locs ls hW hS hl => lv_l2d C.1 C.2.1 d (kk H locs ls hW hS hl)
theorem G.d2l (C : Cx p s m args meth c b n own ret g) {x : UInt64} (d : decode b pc = .ok (.d2l, 1)) (kk : G p l e R s m args below meth c n g X h0 cells slots Q (pc + 1) lv (.long (FP.d2l x) :: st) h) : G p l e R s m args below meth c n g X h0 cells slots Q (pc) lv (.double x :: st) h := fun H locs ls hW hS hl => lv_d2l C.1 C.2.1 d (kk H locs ls hW hS hl)
theorem G.dmul (C : Cx p s m args meth c b n own ret g) {x y : UInt64} (d : decode b pc = .ok (.dmul, 1)) (hne : vf_n64 (FP.dmul x y)) (kk : G p l e R s m args below meth c n g X h0 cells slots Q (pc + 1) lv (.double (FP.dmul x y) :: st) h) : G p l e R s m args below meth c n g X h0 cells slots Q (pc) lv (.double y :: .double x :: st) h := fun H locs ls hW hS hl => lv_dmul C.1 C.2.1 d hne (kk H locs ls hW hS hl)
theorem G.dsub (C : Cx p s m args meth c b n own ret g) {x y : UInt64} (d : decode b pc = .ok (.dsub, 1)) (hne : vf_n64 (FP.dsub x y)) (kk : G p l e R s m args below meth c n g X h0 cells slots Q (pc + 1) lv (.double (FP.dsub x y) :: st) h) : G p l e R s m args below meth c n g X h0 cells slots Q (pc) lv (.double y :: .double x :: st) h := fun H locs ls hW hS hl => lv_dsub C.1 C.2.1 d hne (kk H locs ls hW hS hl)
theorem G.ddiv (C : Cx p s m args meth c b n own ret g) {x y : UInt64} (d : decode b pc = .ok (.ddiv, 1)) (hne : vf_n64 (FP.ddiv x y)) (kk : G p l e R s m args below meth c n g X h0 cells slots Q (pc + 1) lv (.double (FP.ddiv x y) :: st) h) : G p l e R s m args below meth c n g X h0 cells slots Q (pc) lv (.double y :: .double x :: st) h := fun H locs ls hW hS hl => lv_ddiv C.1 C.2.1 d hne (kk H locs ls hW hS hl)
theorem G.dup (C : Cx p s m args meth c b n own ret g) {va : Value} (d : decode b pc = .ok (.dup, 1)) (hva : va.category = 1) (kk : G p l e R s m args below meth c n g X h0 cells slots Q (pc + 1) lv (va :: va :: st) h) : G p l e R s m args below meth c n g X h0 cells slots Q (pc) lv (va :: st) h := fun H locs ls hW hS hl => lv_dup C.1 C.2.1 d hva (kk H locs ls hW hS hl)
theorem G.dup2 (C : Cx p s m args meth c b n own ret g) {va vb : Value} (d : decode b pc = .ok (.dup2, 1)) (hva : va.category = 1) (hvb : vb.category = 1) (kk : G p l e R s m args below meth c n g X h0 cells slots Q (pc + 1) lv (va :: vb :: va :: vb :: st) h) : G p l e R s m args below meth c n g X h0 cells slots Q (pc) lv (va :: vb :: st) h := fun H locs ls hW hS hl => lv_dup2_11 C.1 C.2.1 d hva hvb (kk H locs ls hW hS hl)
theorem G.pop (C : Cx p s m args meth c b n own ret g) {va : Value} (d : decode b pc = .ok (.pop, 1)) (hva : va.category = 1) (kk : G p l e R s m args below meth c n g X h0 cells slots Q (pc + 1) lv (st) h) : G p l e R s m args below meth c n g X h0 cells slots Q (pc) lv (va :: st) h := fun H locs ls hW hS hl => lv_pop C.1 C.2.1 d hva (kk H locs ls hW hS hl)
theorem G.lcmp (C : Cx p s m args meth c b n own ret g) {x y : Int64} (d : decode b pc = .ok (.lcmp, 1)) (kk : G p l e R s m args below meth c n g X h0 cells slots Q (pc + 1) lv (.int (lg_cmp x y) :: st) h) : G p l e R s m args below meth c n g X h0 cells slots Q (pc) lv (.long y :: .long x :: st) h := fun H locs ls hW hS hl => W.lcmp C.1 C.2.1 d (kk H locs ls hW hS hl)
theorem G.dcmp (C : Cx p s m args meth c b n own ret g) {x y : UInt64} {op : CmpOp} (d : decode b pc = .ok (.dcmp op, 1)) (kk : G p l e R s m args below meth c n g X h0 cells slots Q (pc + 1) lv (.int (Op.cmpValue (FP.dcmp x y) op) :: st) h) : G p l e R s m args below meth c n g X h0 cells slots Q (pc) lv (.double y :: .double x :: st) h := fun H locs ls hW hS hl => lv_dcmp C.1 C.2.1 d (kk H locs ls hW hS hl)
theorem G.if_eq (C : Cx p s m args meth c b n own ret g) {x : Int32} {off : Int} {tgt : Nat} {α : Type} {fa fb : Option α} {r9 : α} (d : decode b pc = .ok (.ifCond .eq off, 3)) (ht : (pc : Int) + off = (tgt : Int)) (hf : (if x = 0 then fa else fb) = some r9) (kt : x = 0 → fa = some r9 → G p l e R s m args below meth c n g X h0 cells slots Q (tgt) lv (st) h) (kf : ¬ x = 0 → fb = some r9 → G p l e R s m args below meth c n g X h0 cells slots Q (pc + 3) lv (st) h) : G p l e R s m args below meth c n g X h0 cells slots Q (pc) lv (.int x :: st) h := fun H locs ls hW hS hl => lv_if_eq C.1 C.2.1 d ht (fun q => kt q (by rw [if_pos q] at hf; exact hf) H locs ls hW hS hl) (fun q => kf q (by first | (rw [if_neg q] at hf; exact hf) | (rw [if_neg (fun z => z q)] at hf; exact hf)) H locs ls hW hS hl)
theorem G.icmp_eq (C : Cx p s m args meth c b n own ret g) {x y : Int32} {off : Int} {tgt : Nat} {α : Type} {fa fb : Option α} {r9 : α} (d : decode b pc = .ok (.if_icmp .eq off, 3)) (ht : (pc : Int) + off = (tgt : Int)) (hf : (if x = y then fa else fb) = some r9) (kt : x = y → fa = some r9 → G p l e R s m args below meth c n g X h0 cells slots Q (tgt) lv (st) h) (kf : ¬ x = y → fb = some r9 → G p l e R s m args below meth c n g X h0 cells slots Q (pc + 3) lv (st) h) : G p l e R s m args below meth c n g X h0 cells slots Q (pc) lv (.int y :: .int x :: st) h := fun H locs ls hW hS hl => lv_icmp_eq C.1 C.2.1 d ht (fun q => kt q (by rw [if_pos q] at hf; exact hf) H locs ls hW hS hl) (fun q => kf q (by first | (rw [if_neg q] at hf; exact hf) | (rw [if_neg (fun z => z q)] at hf; exact hf)) H locs ls hW hS hl)
theorem G.if_ne (C : Cx p s m args meth c b n own ret g) {x : Int32} {off : Int} {tgt : Nat} {α : Type} {fa fb : Option α} {r9 : α} (d : decode b pc = .ok (.ifCond .ne off, 3)) (ht : (pc : Int) + off = (tgt : Int)) (hf : (if ¬ x = 0 then fa else fb) = some r9) (kt : ¬ x = 0 → fa = some r9 → G p l e R s m args below meth c n g X h0 cells slots Q (tgt) lv (st) h) (kf : x = 0 → fb = some r9 → G p l e R s m args below meth c n g X h0 cells slots Q (pc + 3) lv (st) h) : G p l e R s m args below meth c n g X h0 cells slots Q (pc) lv (.int x :: st) h := fun H locs ls hW hS hl => lv_if_ne C.1 C.2.1 d ht (fun q => kt q (by rw [if_pos q] at hf; exact hf) H locs ls hW hS hl) (fun q => kf q (by first | (rw [if_neg q] at hf; exact hf) | (rw [if_neg (fun z => z q)] at hf; exact hf)) H locs ls hW hS hl)
theorem G.icmp_ne (C : Cx p s m args meth c b n own ret g) {x y : Int32} {off : Int} {tgt : Nat} {α : Type} {fa fb : Option α} {r9 : α} (d : decode b pc = .ok (.if_icmp .ne off, 3)) (ht : (pc : Int) + off = (tgt : Int)) (hf : (if ¬ x = y then fa else fb) = some r9) (kt : ¬ x = y → fa = some r9 → G p l e R s m args below meth c n g X h0 cells slots Q (tgt) lv (st) h) (kf : x = y → fb = some r9 → G p l e R s m args below meth c n g X h0 cells slots Q (pc + 3) lv (st) h) : G p l e R s m args below meth c n g X h0 cells slots Q (pc) lv (.int y :: .int x :: st) h := fun H locs ls hW hS hl => lv_icmp_ne C.1 C.2.1 d ht (fun q => kt q (by rw [if_pos q] at hf; exact hf) H locs ls hW hS hl) (fun q => kf q (by first | (rw [if_neg q] at hf; exact hf) | (rw [if_neg (fun z => z q)] at hf; exact hf)) H locs ls hW hS hl)
theorem G.if_lt (C : Cx p s m args meth c b n own ret g) {x : Int32} {off : Int} {tgt : Nat} {α : Type} {fa fb : Option α} {r9 : α} (d : decode b pc = .ok (.ifCond .lt off, 3)) (ht : (pc : Int) + off = (tgt : Int)) (hf : (if x < 0 then fa else fb) = some r9) (kt : x < 0 → fa = some r9 → G p l e R s m args below meth c n g X h0 cells slots Q (tgt) lv (st) h) (kf : ¬ x < 0 → fb = some r9 → G p l e R s m args below meth c n g X h0 cells slots Q (pc + 3) lv (st) h) : G p l e R s m args below meth c n g X h0 cells slots Q (pc) lv (.int x :: st) h := fun H locs ls hW hS hl => lv_if_lt C.1 C.2.1 d ht (fun q => kt q (by rw [if_pos q] at hf; exact hf) H locs ls hW hS hl) (fun q => kf q (by first | (rw [if_neg q] at hf; exact hf) | (rw [if_neg (fun z => z q)] at hf; exact hf)) H locs ls hW hS hl)
theorem G.icmp_lt (C : Cx p s m args meth c b n own ret g) {x y : Int32} {off : Int} {tgt : Nat} {α : Type} {fa fb : Option α} {r9 : α} (d : decode b pc = .ok (.if_icmp .lt off, 3)) (ht : (pc : Int) + off = (tgt : Int)) (hf : (if x < y then fa else fb) = some r9) (kt : x < y → fa = some r9 → G p l e R s m args below meth c n g X h0 cells slots Q (tgt) lv (st) h) (kf : ¬ x < y → fb = some r9 → G p l e R s m args below meth c n g X h0 cells slots Q (pc + 3) lv (st) h) : G p l e R s m args below meth c n g X h0 cells slots Q (pc) lv (.int y :: .int x :: st) h := fun H locs ls hW hS hl => lv_icmp_lt C.1 C.2.1 d ht (fun q => kt q (by rw [if_pos q] at hf; exact hf) H locs ls hW hS hl) (fun q => kf q (by first | (rw [if_neg q] at hf; exact hf) | (rw [if_neg (fun z => z q)] at hf; exact hf)) H locs ls hW hS hl)
theorem G.if_ge (C : Cx p s m args meth c b n own ret g) {x : Int32} {off : Int} {tgt : Nat} {α : Type} {fa fb : Option α} {r9 : α} (d : decode b pc = .ok (.ifCond .ge off, 3)) (ht : (pc : Int) + off = (tgt : Int)) (hf : (if 0 ≤ x then fa else fb) = some r9) (kt : 0 ≤ x → fa = some r9 → G p l e R s m args below meth c n g X h0 cells slots Q (tgt) lv (st) h) (kf : ¬ 0 ≤ x → fb = some r9 → G p l e R s m args below meth c n g X h0 cells slots Q (pc + 3) lv (st) h) : G p l e R s m args below meth c n g X h0 cells slots Q (pc) lv (.int x :: st) h := fun H locs ls hW hS hl => lv_if_ge C.1 C.2.1 d ht (fun q => kt q (by rw [if_pos q] at hf; exact hf) H locs ls hW hS hl) (fun q => kf q (by first | (rw [if_neg q] at hf; exact hf) | (rw [if_neg (fun z => z q)] at hf; exact hf)) H locs ls hW hS hl)
theorem G.icmp_ge (C : Cx p s m args meth c b n own ret g) {x y : Int32} {off : Int} {tgt : Nat} {α : Type} {fa fb : Option α} {r9 : α} (d : decode b pc = .ok (.if_icmp .ge off, 3)) (ht : (pc : Int) + off = (tgt : Int)) (hf : (if y ≤ x then fa else fb) = some r9) (kt : y ≤ x → fa = some r9 → G p l e R s m args below meth c n g X h0 cells slots Q (tgt) lv (st) h) (kf : ¬ y ≤ x → fb = some r9 → G p l e R s m args below meth c n g X h0 cells slots Q (pc + 3) lv (st) h) : G p l e R s m args below meth c n g X h0 cells slots Q (pc) lv (.int y :: .int x :: st) h := fun H locs ls hW hS hl => lv_icmp_ge C.1 C.2.1 d ht (fun q => kt q (by rw [if_pos q] at hf; exact hf) H locs ls hW hS hl) (fun q => kf q (by first | (rw [if_neg q] at hf; exact hf) | (rw [if_neg (fun z => z q)] at hf; exact hf)) H locs ls hW hS hl)
theorem G.if_gt (C : Cx p s m args meth c b n own ret g) {x : Int32} {off : Int} {tgt : Nat} {α : Type} {fa fb : Option α} {r9 : α} (d : decode b pc = .ok (.ifCond .gt off, 3)) (ht : (pc : Int) + off = (tgt : Int)) (hf : (if 0 < x then fa else fb) = some r9) (kt : 0 < x → fa = some r9 → G p l e R s m args below meth c n g X h0 cells slots Q (tgt) lv (st) h) (kf : ¬ 0 < x → fb = some r9 → G p l e R s m args below meth c n g X h0 cells slots Q (pc + 3) lv (st) h) : G p l e R s m args below meth c n g X h0 cells slots Q (pc) lv (.int x :: st) h := fun H locs ls hW hS hl => lv_if_gt C.1 C.2.1 d ht (fun q => kt q (by rw [if_pos q] at hf; exact hf) H locs ls hW hS hl) (fun q => kf q (by first | (rw [if_neg q] at hf; exact hf) | (rw [if_neg (fun z => z q)] at hf; exact hf)) H locs ls hW hS hl)
theorem G.icmp_gt (C : Cx p s m args meth c b n own ret g) {x y : Int32} {off : Int} {tgt : Nat} {α : Type} {fa fb : Option α} {r9 : α} (d : decode b pc = .ok (.if_icmp .gt off, 3)) (ht : (pc : Int) + off = (tgt : Int)) (hf : (if y < x then fa else fb) = some r9) (kt : y < x → fa = some r9 → G p l e R s m args below meth c n g X h0 cells slots Q (tgt) lv (st) h) (kf : ¬ y < x → fb = some r9 → G p l e R s m args below meth c n g X h0 cells slots Q (pc + 3) lv (st) h) : G p l e R s m args below meth c n g X h0 cells slots Q (pc) lv (.int y :: .int x :: st) h := fun H locs ls hW hS hl => lv_icmp_gt C.1 C.2.1 d ht (fun q => kt q (by rw [if_pos q] at hf; exact hf) H locs ls hW hS hl) (fun q => kf q (by first | (rw [if_neg q] at hf; exact hf) | (rw [if_neg (fun z => z q)] at hf; exact hf)) H locs ls hW hS hl)
theorem G.if_le (C : Cx p s m args meth c b n own ret g) {x : Int32} {off : Int} {tgt : Nat} {α : Type} {fa fb : Option α} {r9 : α} (d : decode b pc = .ok (.ifCond .le off, 3)) (ht : (pc : Int) + off = (tgt : Int)) (hf : (if x ≤ 0 then fa else fb) = some r9) (kt : x ≤ 0 → fa = some r9 → G p l e R s m args below meth c n g X h0 cells slots Q (tgt) lv (st) h) (kf : ¬ x ≤ 0 → fb = some r9 → G p l e R s m args below meth c n g X h0 cells slots Q (pc + 3) lv (st) h) : G p l e R s m args below meth c n g X h0 cells slots Q (pc) lv (.int x :: st) h := fun H locs ls hW hS hl => lv_if_le C.1 C.2.1 d ht (fun q => kt q (by rw [if_pos q] at hf; exact hf) H locs ls hW hS hl) (fun q => kf q (by first | (rw [if_neg q] at hf; exact hf) | (rw [if_neg (fun z => z q)] at hf; exact hf)) H locs ls hW hS hl)
theorem G.icmp_le (C : Cx p s m args meth c b n own ret g) {x y : Int32} {off : Int} {tgt : Nat} {α : Type} {fa fb : Option α} {r9 : α} (d : decode b pc = .ok (.if_icmp .le off, 3)) (ht : (pc : Int) + off = (tgt : Int)) (hf : (if x ≤ y then fa else fb) = some r9) (kt : x ≤ y → fa = some r9 → G p l e R s m args below meth c n g X h0 cells slots Q (tgt) lv (st) h) (kf : ¬ x ≤ y → fb = some r9 → G p l e R s m args below meth c n g X h0 cells slots Q (pc + 3) lv (st) h) : G p l e R s m args below meth c n g X h0 cells slots Q (pc) lv (.int y :: .int x :: st) h := fun H locs ls hW hS hl => lv_icmp_le C.1 C.2.1 d ht (fun q => kt q (by rw [if_pos q] at hf; exact hf) H locs ls hW hS hl) (fun q => kf q (by first | (rw [if_neg q] at hf; exact hf) | (rw [if_neg (fun z => z q)] at hf; exact hf)) H locs ls hW hS hl)
theorem G.goto (C : Cx p s m args meth c b n own ret g) {off : Int} {tgt : Nat} (d : decode b pc = .ok (.goto off, 3)) (ht : (pc : Int) + off = (tgt : Int)) (kk : G p l e R s m args below meth c n g X h0 cells slots Q (tgt) lv (st) h) : G p l e R s m args below meth c n g X h0 cells slots Q (pc) lv (st) h := fun H locs ls hW hS hl => lv_goto C.1 C.2.1 d ht (kk H locs ls hW hS hl)
theorem G.ifnull (C : Cx p s m args meth c b n own ret g) {x : Option Nat} {off : Int} {tgt : Nat} (d : decode b pc = .ok (.ifnull off, 3)) (ht : (pc : Int) + off = (tgt : Int)) (kt : x = none → G p l e R s m args below meth c n g X h0 cells slots Q (tgt) lv (st) h) (kf : ∀ a, x = some a → G p l e R s m args below meth c n g X h0 cells slots Q (pc + 3) lv (st) h) : G p l e R s m args below meth c n g X h0 cells slots Q (pc) lv (va_rf x :: st) h := by
  intro H locs ls hW hS hl
  cases x with
  | none => exact lv_ifnullN C.1 C.2.1 d ht (kt rfl H locs ls hW hS hl)
  | some a => exact lv_ifnull C.1 C.2.1 d (kf a rfl H locs ls hW hS hl)
theorem G.ifnonnull (C : Cx p s m args meth c b n own ret g) {x : Option Nat} {off : Int} {tgt : Nat} (d : decode b pc = .ok (.ifnonnull off, 3)) (ht : (pc : Int) + off = (tgt : Int)) (kt : ∀ a, x = some a → G p l e R s m args below meth c n g X h0 cells slots Q (tgt) lv (st) h) (kf : x = none → G p l e R s m args below meth c n g X h0 cells slots Q (pc + 3) lv (st) h) : G p l e R s m args below meth c n g X h0 cells slots Q (pc) lv (va_rf x :: st) h := by
  intro H locs ls hW hS hl
  cases x with
  | none => exact lv_ifnonnullN C.1 C.2.1 d (kf rfl H locs ls hW hS hl)
  | some a => exact lv_ifnonnull C.1 C.2.1 d ht (kt a rfl H locs ls hW hS hl)
theorem G.tswIn (C : Cx p s m args meth c b n own ret g) {dflt lo hi : Int} {offs : Array Int} {len : Nat} {x k : Int32} {off : Int} {tgt : Nat} (hx : x = k) (d : decode b pc = .ok (.tableswitch dflt lo hi offs, len)) (h1 : ¬ k.toInt < lo) (h2 : ¬ hi < k.toInt) (ho : offs[(k.toInt - lo).toNat]? = some off) (ht : (pc : Int) + off = (tgt : Int)) (kk : G p l e R s m args below meth c n g X h0 cells slots Q (tgt) lv (st) h) : G p l e R s m args below meth c n g X h0 cells slots Q (pc) lv (.int x :: st) h := by
  subst hx
  exact fun H locs ls hW hS hl => lv_tableIn C.1 C.2.1 d h1 h2 ho ht (kk H locs ls hW hS hl)
theorem G.tswOut (C : Cx p s m args meth c b n own ret g) {dflt lo hi : Int} {offs : Array Int} {len : Nat} {x : Int32} {tgt : Nat} (d : decode b pc = .ok (.tableswitch dflt lo hi offs, len)) (h1 : x.toInt < lo ∨ hi < x.toInt) (ht : (pc : Int) + dflt = (tgt : Int)) (kk : G p l e R s m args below meth c n g X h0 cells slots Q (tgt) lv (st) h) : G p l e R s m args below meth c n g X h0 cells slots Q (pc) lv (.int x :: st) h := fun H locs ls hW hS hl => lv_tableOut C.1 C.2.1 d h1 ht (kk H locs ls hW hS hl)
theorem G.lsw (C : Cx p s m args meth c b n own ret g) {dflt : Int} {ps : Array (Int × Int)} {len : Nat} {x : Int32} {off : Int} {tgt : Nat} (d : decode b pc = .ok (.lookupswitch dflt ps, len)) (hp : (ps.toList.zip (ps.toList.drop 1)).all (fun (a, next) => a.1 < next.1) = true) (ho : Op.lookupswitch.offset ps.toList dflt x.toInt = off) (ht : (pc : Int) + off = (tgt : Int)) (kk : G p l e R s m args below meth c n g X h0 cells slots Q (tgt) lv (st) h) : G p l e R s m args below meth c n g X h0 cells slots Q (pc) lv (.int x :: st) h := fun H locs ls hW hS hl => lv_lookup C.1 C.2.1 d hp ho ht (kk H locs ls hW hS hl)
theorem G.sub (C : Cx p s m args meth c b n own ret g) (ks : List Nat) {lv' : List (Nat × Value)} (hl1 : lv_pick lv ks = lv') (kk : G p l e R s m args below meth c n g X h0 cells slots Q (pc) lv' (st) h) : G p l e R s m args below meth c n g X h0 cells slots Q (pc) lv (st) h := fun H locs ls hW hS hl => kk H locs ls hW hS (lv_sub hl ks hl1)
theorem G.getI (C : Cx p s m args meth c b n own ret g) {ci k idx : Nat} {CN : String} {T : u_T} {N : Nat} (hc : vwCl[ci]? = some (CN, T, N)) (hin : ∀ w ∈ u_ws CN T N, w ∈ wsL_law) (hk : k < N) (hw : Cond.fieldLink own idx CN (T k).2.1 (T k).2.2.1 ∈ wsL_law) (hdc : (T k).1 = CN) {a : Nat} {α : Type} {f : Int32 → Option α} {r9 : α} (hf : (rdI h a ci k).bind f = some r9) (d : decode b pc = .ok (.getfield idx, 3)) (kk : ∀ v, rdI h a ci k = some v → f v = some r9 → G p l e R s m args below meth c n g X h0 cells slots Q (pc + 3) lv (.int v :: st) h) : G p l e R s m args below meth c n g X h0 cells slots Q (pc) lv (.ref a :: st) h := by
  intro H locs ls hW hS hl
  obtain ⟨v, hv, hf⟩ := bind_some hf
  obtain ⟨fs, he, hfs⟩ := rdI_at hv
  obtain ⟨ws, q0, hP, hD, hq, -⟩ := hW.at he
  exact va_get C.1 C.2.1 C.2.2.2.2.2.1 hin C.2.2.2.2.1 C.2.2.2.2.2.2.2 hP q0 hq hc k hk (C.2.2.2.2.2.1 _ hw) (fun _ h9 => by rw [hdc] at h9; exact h9) hfs d (kk v hv hf H locs ls hW hS hl)
theorem G.getJ (C : Cx p s m args meth c b n own ret g) {ci k idx : Nat} {CN : String} {T : u_T} {N : Nat} (hc : vwCl[ci]? = some (CN, T, N)) (hin : ∀ w ∈ u_ws CN T N, w ∈ wsL_law) (hk : k < N) (hw : Cond.fieldLink own idx CN (T k).2.1 (T k).2.2.1 ∈ wsL_law) (hdc : (T k).1 = CN) {a : Nat} {α : Type} {f : Int64 → Option α} {r9 : α} (hf : (rdJ h a ci k).bind f = some r9) (d : decode b pc = .ok (.getfield idx, 3)) (kk : ∀ v, rdJ h a ci k = some v → f v = some r9 → G p l e R s m args below meth c n g X h0 cells slots Q (pc + 3) lv (.long v :: st) h) : G p l e R s m args below meth c n g X h0 cells slots Q (pc) lv (.ref a :: st) h := by
  intro H locs ls hW hS hl
  obtain ⟨v, hv, hf⟩ := bind_some hf
  obtain ⟨fs, he, hfs⟩ := rdJ_at hv
  obtain ⟨ws, q0, hP, hD, hq, -⟩ := hW.at he
  exact va_get C.1 C.2.1 C.2.2.2.2.2.1 hin C.2.2.2.2.1 C.2.2.2.2.2.2.2 hP q0 hq hc k hk (C.2.2.2.2.2.1 _ hw) (fun _ h9 => by rw [hdc] at h9; exact h9) hfs d (kk v hv hf H locs ls hW hS hl)
theorem G.getR (C : Cx p s m args meth c b n own ret g) {ci k idx : Nat} {CN : String} {T : u_T} {N : Nat} (hc : vwCl[ci]? = some (CN, T, N)) (hin : ∀ w ∈ u_ws CN T N, w ∈ wsL_law) (hk : k < N) (hw : Cond.fieldLink own idx CN (T k).2.1 (T k).2.2.1 ∈ wsL_law) (hdc : (T k).1 = CN) {a : Nat} {α : Type} {f : Nat → Option α} {r9 : α} (hf : (rdR h a ci k).bind f = some r9) (d : decode b pc = .ok (.getfield idx, 3)) (kk : ∀ v, rdR h a ci k = some v → f v = some r9 → G p l e R s m args below meth c n g X h0 cells slots Q (pc + 3) lv (.ref v :: st) h) : G p l e R s m args below meth c n g X h0 cells slots Q (pc) lv (.ref a :: st) h := by
  intro H locs ls hW hS hl
  obtain ⟨v, hv, hf⟩ := bind_some hf
  obtain ⟨fs, he, hfs⟩ := rdR_at hv
  obtain ⟨ws, q0, hP, hD, hq, -⟩ := hW.at he
  exact va_get C.1 C.2.1 C.2.2.2.2.2.1 hin C.2.2.2.2.1 C.2.2.2.2.2.2.2 hP q0 hq hc k hk (C.2.2.2.2.2.1 _ hw) (fun _ h9 => by rw [hdc] at h9; exact h9) hfs d (kk v hv hf H locs ls hW hS hl)
theorem G.put (C : Cx p s m args meth c b n own ret g) {ci k idx : Nat} {CN : String} {T : u_T} {N : Nat} (hc : vwCl[ci]? = some (CN, T, N)) (hin : ∀ w ∈ u_ws CN T N, w ∈ wsL_law) (hk : k < N) (hw : Cond.fieldLink own idx CN (T k).2.1 (T k).2.2.1 ∈ wsL_law) (hdc : (T k).1 = CN) (ty0 : Nat → FieldType) (hty : ∀ k, k < N → parseFieldDescriptor (T k).2.2.1 = some (ty0 k)) (hnm : ∀ a, a < N → ∀ b, b < N → a ≠ b → (T a).2.1 ≠ (T b).2.1) (hfin : (T k).2.2.2 = false) {v : Value} (hn : narrow (ty0 k) v = v) (hfit : fits (ty0 k) v = true) {a : Nat} {α : Type} {f : PH → Option α} {r9 : α} (hf : (wrF h a ci k v).bind f = some r9) (d : decode b pc = .ok (.putfield idx, 3)) (kk : ∀ h1, wrF h a ci k v = some h1 → f h1 = some r9 → G p l e R s m args below meth c n g X h0 cells slots Q (pc + 3) lv (st) h1) : G p l e R s m args below meth c n g X h0 cells slots Q (pc) lv (v :: .ref a :: st) h := by
  intro H locs ls hW hS hl
  obtain ⟨h1, hv, hf⟩ := bind_some hf
  obtain ⟨fs, he, hlen, e1⟩ := wrF_at hv
  obtain ⟨ws, q0, hP, hD, hq, hset, -⟩ := hW.at he
  refine va_put C.1 C.2.1 C.2.2.2.2.2.1 hin ty0 hty hnm C.2.2.2.2.1 C.2.2.2.2.2.2.2 hP hD hS q0 hq hc k hk (C.2.2.2.2.2.1 _ hw) (fun _ h9 => by rw [hdc] at h9; exact h9) hfin (hty k hk) hn hfit hlen d (fun H1 locs1 p1 d1 s1 => ?_)
  refine kk h1 hv hf H1 locs1 ls ?_ s1 hl
  rw [e1]
  exact hset (.inr (.inr (ci, fs.set k v))) H1 p1 d1
theorem G.iald (C : Cx p s m args meth c b n own ret g) {a : Nat} {i : Int32} {α : Type} {f : Int32 → Option α} {r9 : α} (hf : (ldI h a i).bind f = some r9) (d : decode b pc = .ok (.iaload, 1)) (kk : ∀ v, ldI h a i = some v → f v = some r9 → G p l e R s m args below meth c n g X h0 cells slots Q (pc + 1) lv (.int v :: st) h) : G p l e R s m args below meth c n g X h0 cells slots Q (pc) lv (.int i :: .ref a :: st) h := by
  intro H locs ls hW hS hl
  obtain ⟨v, hv, hf⟩ := bind_some hf
  obtain ⟨n9, f9, he, hin, rfl⟩ := ldI_at hv
  obtain ⟨ws, q0, hP, hD, hq, -⟩ := hW.at he
  exact va_iald C.1 C.2.1 C.2.2.2.2.2.2.2 hP q0 0 hq rfl hin d (kk _ hv hf H locs ls hW hS hl)
theorem G.iast (C : Cx p s m args meth c b n own ret g) {a : Nat} {i x : Int32} {α : Type} {f : PH → Option α} {r9 : α} (hf : (stI h a i x).bind f = some r9) (d : decode b pc = .ok (.iastore, 1)) (kk : ∀ h1, stI h a i x = some h1 → f h1 = some r9 → G p l e R s m args below meth c n g X h0 cells slots Q (pc + 1) lv (st) h1) : G p l e R s m args below meth c n g X h0 cells slots Q (pc) lv (.int x :: .int i :: .ref a :: st) h := by
  intro H locs ls hW hS hl
  obtain ⟨h1, hv, hf⟩ := bind_some hf
  obtain ⟨n9, f9, he, hin, e1⟩ := stI_at hv
  obtain ⟨ws, q0, hP, hD, hq, hset, -⟩ := hW.at he
  refine va_iast C.1 C.2.1 C.2.2.2.2.2.2.2 hP hD hS q0 0 hq rfl hin d (fun H1 locs1 p1 d1 s1 => ?_)
  refine kk h1 hv hf H1 locs1 ls ?_ s1 hl
  rw [e1]
  exact hset (.inl (n9, upd f9 i.toNatClampNeg x)) H1 p1 d1
theorem G.aald (C : Cx p s m args meth c b n own ret g) {a : Nat} {i : Int32} {α : Type} {f : Option Nat → Option α} {r9 : α} (hf : (ldQ h a i).bind f = some r9) (d : decode b pc = .ok (.aaload, 1)) (kk : ∀ v, ldQ h a i = some v → f v = some r9 → G p l e R s m args below meth c n g X h0 cells slots Q (pc + 1) lv (va_rf v :: st) h) : G p l e R s m args below meth c n g X h0 cells slots Q (pc) lv (.int i :: .ref a :: st) h := by
  intro H locs ls hW hS hl
  obtain ⟨v, hv, hf⟩ := bind_some hf
  obtain ⟨k9, n9, f9, he, hin, rfl⟩ := ldQ_at hv
  obtain ⟨ws, q0, hP, hD, hq, -⟩ := hW.at he
  by_cases h9 : k9 = 0
  · subst h9
    exact va_aldq C.1 C.2.1 C.2.2.2.2.2.2.2 hP q0 1 hq rfl hin d (kk _ hv hf H locs ls hW hS hl)
  · rw [show wcv g (.inr (.inl (k9, n9, f9))) = .inl (g.2.2.2.1, n9, .inr (.inr (.inr (.inr f9)))) by simp [wcv, h9]] at hq
    exact va_aldq C.1 C.2.1 C.2.2.2.2.2.2.2 hP q0 2 hq rfl hin d (kk _ hv hf H locs ls hW hS hl)
theorem G.aast (C : Cx p s m args meth c b n own ret g) {a v : Nat} {i : Int32} {α : Type} {f : PH → Option α} {r9 : α} (hf : (stQ h a i v).bind f = some r9) (d : decode b pc = .ok (.aastore, 1)) (kk : ∀ h1, stQ h a i v = some h1 → f h1 = some r9 → G p l e R s m args below meth c n g X h0 cells slots Q (pc + 1) lv (st) h1) : G p l e R s m args below meth c n g X h0 cells slots Q (pc) lv (.ref v :: .int i :: .ref a :: st) h := by
  intro H locs ls hW hS hl
  obtain ⟨h1, hv, hf⟩ := bind_some hf
  obtain ⟨k9, n9, f9, he, hin, hcl, e1⟩ := stQ_at hv
  obtain ⟨ws, q0, hP, hD, hq, hset, hoth⟩ := hW.at he
  rcases hcl with ⟨rfl, fs, hfs⟩ | ⟨rfl, fs, hfs⟩
  · obtain ⟨q2, hq2⟩ := hoth _ _ hfs
    refine va_astq C.1 C.2.1 C.2.2.2.2.2.2.2 hP hD hS q0 1 q2 1 (r := (RX2, TX2, 4)) hq rfl hq2 rfl hin d (fun H1 locs1 p1 d1 s1 => ?_)
    refine kk h1 hv hf H1 locs1 ls ?_ s1 hl
    rw [e1]
    exact hset (.inr (.inl (0, n9, va_up f9 i.toNatClampNeg (some v)))) H1 p1 d1
  · obtain ⟨q2, hq2⟩ := hoth _ _ hfs
    refine va_astq C.1 C.2.1 C.2.2.2.2.2.2.2 hP hD hS q0 2 q2 2 (r := (RX3, TX3, 6)) hq rfl hq2 rfl hin d (fun H1 locs1 p1 d1 s1 => ?_)
    refine kk h1 hv hf H1 locs1 ls ?_ s1 hl
    rw [e1]
    exact hset (.inr (.inl (1, n9, va_up f9 i.toNatClampNeg (some v)))) H1 p1 d1
theorem G.alen (C : Cx p s m args meth c b n own ret g) {a : Nat} {α : Type} {f : Int32 → Option α} {r9 : α} (hf : (lnA h a).bind f = some r9) (d : decode b pc = .ok (.arraylength, 1)) (kk : ∀ v, lnA h a = some v → f v = some r9 → G p l e R s m args below meth c n g X h0 cells slots Q (pc + 1) lv (.int v :: st) h) : G p l e R s m args below meth c n g X h0 cells slots Q (pc) lv (.ref a :: st) h := by
  intro H locs ls hW hS hl
  obtain ⟨v, hv, hf⟩ := bind_some hf
  have hv9 := hv
  unfold lnA at hv9
  split at hv9
  · rename_i n9 f9 he
    cases hv9
    obtain ⟨ws, q0, hP, hD, hq, -⟩ := hW.at he
    exact va_alen C.1 C.2.1 C.2.2.2.2.2.2.2 hP q0 0 hq rfl rfl d (kk _ hv hf H locs ls hW hS hl)
  · rename_i k9 n9 f9 he
    cases hv9
    obtain ⟨ws, q0, hP, hD, hq, -⟩ := hW.at he
    by_cases h9 : k9 = 0
    · subst h9
      exact va_alen C.1 C.2.1 C.2.2.2.2.2.2.2 hP q0 1 hq rfl rfl d (kk _ hv hf H locs ls hW hS hl)
    · rw [show wcv g (.inr (.inl (k9, n9, f9))) = .inl (g.2.2.2.1, n9, .inr (.inr (.inr (.inr f9)))) by simp [wcv, h9]] at hq
      exact va_alen C.1 C.2.1 C.2.2.2.2.2.2.2 hP q0 2 hq rfl rfl d (kk _ hv hf H locs ls hW hS hl)
  · cases hv9
end GR
end
section
/-! CONTRACTS: a method takes the pure heap h to the pure heap h', and answers o; or throws -/
def WPre (g : GC) (X : va_W) (h : PH) (sz : Nat) (U : State) : Prop := U.heap.size = sz ∧ WW g (fun _ => True) X h U.heap ∧ va_K g.1 vwCl (wty g) U
def QW (g : GC) (X : va_W) (h : PH) (sz : Nat) (o : Option Value) (h' : PH) : Array Value → State → Outcome → State → Prop := fun _ st oc t => (oc = .returned o ∧ WW g (AF X h sz) X h' t.heap ∧ va_K g.1 vwCl (wty g) t) ∧ va_F (AF X h sz) st t
def CT (l : Launch) (y : MethodName) (b : ByteArray) (n : Nat) (ret : Option FieldType) (fr lo : Nat) (av : List Value) (h : PH) (o : Option Value) (h' : PH) : Prop :=
  ∀ (g : GC) (X : va_W) (sz : Nat), Met l y (Cond.code y b n ret :: wsL_law) ({ frames := fr, cells := 0, slots := 0, locals := lo } : Room) (va_Pc av (WPre g X h sz)) (QW g X h sz o h') 0 0 (AF X h sz)
theorem all_good : wsL_law.all goodWord = true := by decide +kernel
theorem good_call {ws : List Cond} {w1 w2 w3 w4 : Cond} {y : MethodName} {b : ByteArray} {n : Nat} {ret : Option FieldType} (h1 : w1 ∈ wsL_law) (h2 : w2 ∈ wsL_law) (h3 : w3 ∈ wsL_law) (h4 : w4 ∈ wsL_law) (h5 : Cond.code y b n ret ∈ wsL_law) : GoodIn wsL_law ([w1, w2, w3, w4] ++ (Cond.code y b n ret :: wsL_law)) := by
  intro w hw
  have hm : w ∈ wsL_law := by
    rcases List.mem_append.mp hw with h | h
    · simp only [List.mem_cons, List.not_mem_nil, or_false] at h
      rcases h with rfl | rfl | rfl | rfl <;> assumption
    · rcases List.mem_cons.mp h with rfl | h
      · exact h5
      · exact h
  exact ⟨hm, good_of_word (List.all_eq_true.mp all_good w hm)⟩
theorem good_call3 {w1 w2 w3 : Cond} {y : MethodName} {b : ByteArray} {n : Nat} {ret : Option FieldType} (h1 : w1 ∈ wsL_law) (h2 : w2 ∈ wsL_law) (h3 : w3 ∈ wsL_law) (h5 : Cond.code y b n ret ∈ wsL_law) : GoodIn wsL_law ([w1, w2, w3] ++ (Cond.code y b n ret :: wsL_law)) := by
  intro w hw
  have hm : w ∈ wsL_law := by
    rcases List.mem_append.mp hw with h | h
    · simp only [List.mem_cons, List.not_mem_nil, or_false] at h
      rcases h with rfl | rfl | rfl <;> assumption
    · rcases List.mem_cons.mp h with rfl | h
      · exact h5
      · exact h
  exact ⟨hm, good_of_word (List.all_eq_true.mp all_good w hm)⟩
theorem WPre.blind {g : GC} {X : va_W} {h : PH} {sz : Nat} {av : List Value} : FrameBlind (va_Pc av (WPre g X h sz)) :=
  fun a U k mk q => ⟨q.1, q.2.1, q.2.2.1, va_K.moved (u := U) (U := U.calling k mk a) (Vm.Alike.refl U.vm) q.2.2.2⟩
theorem AF.sub {g : GC} {X : va_W} {h h0 : PH} {H : Heap} {sz0 : Nat} (hW : WW g (AF X h0 sz0) X h H) (hz : sz0 ≤ H.size) : ∀ q, AF X h H.size q → AF X h0 sz0 q := by
  intro q hq
  rcases hq with ⟨e, hq⟩ | ⟨e, hq⟩ | hq
  · exact hW.mem.1 q e hq
  · exact hW.mem.2 q e hq
  · exact Or.inr (Or.inr (Nat.le_trans hz hq))
/-- a method's walk: from its first instruction, over the pure heap -/
theorem CT.of {l : Launch} {y : MethodName} {b : ByteArray} {n : Nat} {ret : Option FieldType} {fr lo : Nat} {av : List Value} {h h' : PH} {o : Option Value} {own : String} (hown : own = y.cls) (hy : plainName y.cls = true) (hlen : (lg_sl av).length ≤ n)
    (body : ∀ (p : Program) (e : Env) (R : Room) (s : State) (m : MethodId) (args : Array Value) (below : List Frame) (meth : Method) (c : Code) (g : GC) (X : va_W), R = ({ frames := fr, cells := 0, slots := 0, locals := lo } : Room) → Cx p s m args meth c b n own ret g →
      G p l e R s m args below meth c n g X h 0 0 (MQ below (QW g X h s.heap.size o h') args s 0 0 (AF X h s.heap.size)) 0 (lv_args 0 av) [] h) : CT l y b n ret fr lo av h o h' := by
  intro g X sz
  refine Met.ofW (cc := b) (maxL := n) (ret := ret) hy rfl ?_
  intro p e s m args below meth c s₁ B hml hv
  obtain ⟨rfl, hsz, hW, hK⟩ := hv
  have hts := atoms_spec (ws := Cond.code y b n ret :: wsL_law) B.pre
  subst hsz
  have hl := lv_entry av (n := n) hlen
  rw [lg_entry_eq]
  refine body p e _ s m av.toArray below meth c g X rfl ⟨B.exec, B.bytes, hml, B.returns, by rw [hown]; exact findClass_of_methodNamed B.named, fun w hw => hts w (List.mem_cons_of_mem _ hw), B.notSynchronized, hK⟩ s.heap [] _ (hW.self _) va_S.rf hl

section GC9
variable {p : Program} {l : Launch} {e : Env} {R : Room} {s : State} {m : MethodId} {args : Array Value} {below : List Frame} {meth : Method} {c : Code} {n : Nat} {g : GC} {X : va_W} {h0 h : PH} {cells slots : Nat} {Q : State → Prop} {pc : Nat} {lv : List (Nat × Value)} {st : List Value} {b : ByteArray} {own : String} {ret : Option FieldType}
theorem G.callV (C : Cx p s m args meth c b n own ret g) {y : MethodName} {b' : ByteArray} {n' : Nat} {ret' : Option FieldType} {fr lo : Nat} {o : Option Value} {h' : PH} {st2 : List Value} {a ci : Nat} {As st0 : List Value} {CN : String} {T : u_T} {N idx : Nat} (ct : CT l y b' n' ret' fr lo (.ref a :: As) h o h') (hk : kO h a ci) (hc : vwCl[ci]? = some (CN, T, N))
    (w1 : Cond.methodLink own idx y ∈ wsL_law) (w2 : Cond.instanceMethod y ∈ wsL_law) (w3 : Cond.selects CN y y ∈ wsL_law) (w4 : Cond.initialized CN ∈ wsL_law) (w5 : Cond.code y b' n' ret' ∈ wsL_law)
    (hd : y.cls = CN ∧ y.cls ≠ "java/lang/invoke/MethodHandle" ∧ y.cls ≠ "java/lang/invoke/VarHandle" ∧ (parseMethodDescriptor y.desc).map (fun d => d.parameters.length) = some As.length) (hR : fr + 1 ≤ R.frames ∧ 8 + (n' + 11) + lo ≤ R.locals) (hcs : cells ≤ R.cells ∧ slots ≤ R.slots)
    (h8 : (st.map fun v => v.category).sum ≤ 8) (hst : st0 = As.reverse ++ .ref a :: st) (hst2 : o.toList ++ st = st2) (d : decode b pc = .ok (.invokevirtual idx, 3)) (kk : G p l e R s m args below meth c n g X h0 cells slots (Q) (pc + 3) lv (st2) h') : G p l e R s m args below meth c n g X h0 cells slots (Q) (pc) lv (st0) h := by
  subst hst2
  intro H locs ls hW hS hl T9 hT X9
  obtain ⟨fs, hfs⟩ := hk
  obtain ⟨ws, q0, hP, hD, hq, -⟩ := hW.at hfs
  have hr := va_runV (p := p) (l := l) (e := e) (R := R) (s := s) (m := m) (args := args) (below := below) (meth := meth) (c := c) (H := H) (locs := locs) (cells := cells) (slots := slots) (g := F0 m pc ls st0) (As := As) (rest := st) (b := a) (C := CN) (n := As.length) ⟨C.1, C.2.1, C.2.2.1, C.2.2.2.2.1, C.2.2.2.2.2.1⟩ (ct g X H.size) (cwV As.length C.2.2.2.2.2.1 (good_call (ws := []) w1 w2 w3 w4 w5) rfl rfl rfl hd hR)
    ⟨WPre.blind, va_recv C.2.2.2.2.2.2.2 hP hc hq, fun U hU hWU => ⟨rfl, by rw [hU], by rw [hU]; exact hW.sub (fun _ _ => trivial), va_K.moved hWU.alike C.2.2.2.2.2.2.2⟩⟩ rfl rfl hl.1 hst (lv_room h8) d ⟨hcs.1, hcs.2⟩ T9 hT X9
  obtain ⟨v, st₀, t, T', L, e0, X', hL, e1, e2, ⟨⟨hv, hW1, hK1⟩, hz, hkk⟩, go⟩ := hr
  cases hv
  rw [e0] at hz hkk
  have hsub := AF.sub hW hS.1
  obtain ⟨t2, a1, b1⟩ := kk T'.heap (locs ++ L) ls (by rw [e1]; exact hW1.sub hsub) ⟨Nat.le_trans hS.1 (by rw [e1]; exact hz), fun q h1 h2 => by rw [e1, hkk q (Nat.lt_of_lt_of_le h1 hS.1) (fun z => h2 (hsub q z))]; exact hS.2.1 q h1 h2, fun q hq9 => by
      rcases List.mem_append.mp hq9 with h9 | h9
      · exact hS.2.2 q h9
      · exact hsub _ (hL q h9)⟩ hl T' rfl X'
  exact ⟨t2, go t2 a1, b1⟩
theorem G.callS (C : Cx p s m args meth c b n own ret g) {y : MethodName} {b' : ByteArray} {n' : Nat} {ret' : Option FieldType} {fr lo : Nat} {o : Option Value} {h' : PH} {st2 : List Value} {As st0 : List Value} {idx : Nat} (ct : CT l y b' n' ret' fr lo As h o h')
    (w1 : Cond.methodLink own idx y ∈ wsL_law) (w2 : Cond.static y ∈ wsL_law) (w4 : Cond.initialized y.cls ∈ wsL_law) (w5 : Cond.code y b' n' ret' ∈ wsL_law)
    (hd : y.cls ≠ "java/lang/invoke/MethodHandle" ∧ y.cls ≠ "java/lang/invoke/VarHandle" ∧ (parseMethodDescriptor y.desc).map (fun d => d.parameters.length) = some As.length) (hR : fr + 1 ≤ R.frames ∧ 8 + (n' + 11) + lo ≤ R.locals) (hcs : cells ≤ R.cells ∧ slots ≤ R.slots)
    (h8 : (st.map fun v => v.category).sum ≤ 8) (hst : st0 = As.reverse ++ st) (hst2 : o.toList ++ st = st2) (d : decode b pc = .ok (.invokestatic idx, 3)) (kk : G p l e R s m args below meth c n g X h0 cells slots (Q) (pc + 3) lv (st2) h') : G p l e R s m args below meth c n g X h0 cells slots (Q) (pc) lv (st0) h := by
  subst hst2
  intro H locs ls hW hS hl T9 hT X9
  have hr := va_runS (p := p) (l := l) (e := e) (R := R) (s := s) (m := m) (args := args) (below := below) (meth := meth) (c := c) (H := H) (locs := locs) (cells := cells) (slots := slots) (g := F0 m pc ls st0) (As := As) (rest := st) (n := As.length) ⟨C.1, C.2.1, C.2.2.1, C.2.2.2.2.1, C.2.2.2.2.2.1⟩ (ct g X H.size) (va_cwS As.length C.2.2.2.2.2.1 (good_call3 w1 w2 w4 w5) rfl rfl rfl hd hR)
    ⟨WPre.blind, fun U hU hWU => ⟨rfl, by rw [hU], by rw [hU]; exact hW.sub (fun _ _ => trivial), va_K.moved hWU.alike C.2.2.2.2.2.2.2⟩⟩ rfl rfl hl.1 hst (lv_room h8) d ⟨hcs.1, hcs.2⟩ T9 hT X9
  obtain ⟨v, st₀, t, T', L, e0, X', hL, e1, e2, ⟨⟨hv, hW1, hK1⟩, hz, hkk⟩, go⟩ := hr
  cases hv
  rw [e0] at hz hkk
  have hsub := AF.sub hW hS.1
  obtain ⟨t2, a1, b1⟩ := kk T'.heap (locs ++ L) ls (by rw [e1]; exact hW1.sub hsub) ⟨Nat.le_trans hS.1 (by rw [e1]; exact hz), fun q h1 h2 => by rw [e1, hkk q (Nat.lt_of_lt_of_le h1 hS.1) (fun z => h2 (hsub q z))]; exact hS.2.1 q h1 h2, fun q hq9 => by
      rcases List.mem_append.mp hq9 with h9 | h9
      · exact hS.2.2 q h9
      · exact hsub _ (hL q h9)⟩ hl T' rfl X'
  exact ⟨t2, go t2 a1, b1⟩
theorem G.mmax (C : Cx p s m args meth c b n own ret g) {idx : Nat} {x y : Int32} (w1 : Cond.methodLink own idx Lib.Math.max.name ∈ wsL_law) (w2 : Cond.static Lib.Math.max.name ∈ wsL_law) (w4 : Cond.initialized "java/lang/Math" ∈ wsL_law) (w5 : Cond.code Lib.Math.max.name Lib.Math.max.code 2 (some .int) ∈ wsL_law) (hfr : 1 ≤ R.frames) (hlo : (st.map fun v => v.category).sum + 13 ≤ R.locals) (hcs : cells ≤ R.cells ∧ slots ≤ R.slots) (d : decode b pc = .ok (.invokestatic idx, 3)) (kk : G p l e R s m args below meth c n g X h0 cells slots (Q) (pc + 3) lv (.int (if x < y then y else x) :: st) h) : G p l e R s m args below meth c n g X h0 cells slots (Q) (pc) lv (.int y :: .int x :: st) h :=
  fun H locs ls hW hS hl => va_mmax C.1 C.2.1 (C.2.2.1.trans hl.1.symm) C.2.2.2.2.1 (C.2.2.2.2.2.1 _ w1) (C.2.2.2.2.2.1 _ w2) (C.2.2.2.2.2.1 _ w4) (C.2.2.2.2.2.1 _ w5) hfr hlo hcs.1 hcs.2 d (kk H locs ls hW hS hl)
theorem G.mmin (C : Cx p s m args meth c b n own ret g) {idx : Nat} {x y : Int32} (w1 : Cond.methodLink own idx Lib.Math.min.name ∈ wsL_law) (w2 : Cond.static Lib.Math.min.name ∈ wsL_law) (w4 : Cond.initialized "java/lang/Math" ∈ wsL_law) (w5 : Cond.code Lib.Math.min.name Lib.Math.min.code 2 (some .int) ∈ wsL_law) (hfr : 1 ≤ R.frames) (hlo : (st.map fun v => v.category).sum + 13 ≤ R.locals) (hcs : cells ≤ R.cells ∧ slots ≤ R.slots) (d : decode b pc = .ok (.invokestatic idx, 3)) (kk : G p l e R s m args below meth c n g X h0 cells slots (Q) (pc + 3) lv (.int (if y < x then y else x) :: st) h) : G p l e R s m args below meth c n g X h0 cells slots (Q) (pc) lv (.int y :: .int x :: st) h :=
  fun H locs ls hW hS hl => va_mmin C.1 C.2.1 (C.2.2.1.trans hl.1.symm) C.2.2.2.2.1 (C.2.2.2.2.2.1 _ w1) (C.2.2.2.2.2.1 _ w2) (C.2.2.2.2.2.1 _ w4) (C.2.2.2.2.2.1 _ w5) hfr hlo hcs.1 hcs.2 d (kk H locs ls hW hS hl)
theorem G.iret (C : Cx p s m args meth c b n own ret g) {v : Int32} (hret : ret = some .int) (d : decode b pc = .ok (.ireturn, 1)) : G p l e R s m args below meth c n g X h0 0 0 (MQ below (QW g X h0 s.heap.size (some (.int v)) h) args s 0 0 (AF X h0 s.heap.size)) (pc) lv ([.int v]) h := fun H locs ls hW hS hl => W.iret (v := v) C.1 C.2.1 (C.2.2.2.1.trans hret) (fun t ht hWm => ⟨⟨rfl, by rw [ht]; exact hW, va_K.moved hWm.alike C.2.2.2.2.2.2.2⟩, hS.F ht⟩) hS.2.2 d C.2.2.2.2.2.2.1
theorem G.zret (C : Cx p s m args meth c b n own ret g) {v : Int32} {ty : FieldType} (hret : ret = some ty) (hn : narrow ty (.int v) = .int v) (d : decode b pc = .ok (.ireturn, 1)) : G p l e R s m args below meth c n g X h0 0 0 (MQ below (QW g X h0 s.heap.size (some (.int v)) h) args s 0 0 (AF X h0 s.heap.size)) (pc) lv ([.int v]) h := fun H locs ls hW hS hl => W.zret (v := v) C.1 C.2.1 (C.2.2.2.1.trans hret) hn (fun t ht hWm => ⟨⟨rfl, by rw [ht]; exact hW, va_K.moved hWm.alike C.2.2.2.2.2.2.2⟩, hS.F ht⟩) hS.2.2 d C.2.2.2.2.2.2.1
theorem G.lret (C : Cx p s m args meth c b n own ret g) {v : Int64} (hret : ret = some .long) (d : decode b pc = .ok (.lreturn, 1)) : G p l e R s m args below meth c n g X h0 0 0 (MQ below (QW g X h0 s.heap.size (some (.long v)) h) args s 0 0 (AF X h0 s.heap.size)) (pc) lv ([.long v]) h := fun H locs ls hW hS hl => W.lret (v := v) C.1 C.2.1 (C.2.2.2.1.trans hret) (fun t ht hWm => ⟨⟨rfl, by rw [ht]; exact hW, va_K.moved hWm.alike C.2.2.2.2.2.2.2⟩, hS.F ht⟩) hS.2.2 d C.2.2.2.2.2.2.1
theorem G.dret (C : Cx p s m args meth c b n own ret g) {v : UInt64} (hret : ret = some .double) (d : decode b pc = .ok (.dreturn, 1)) : G p l e R s m args below meth c n g X h0 0 0 (MQ below (QW g X h0 s.heap.size (some (.double v)) h) args s 0 0 (AF X h0 s.heap.size)) (pc) lv ([.double v]) h := fun H locs ls hW hS hl => W.dret (v := v) C.1 C.2.1 (C.2.2.2.1.trans hret) (fun t ht hWm => ⟨⟨rfl, by rw [ht]; exact hW, va_K.moved hWm.alike C.2.2.2.2.2.2.2⟩, hS.F ht⟩) hS.2.2 d C.2.2.2.2.2.2.1
theorem G.vret (C : Cx p s m args meth c b n own ret g)  (hret : ret = none) (d : decode b pc = .ok (.return_, 1)) : G p l e R s m args below meth c n g X h0 0 0 (MQ below (QW g X h0 s.heap.size none h) args s 0 0 (AF X h0 s.heap.size)) (pc) lv ([]) h := fun H locs ls hW hS hl => W.vret C.1 C.2.1 (C.2.2.2.1.trans hret) (fun t ht hWm => ⟨⟨rfl, by rw [ht]; exact hW, va_K.moved hWm.alike C.2.2.2.2.2.2.2⟩, hS.F ht⟩) hS.2.2 d C.2.2.2.2.2.2.1
theorem G.aret (C : Cx p s m args meth c b n own ret g) {v : Option Nat} {rt : FieldType} (hret : ret = some rt) (hrt : (∃ n, rt = .object n) ∨ ∃ t, rt = .array t) (d : decode b pc = .ok (.areturn, 1)) : G p l e R s m args below meth c n g X h0 0 0 (MQ below (QW g X h0 s.heap.size (some (va_rf v)) h) args s 0 0 (AF X h0 s.heap.size)) (pc) lv ([va_rf v]) h := fun H locs ls hW hS hl => W.aret (v := va_rf v) C.1 C.2.1 (C.2.2.2.1.trans hret) hrt (va_rf_or9 v) (fun t ht hWm => ⟨⟨rfl, by rw [ht]; exact hW, va_K.moved hWm.alike C.2.2.2.2.2.2.2⟩, hS.F ht⟩) hS.2.2 d C.2.2.2.2.2.2.1
end GC9
end
section
/-! METHODS THAT THROW -/
def strs : List (String × Nat × String) := [("PennantRopes", 50, "the gap is out of range"), ("PennantRopes", 61, "the hue is laid on some rope"), ("PennantRopes", 103, "the hue cannot be laid"), ("PennantRopes", 112, "the hue is not laid there"), ("PennantRopes", 121, "two hues would take one place"), ("PennantRopes", 133, "the place is out of range"), ("PennantRopes", 149, "the ropes cannot be joined"), ("PennantRopes", 162, "the code is not 33 to 126"), ("PennantRopes", 168, "the buffer is full"), ("PennantRopes", 183, "the buffer is not complete ropes as a text"), ("PennantRopes", 195, "there is no saved state"), ("PennantRopes", 202, "there is no snapshot"), ("PennantRopes", 206, "there is no such place"), ("PennantRopes", 271, "there is no such rope"), ("PennantRopes", 273, "there is no such hue"), ("PennantRopes", 275, "the phase is out of range"), ("PennantRopes", 277, "the length is out of range"), ("PennantRopes", 279, "there is no such number"), ("PennantRopes", 281, "there are 4 ropes")]
abbrev eIA : String := "java/lang/IllegalArgumentException"
abbrev eIS : String := "java/lang/IllegalStateException"
abbrev eIO : String := "java/lang/IndexOutOfBoundsException"
def exns : List String := [eIA, eIS, eIO]
abbrev sup9 : List String := ["java/lang/RuntimeException", "java/lang/Exception"]
abbrev sup10 : List String := ["java/lang/RuntimeException", "java/lang/Exception", Bundle.tN]
/-- what a throw needs of the launch, of the tables and of the heap -/
def TX (l : Launch) (A : Nat → Prop) (U : State) (H : Heap) : Prop := l.stackTraces = false ∧ vx_Zq Bundle.tN "UNASSIGNED_STACK" Bundle.steD A U H ∧ vx_Zq Bundle.tN "SUPPRESSED_SENTINEL" Bundle.listD A U H ∧ (∀ q ∈ strs, ∃ sa, vk_R q.1 q.2.1 q.2.2 sa U) ∧ (∀ E ∈ exns, va_Nw (.castable E E) U) ∧ ∀ Y ∈ sup10, va_Nw (.declares (Bundle.initS Y)) U
theorem TX.warm {l : Launch} {A : Nat → Prop} {u U : State} {H : Heap} (hW : u.WarmedH U.vm) (h : TX l A u H) : TX l A U H :=
  ⟨h.1, vx_Zq.moved hW.alike h.2.1, vx_Zq.moved hW.alike h.2.2.1, fun q hq => by obtain ⟨sa, z⟩ := h.2.2.2.1 q hq; exact ⟨sa, vk_R.warm hW z⟩, fun E hE => va_Nw.warmC hW (h.2.2.2.2.1 E hE), fun Y hY => va_Nw.warmD hW (h.2.2.2.2.2 Y hY)⟩
theorem TX.kept {l : Launch} {A : Nat → Prop} {U : State} {H H1 : Heap} (h : TX l A U H) (hq : ∀ a : Nat, a < H.size → ¬ A a → H1[a]? = H[a]?) : TX l A U H1 :=
  ⟨h.1, h.2.1.kept hq, h.2.2.1.kept hq, h.2.2.2⟩
theorem TX.narrow {l : Launch} {A B : Nat → Prop} {U : State} {H : Heap} (h : TX l A U H) (hAB : ∀ q, B q → A q) : TX l B U H :=
  ⟨h.1, h.2.1.narrow hAB, h.2.2.1.narrow hAB, h.2.2.2⟩
def WPreX (l : Launch) (g : GC) (X : va_W) (h : PH) (sz : Nat) (U : State) : Prop := WPre g X h sz U ∧ TX l (AF X h sz) U U.heap
theorem WPreX.blind {l : Launch} {g : GC} {X : va_W} {h : PH} {sz : Nat} {av : List Value} : FrameBlind (va_Pc av (WPreX l g X h sz)) :=
  fun a U k mk q => ⟨q.1, (WPre.blind a U k mk ⟨q.1, q.2.1⟩).2, TX.warm (u := U) (U := U.calling k mk a) (State.WarmedH.refl U) q.2.2⟩
abbrev RX : Type := Except (String × PH) (Option Value × PH)
def cN (r : RX) : Nat := match r with
  | .ok _ => 0
  | .error _ => 1
def cS (r : RX) : Nat := match r with
  | .ok _ => 0
  | .error _ => 6
def QX (g : GC) (X : va_W) (h : PH) (sz : Nat) (r : RX) : Array Value → State → Outcome → State → Prop := fun a st oc t => ∃ (o : Option Value) (h' : PH), r = .ok (o, h') ∧ QW g X h sz o h' a st oc t
def XX (g : GC) (X : va_W) (h : PH) (sz : Nat) (r : RX) : String → State → State → Prop := fun E st t => ∃ hx, r = .error (E, hx) ∧ (WW g (AF X h sz) X hx t.heap ∧ va_K g.1 vwCl (wty g) t) ∧ va_F (AF X h sz) st t
def CX (l : Launch) (y : MethodName) (b : ByteArray) (n : Nat) (ret : Option FieldType) (fr lo : Nat) (av : List Value) (h : PH) (r : RX) : Prop :=
  ∀ (g : GC) (X : va_W) (sz : Nat), vx_Met l y (Cond.code y b n ret :: wsL_law) ({ frames := fr, cells := cN r, slots := cS r, locals := lo } : Room) (va_Pc av (WPreX l g X h sz)) (QX g X h sz r) (XX g X h sz r) (cN r) (cS r) (AF X h sz)
def xV (h : PH) (r : Except String Unit) : RX := match r with
  | .ok _ => .ok (none, h)
  | .error E => .error (E, h)
def xI (h : PH) (r : Except String Int32) : RX := match r with
  | .ok v => .ok (some (.int v), h)
  | .error E => .error (E, h)
def xA (h : PH) (r : Except String Nat) : RX := match r with
  | .ok v => .ok (some (va_rf (some v)), h)
  | .error E => .error (E, h)
def xIW (r : Except (String × PH) (Int32 × PH)) : RX := match r with
  | .ok v => .ok (some (.int v.1), v.2)
  | .error E => .error E
theorem CX.of {l : Launch} {y : MethodName} {b : ByteArray} {n : Nat} {ret : Option FieldType} {fr lo : Nat} {av : List Value} {h : PH} {r : RX} {own : String} (hown : own = y.cls) (hy : plainName y.cls = true) (hlen : (lg_sl av).length ≤ n)
    (body : ∀ (p : Program) (e : Env) (R : Room) (s : State) (m : MethodId) (args : Array Value) (below : List Frame) (meth : Method) (c : Code) (g : GC) (X : va_W), R = ({ frames := fr, cells := cN r, slots := cS r, locals := lo } : Room) → Cx p s m args meth c b n own ret g → TX l (AF X h s.heap.size) s s.heap → (∀ x ∈ c.exceptionTable.toList, False) →
      G p l e R s m args below meth c n g X h 0 0 (vx_MQ below (QX g X h s.heap.size r) (XX g X h s.heap.size r) args s (cN r) (cS r) (AF X h s.heap.size)) 0 (lv_args 0 av) [] h) : CX l y b n ret fr lo av h r := by
  intro g X sz
  refine vx_ofW (cc := b) (maxL := n) (ret := ret) hy rfl ?_
  intro p e s m args below meth c s₁ B hml htab hv
  obtain ⟨rfl, ⟨hsz, hW, hK⟩, hT⟩ := hv
  have hts := atoms_spec (ws := Cond.code y b n ret :: wsL_law) B.pre
  subst hsz
  have hl := lv_entry av (n := n) hlen
  rw [lg_entry_eq]
  exact body p e _ s m av.toArray below meth c g X rfl ⟨B.exec, B.bytes, hml, B.returns, by rw [hown]; exact findClass_of_methodNamed B.named, fun w hw => hts w (List.mem_cons_of_mem _ hw), B.notSynchronized, hK⟩ hT htab s.heap [] _ (hW.self _) va_S.rf hl
theorem WW.kept {g : GC} {A : Nat → Prop} {X : va_W} {h : PH} {H H1 : Heap} (hW : WW g A X h H) (hq : ∀ q : Nat, q < H.size → H1[q]? = H[q]?) : WW g A X h H1 := by
  obtain ⟨L, f, h1, hP, hD⟩ := hW
  exact ⟨L, f, h1, hP.kept (fun k q hk => hq q.1 (hP k q hk).lt), hD⟩

theorem at_IA_in : ∀ w ∈ (vx_atS RX5 52 eIA sup9).filter goodWord, w ∈ wsL_law := fun w h => List.mem_append_left _ (List.mem_append_left _ (List.mem_append_right _ h))
theorem at_IA_bad : ∀ w ∈ (vx_atS RX5 52 eIA sup9).filter (fun w => !goodWord w), w ∈ [Cond.castable eIA eIA, Cond.declares (Bundle.initS "java/lang/RuntimeException"), Cond.declares (Bundle.initS "java/lang/Exception"), Cond.declares (Bundle.initS Bundle.tN)] := by decide +kernel
theorem at_IA_good : ∀ w ∈ vx_atS RX5 52 eIA sup9, vx_ot w = true := List.all_eq_true.mp (by decide +kernel)
theorem at_IA {args : Array Value} {s : State} (h1 : ∀ w ∈ wsL_law, w.before args s = true) (h2 : va_Nw (.castable eIA eIA) s) (h3 : ∀ Y ∈ sup10, va_Nw (.declares (Bundle.initS Y)) s) : ∀ w ∈ vx_atS RX5 52 eIA sup9, w.before args s = true :=
  vx_hat (fun w hw => h1 w (at_IA_in w hw)) at_IA_bad (vx_c (va_Nw.use rfl h2) (vx_c (va_Nw.use rfl (h3 _ (by decide +kernel))) (vx_c (va_Nw.use rfl (h3 _ (by decide +kernel))) (vx_c (va_Nw.use rfl (h3 _ (by decide +kernel))) vx_n))))
theorem at_IS_in : ∀ w ∈ (vx_atS RX5 63 eIS sup9).filter goodWord, w ∈ wsL_law := fun w h => List.mem_append_left _ (List.mem_append_right _ h)
theorem at_IS_bad : ∀ w ∈ (vx_atS RX5 63 eIS sup9).filter (fun w => !goodWord w), w ∈ [Cond.castable eIS eIS, Cond.declares (Bundle.initS "java/lang/RuntimeException"), Cond.declares (Bundle.initS "java/lang/Exception"), Cond.declares (Bundle.initS Bundle.tN)] := by decide +kernel
theorem at_IS_good : ∀ w ∈ vx_atS RX5 63 eIS sup9, vx_ot w = true := List.all_eq_true.mp (by decide +kernel)
theorem at_IS {args : Array Value} {s : State} (h1 : ∀ w ∈ wsL_law, w.before args s = true) (h2 : va_Nw (.castable eIS eIS) s) (h3 : ∀ Y ∈ sup10, va_Nw (.declares (Bundle.initS Y)) s) : ∀ w ∈ vx_atS RX5 63 eIS sup9, w.before args s = true :=
  vx_hat (fun w hw => h1 w (at_IS_in w hw)) at_IS_bad (vx_c (va_Nw.use rfl h2) (vx_c (va_Nw.use rfl (h3 _ (by decide +kernel))) (vx_c (va_Nw.use rfl (h3 _ (by decide +kernel))) (vx_c (va_Nw.use rfl (h3 _ (by decide +kernel))) vx_n))))
theorem at_IO_in : ∀ w ∈ (vx_atS RX5 208 eIO sup9).filter goodWord, w ∈ wsL_law := fun w h => List.mem_append_right _ h
theorem at_IO_bad : ∀ w ∈ (vx_atS RX5 208 eIO sup9).filter (fun w => !goodWord w), w ∈ [Cond.castable eIO eIO, Cond.declares (Bundle.initS "java/lang/RuntimeException"), Cond.declares (Bundle.initS "java/lang/Exception"), Cond.declares (Bundle.initS Bundle.tN)] := by decide +kernel
theorem at_IO_good : ∀ w ∈ vx_atS RX5 208 eIO sup9, vx_ot w = true := List.all_eq_true.mp (by decide +kernel)
theorem at_IO {args : Array Value} {s : State} (h1 : ∀ w ∈ wsL_law, w.before args s = true) (h2 : va_Nw (.castable eIO eIO) s) (h3 : ∀ Y ∈ sup10, va_Nw (.declares (Bundle.initS Y)) s) : ∀ w ∈ vx_atS RX5 208 eIO sup9, w.before args s = true :=
  vx_hat (fun w hw => h1 w (at_IO_in w hw)) at_IO_bad (vx_c (va_Nw.use rfl h2) (vx_c (va_Nw.use rfl (h3 _ (by decide +kernel))) (vx_c (va_Nw.use rfl (h3 _ (by decide +kernel))) (vx_c (va_Nw.use rfl (h3 _ (by decide +kernel))) vx_n))))
section GX9
variable {p : Program} {l : Launch} {e : Env} {R : Room} {s : State} {m : MethodId} {args : Array Value} {below : List Frame} {meth : Method} {c : Code} {n : Nat} {g : GC} {X : va_W} {h0 h : PH} {pc : Nat} {lv : List (Nat × Value)} {st : List Value} {b : ByteArray} {own : String} {ret : Option FieldType} {r : RX}
theorem G.retX {o : Option Value} {h1 : PH} (hr : r = .ok (o, h1)) (k : G p l e R s m args below meth c n g X h0 0 0 (MQ below (QW g X h0 s.heap.size o h1) args s 0 0 (AF X h0 s.heap.size)) (pc) lv (st) h) : G p l e R s m args below meth c n g X h0 0 0 (vx_MQ below (QX g X h0 s.heap.size r) (XX g X h0 s.heap.size r) args s (cN r) (cS r) (AF X h0 s.heap.size)) (pc) lv (st) h := by
  subst hr
  intro H locs ls hW hS hl T hT X9
  obtain ⟨t, a1, o9, b1, b2, b3, b4⟩ := k H locs ls hW hS hl T hT X9
  exact ⟨t, a1, o9, b1, b2, Or.inl ⟨⟨o, h1, rfl, b3⟩, b4⟩⟩
theorem G.throwIA (C : Cx p s m args meth c b n RX5 ret g) (TT : TX l (AF X h0 s.heap.size) s s.heap) (tab : ∀ x ∈ c.exceptionTable.toList, False) {ik is : Nat} {text : String} (hr : r = .error (eIA, h)) (w1 : Cond.classLink RX5 ik eIA ∈ wsL_law) (w2 : Cond.initialized eIA ∈ wsL_law) (hs : (RX5, is, text) ∈ strs)
    (d0 : decode b pc = .ok (.new ik, 3)) (d3 : decode b (pc + 3) = .ok (.dup, 1)) (d4 : decode b (pc + 4) = .ok (.ldc is, 2)) (d6 : decode b (pc + 6) = .ok (.invokespecial 52, 3)) (d9 : decode b (pc + 9) = .ok (.athrow, 1))
    (hfr : 5 < R.frames) (hlo : (st.map fun v => v.category).sum + 82 ≤ R.locals) (hRc : R.cells = cN r ∧ R.slots = cS r) : G p l e R s m args below meth c n g X h0 0 0 (vx_MQ below (QX g X h0 s.heap.size r) (XX g X h0 s.heap.size r) args s (cN r) (cS r) (AF X h0 s.heap.size)) (pc) lv (st) h := by
  subst hr
  intro H locs ls hW hS hl
  obtain ⟨hl9, hU, hN, hstr, hcast, hdecl⟩ := TT
  obtain ⟨sa, hsa⟩ := hstr _ hs
  refine vx_throwS (names := sup9) (A := AF X h0 s.heap.size) C.1 C.2.1 hl9 C.2.2.2.2.1 (by decide +kernel) (by decide +kernel) (C.2.2.2.2.2.1 _ w1) (C.2.2.2.2.2.1 _ w2) hsa (at_IA C.2.2.2.2.2.1 (hcast _ (by decide +kernel)) hdecl) (fun w hw => ?_) hU hN hS (hl.1.trans C.2.2.1.symm) d0 d3 d4 d6 d9 (fun x hx => (tab x hx).elim) hfr hlo (by rw [hRc.1]; exact Nat.le_refl 1) (by rw [hRc.2]; exact Nat.le_refl 6) C.2.2.2.2.2.2.1 (fun t hvm hz hk => ?_) hS.2.2 (Nat.le_refl 1) (Nat.le_refl 6)
  · rcases List.mem_cons.mp hw with rfl | hw
    · rfl
    · rcases List.mem_cons.mp hw with rfl | hw
      · rfl
      · exact at_IA_good w hw
  · exact ⟨h, rfl, ⟨hW.kept hk, va_K.moved hvm C.2.2.2.2.2.2.2⟩, Nat.le_trans hS.1 hz, fun q h1 h2 => (hk q (Nat.lt_of_lt_of_le h1 hS.1)).trans (hS.2.1 q h1 h2)⟩
theorem G.throwIAw (C : Cx p s m args meth c b n RX5 ret g) (TT : TX l (AF X h0 s.heap.size) s s.heap) (tab : ∀ x ∈ c.exceptionTable.toList, False) {ik is : Nat} {text : String} (hr : r = .error (eIA, h)) (w1 : Cond.classLink RX5 ik eIA ∈ wsL_law) (w2 : Cond.initialized eIA ∈ wsL_law) (hs : (RX5, is, text) ∈ strs)
    (d0 : decode b pc = .ok (.new ik, 3)) (d3 : decode b (pc + 3) = .ok (.dup, 1)) (d4 : decode b (pc + 4) = .ok (.ldc_w is, 3)) (d6 : decode b (pc + 7) = .ok (.invokespecial 52, 3)) (d9 : decode b (pc + 10) = .ok (.athrow, 1))
    (hfr : 5 < R.frames) (hlo : (st.map fun v => v.category).sum + 82 ≤ R.locals) (hRc : R.cells = cN r ∧ R.slots = cS r) : G p l e R s m args below meth c n g X h0 0 0 (vx_MQ below (QX g X h0 s.heap.size r) (XX g X h0 s.heap.size r) args s (cN r) (cS r) (AF X h0 s.heap.size)) (pc) lv (st) h := by
  subst hr
  intro H locs ls hW hS hl
  obtain ⟨hl9, hU, hN, hstr, hcast, hdecl⟩ := TT
  obtain ⟨sa, hsa⟩ := hstr _ hs
  refine vx_throwSW (names := sup9) (A := AF X h0 s.heap.size) C.1 C.2.1 hl9 C.2.2.2.2.1 (by decide +kernel) (by decide +kernel) (C.2.2.2.2.2.1 _ w1) (C.2.2.2.2.2.1 _ w2) hsa (at_IA C.2.2.2.2.2.1 (hcast _ (by decide +kernel)) hdecl) (fun w hw => ?_) hU hN hS (hl.1.trans C.2.2.1.symm) d0 d3 d4 d6 d9 (fun x hx => (tab x hx).elim) hfr hlo (by rw [hRc.1]; exact Nat.le_refl 1) (by rw [hRc.2]; exact Nat.le_refl 6) C.2.2.2.2.2.2.1 (fun t hvm hz hk => ?_) hS.2.2 (Nat.le_refl 1) (Nat.le_refl 6)
  · rcases List.mem_cons.mp hw with rfl | hw
    · rfl
    · rcases List.mem_cons.mp hw with rfl | hw
      · rfl
      · exact at_IA_good w hw
  · exact ⟨h, rfl, ⟨hW.kept hk, va_K.moved hvm C.2.2.2.2.2.2.2⟩, Nat.le_trans hS.1 hz, fun q h1 h2 => (hk q (Nat.lt_of_lt_of_le h1 hS.1)).trans (hS.2.1 q h1 h2)⟩
theorem G.throwIS (C : Cx p s m args meth c b n RX5 ret g) (TT : TX l (AF X h0 s.heap.size) s s.heap) (tab : ∀ x ∈ c.exceptionTable.toList, False) {ik is : Nat} {text : String} (hr : r = .error (eIS, h)) (w1 : Cond.classLink RX5 ik eIS ∈ wsL_law) (w2 : Cond.initialized eIS ∈ wsL_law) (hs : (RX5, is, text) ∈ strs)
    (d0 : decode b pc = .ok (.new ik, 3)) (d3 : decode b (pc + 3) = .ok (.dup, 1)) (d4 : decode b (pc + 4) = .ok (.ldc is, 2)) (d6 : decode b (pc + 6) = .ok (.invokespecial 63, 3)) (d9 : decode b (pc + 9) = .ok (.athrow, 1))
    (hfr : 5 < R.frames) (hlo : (st.map fun v => v.category).sum + 82 ≤ R.locals) (hRc : R.cells = cN r ∧ R.slots = cS r) : G p l e R s m args below meth c n g X h0 0 0 (vx_MQ below (QX g X h0 s.heap.size r) (XX g X h0 s.heap.size r) args s (cN r) (cS r) (AF X h0 s.heap.size)) (pc) lv (st) h := by
  subst hr
  intro H locs ls hW hS hl
  obtain ⟨hl9, hU, hN, hstr, hcast, hdecl⟩ := TT
  obtain ⟨sa, hsa⟩ := hstr _ hs
  refine vx_throwS (names := sup9) (A := AF X h0 s.heap.size) C.1 C.2.1 hl9 C.2.2.2.2.1 (by decide +kernel) (by decide +kernel) (C.2.2.2.2.2.1 _ w1) (C.2.2.2.2.2.1 _ w2) hsa (at_IS C.2.2.2.2.2.1 (hcast _ (by decide +kernel)) hdecl) (fun w hw => ?_) hU hN hS (hl.1.trans C.2.2.1.symm) d0 d3 d4 d6 d9 (fun x hx => (tab x hx).elim) hfr hlo (by rw [hRc.1]; exact Nat.le_refl 1) (by rw [hRc.2]; exact Nat.le_refl 6) C.2.2.2.2.2.2.1 (fun t hvm hz hk => ?_) hS.2.2 (Nat.le_refl 1) (Nat.le_refl 6)
  · rcases List.mem_cons.mp hw with rfl | hw
    · rfl
    · rcases List.mem_cons.mp hw with rfl | hw
      · rfl
      · exact at_IS_good w hw
  · exact ⟨h, rfl, ⟨hW.kept hk, va_K.moved hvm C.2.2.2.2.2.2.2⟩, Nat.le_trans hS.1 hz, fun q h1 h2 => (hk q (Nat.lt_of_lt_of_le h1 hS.1)).trans (hS.2.1 q h1 h2)⟩
theorem G.throwISw (C : Cx p s m args meth c b n RX5 ret g) (TT : TX l (AF X h0 s.heap.size) s s.heap) (tab : ∀ x ∈ c.exceptionTable.toList, False) {ik is : Nat} {text : String} (hr : r = .error (eIS, h)) (w1 : Cond.classLink RX5 ik eIS ∈ wsL_law) (w2 : Cond.initialized eIS ∈ wsL_law) (hs : (RX5, is, text) ∈ strs)
    (d0 : decode b pc = .ok (.new ik, 3)) (d3 : decode b (pc + 3) = .ok (.dup, 1)) (d4 : decode b (pc + 4) = .ok (.ldc_w is, 3)) (d6 : decode b (pc + 7) = .ok (.invokespecial 63, 3)) (d9 : decode b (pc + 10) = .ok (.athrow, 1))
    (hfr : 5 < R.frames) (hlo : (st.map fun v => v.category).sum + 82 ≤ R.locals) (hRc : R.cells = cN r ∧ R.slots = cS r) : G p l e R s m args below meth c n g X h0 0 0 (vx_MQ below (QX g X h0 s.heap.size r) (XX g X h0 s.heap.size r) args s (cN r) (cS r) (AF X h0 s.heap.size)) (pc) lv (st) h := by
  subst hr
  intro H locs ls hW hS hl
  obtain ⟨hl9, hU, hN, hstr, hcast, hdecl⟩ := TT
  obtain ⟨sa, hsa⟩ := hstr _ hs
  refine vx_throwSW (names := sup9) (A := AF X h0 s.heap.size) C.1 C.2.1 hl9 C.2.2.2.2.1 (by decide +kernel) (by decide +kernel) (C.2.2.2.2.2.1 _ w1) (C.2.2.2.2.2.1 _ w2) hsa (at_IS C.2.2.2.2.2.1 (hcast _ (by decide +kernel)) hdecl) (fun w hw => ?_) hU hN hS (hl.1.trans C.2.2.1.symm) d0 d3 d4 d6 d9 (fun x hx => (tab x hx).elim) hfr hlo (by rw [hRc.1]; exact Nat.le_refl 1) (by rw [hRc.2]; exact Nat.le_refl 6) C.2.2.2.2.2.2.1 (fun t hvm hz hk => ?_) hS.2.2 (Nat.le_refl 1) (Nat.le_refl 6)
  · rcases List.mem_cons.mp hw with rfl | hw
    · rfl
    · rcases List.mem_cons.mp hw with rfl | hw
      · rfl
      · exact at_IS_good w hw
  · exact ⟨h, rfl, ⟨hW.kept hk, va_K.moved hvm C.2.2.2.2.2.2.2⟩, Nat.le_trans hS.1 hz, fun q h1 h2 => (hk q (Nat.lt_of_lt_of_le h1 hS.1)).trans (hS.2.1 q h1 h2)⟩
theorem G.throwIO (C : Cx p s m args meth c b n RX5 ret g) (TT : TX l (AF X h0 s.heap.size) s s.heap) (tab : ∀ x ∈ c.exceptionTable.toList, False) {ik is : Nat} {text : String} (hr : r = .error (eIO, h)) (w1 : Cond.classLink RX5 ik eIO ∈ wsL_law) (w2 : Cond.initialized eIO ∈ wsL_law) (hs : (RX5, is, text) ∈ strs)
    (d0 : decode b pc = .ok (.new ik, 3)) (d3 : decode b (pc + 3) = .ok (.dup, 1)) (d4 : decode b (pc + 4) = .ok (.ldc is, 2)) (d6 : decode b (pc + 6) = .ok (.invokespecial 208, 3)) (d9 : decode b (pc + 9) = .ok (.athrow, 1))
    (hfr : 5 < R.frames) (hlo : (st.map fun v => v.category).sum + 82 ≤ R.locals) (hRc : R.cells = cN r ∧ R.slots = cS r) : G p l e R s m args below meth c n g X h0 0 0 (vx_MQ below (QX g X h0 s.heap.size r) (XX g X h0 s.heap.size r) args s (cN r) (cS r) (AF X h0 s.heap.size)) (pc) lv (st) h := by
  subst hr
  intro H locs ls hW hS hl
  obtain ⟨hl9, hU, hN, hstr, hcast, hdecl⟩ := TT
  obtain ⟨sa, hsa⟩ := hstr _ hs
  refine vx_throwS (names := sup9) (A := AF X h0 s.heap.size) C.1 C.2.1 hl9 C.2.2.2.2.1 (by decide +kernel) (by decide +kernel) (C.2.2.2.2.2.1 _ w1) (C.2.2.2.2.2.1 _ w2) hsa (at_IO C.2.2.2.2.2.1 (hcast _ (by decide +kernel)) hdecl) (fun w hw => ?_) hU hN hS (hl.1.trans C.2.2.1.symm) d0 d3 d4 d6 d9 (fun x hx => (tab x hx).elim) hfr hlo (by rw [hRc.1]; exact Nat.le_refl 1) (by rw [hRc.2]; exact Nat.le_refl 6) C.2.2.2.2.2.2.1 (fun t hvm hz hk => ?_) hS.2.2 (Nat.le_refl 1) (Nat.le_refl 6)
  · rcases List.mem_cons.mp hw with rfl | hw
    · rfl
    · rcases List.mem_cons.mp hw with rfl | hw
      · rfl
      · exact at_IO_good w hw
  · exact ⟨h, rfl, ⟨hW.kept hk, va_K.moved hvm C.2.2.2.2.2.2.2⟩, Nat.le_trans hS.1 hz, fun q h1 h2 => (hk q (Nat.lt_of_lt_of_le h1 hS.1)).trans (hS.2.1 q h1 h2)⟩
theorem G.throwIOw (C : Cx p s m args meth c b n RX5 ret g) (TT : TX l (AF X h0 s.heap.size) s s.heap) (tab : ∀ x ∈ c.exceptionTable.toList, False) {ik is : Nat} {text : String} (hr : r = .error (eIO, h)) (w1 : Cond.classLink RX5 ik eIO ∈ wsL_law) (w2 : Cond.initialized eIO ∈ wsL_law) (hs : (RX5, is, text) ∈ strs)
    (d0 : decode b pc = .ok (.new ik, 3)) (d3 : decode b (pc + 3) = .ok (.dup, 1)) (d4 : decode b (pc + 4) = .ok (.ldc_w is, 3)) (d6 : decode b (pc + 7) = .ok (.invokespecial 208, 3)) (d9 : decode b (pc + 10) = .ok (.athrow, 1))
    (hfr : 5 < R.frames) (hlo : (st.map fun v => v.category).sum + 82 ≤ R.locals) (hRc : R.cells = cN r ∧ R.slots = cS r) : G p l e R s m args below meth c n g X h0 0 0 (vx_MQ below (QX g X h0 s.heap.size r) (XX g X h0 s.heap.size r) args s (cN r) (cS r) (AF X h0 s.heap.size)) (pc) lv (st) h := by
  subst hr
  intro H locs ls hW hS hl
  obtain ⟨hl9, hU, hN, hstr, hcast, hdecl⟩ := TT
  obtain ⟨sa, hsa⟩ := hstr _ hs
  refine vx_throwSW (names := sup9) (A := AF X h0 s.heap.size) C.1 C.2.1 hl9 C.2.2.2.2.1 (by decide +kernel) (by decide +kernel) (C.2.2.2.2.2.1 _ w1) (C.2.2.2.2.2.1 _ w2) hsa (at_IO C.2.2.2.2.2.1 (hcast _ (by decide +kernel)) hdecl) (fun w hw => ?_) hU hN hS (hl.1.trans C.2.2.1.symm) d0 d3 d4 d6 d9 (fun x hx => (tab x hx).elim) hfr hlo (by rw [hRc.1]; exact Nat.le_refl 1) (by rw [hRc.2]; exact Nat.le_refl 6) C.2.2.2.2.2.2.1 (fun t hvm hz hk => ?_) hS.2.2 (Nat.le_refl 1) (Nat.le_refl 6)
  · rcases List.mem_cons.mp hw with rfl | hw
    · rfl
    · rcases List.mem_cons.mp hw with rfl | hw
      · rfl
      · exact at_IO_good w hw
  · exact ⟨h, rfl, ⟨hW.kept hk, va_K.moved hvm C.2.2.2.2.2.2.2⟩, Nat.le_trans hS.1 hz, fun q h1 h2 => (hk q (Nat.lt_of_lt_of_le h1 hS.1)).trans (hS.2.1 q h1 h2)⟩
theorem G.callXo {Q : State → Prop} (C : Cx p s m args meth c b n own ret g) (TT : TX l (AF X h0 s.heap.size) s s.heap) {y : MethodName} {b' : ByteArray} {n' : Nat} {ret' : Option FieldType} {fr lo : Nat} {a ci : Nat} {As st0 st2 : List Value} {CN : String} {T : u_T} {N idx : Nat} {r1 : RX} {o : Option Value} {h' : PH} (cx : CX l y b' n' ret' fr lo (.ref a :: As) h r1) (hr1 : r1 = .ok (o, h')) (hk : kO h a ci) (hc : vwCl[ci]? = some (CN, T, N))
    (w1 : Cond.methodLink own idx y ∈ wsL_law) (w2 : Cond.instanceMethod y ∈ wsL_law) (w3 : Cond.selects CN y y ∈ wsL_law) (w4 : Cond.initialized CN ∈ wsL_law) (w5 : Cond.code y b' n' ret' ∈ wsL_law)
    (hd : y.cls = CN ∧ y.cls ≠ "java/lang/invoke/MethodHandle" ∧ y.cls ≠ "java/lang/invoke/VarHandle" ∧ (parseMethodDescriptor y.desc).map (fun d => d.parameters.length) = some As.length) (hR : fr + 1 ≤ R.frames ∧ 8 + (n' + 11) + lo ≤ R.locals)
    (h8 : (st.map fun v => v.category).sum ≤ 8) (hst : st0 = As.reverse ++ .ref a :: st) (hst2 : o.toList ++ st = st2) (d : decode b pc = .ok (.invokevirtual idx, 3)) (kk : G p l e R s m args below meth c n g X h0 0 0 (Q) (pc + 3) lv (st2) h') : G p l e R s m args below meth c n g X h0 0 0 (Q) (pc) lv (st0) h := by
  subst hst2
  subst hr1
  have hcs : 0 + 0 ≤ R.cells ∧ 0 + 0 ≤ R.slots := ⟨Nat.zero_le _, Nat.zero_le _⟩
  intro H locs ls hW hS hl T9 hT X9
  obtain ⟨fs, hfs⟩ := hk
  obtain ⟨ws, q0, hP, hD, hq, -⟩ := hW.at hfs
  have hsub := AF.sub hW hS.1
  have hr9 := vx_runV (p := p) (l := l) (e := e) (R := R) (s := s) (m := m) (args := args) (below := below) (meth := meth) (c := c) (H := H) (locs := locs) (cells := 0) (slots := 0) (g := F0 m pc ls st0) (As := As) (rest := st) (b := a) (C := CN) (n := As.length) ⟨C.1, C.2.1, C.2.2.1, C.2.2.2.2.1, C.2.2.2.2.2.1⟩ (cx g X H.size) (cwV As.length C.2.2.2.2.2.1 (good_call (ws := []) w1 w2 w3 w4 w5) rfl rfl rfl hd hR)
    ⟨WPreX.blind, va_recv C.2.2.2.2.2.2.2 hP hc hq, fun U hU hWU => ⟨rfl, ⟨by rw [hU], by rw [hU]; exact hW.sub (fun _ _ => trivial), va_K.moved hWU.alike C.2.2.2.2.2.2.2⟩, by rw [hU]; exact TX.warm hWU ((TT.kept hS.2.1).narrow hsub)⟩⟩ rfl rfl hl.1 hst (lv_room h8) d hcs T9 hT X9
  rcases hr9 with ⟨v, st₀, t, T', L, e0, X', hL, e1, e2, ⟨o1, h1, hr1, ⟨hv, hW1, hK1⟩, hz, hkk⟩, go⟩ | ⟨q9, st₀, t, T', L, E9, ce, e0, X', hL, e1, e2, ⟨hx1, hr1, ⟨hW1, hK1⟩, hz, hkk⟩, hce, hcv, hcl, go⟩
  · cases hr1
    cases hv
    rw [e0] at hz hkk
    obtain ⟨t2, a1, b1⟩ := kk T'.heap (locs ++ L) ls (by rw [e1]; exact hW1.sub hsub) ⟨Nat.le_trans hS.1 (by rw [e1]; exact hz), fun q h1 h2 => by rw [e1, hkk q (Nat.lt_of_lt_of_le h1 hS.1) (fun z => h2 (hsub q z))]; exact hS.2.1 q h1 h2, fun q hq9 => by
        rcases List.mem_append.mp hq9 with h9 | h9
        · exact hS.2.2 q h9
        · exact hsub _ (hL q h9)⟩ hl T' rfl X'
    exact ⟨t2, go t2 a1, b1⟩
  · cases hr1
theorem G.callXe (C : Cx p s m args meth c b n own ret g) (TT : TX l (AF X h0 s.heap.size) s s.heap) (tab : ∀ x ∈ c.exceptionTable.toList, False) {y : MethodName} {b' : ByteArray} {n' : Nat} {ret' : Option FieldType} {fr lo : Nat} {a ci : Nat} {As st0 : List Value} {CN : String} {T : u_T} {N idx : Nat} {r1 : RX} {E : String} {hx : PH} (cx : CX l y b' n' ret' fr lo (.ref a :: As) h r1) (hr1 : r1 = .error (E, hx)) (hr : r = .error (E, hx)) (hRc : R.cells = cN r ∧ R.slots = cS r) (hk : kO h a ci) (hc : vwCl[ci]? = some (CN, T, N))
    (w1 : Cond.methodLink own idx y ∈ wsL_law) (w2 : Cond.instanceMethod y ∈ wsL_law) (w3 : Cond.selects CN y y ∈ wsL_law) (w4 : Cond.initialized CN ∈ wsL_law) (w5 : Cond.code y b' n' ret' ∈ wsL_law)
    (hd : y.cls = CN ∧ y.cls ≠ "java/lang/invoke/MethodHandle" ∧ y.cls ≠ "java/lang/invoke/VarHandle" ∧ (parseMethodDescriptor y.desc).map (fun d => d.parameters.length) = some As.length) (hR : fr + 1 ≤ R.frames ∧ 8 + (n' + 11) + lo ≤ R.locals)
    (h8 : (st.map fun v => v.category).sum ≤ 8) (hst : st0 = As.reverse ++ .ref a :: st) (d : decode b pc = .ok (.invokevirtual idx, 3)) : G p l e R s m args below meth c n g X h0 0 0 (vx_MQ below (QX g X h0 s.heap.size r) (XX g X h0 s.heap.size r) args s (cN r) (cS r) (AF X h0 s.heap.size)) (pc) lv (st0) h := by
  subst hr1
  subst hr
  have hcs : 0 + 1 ≤ R.cells ∧ 0 + 6 ≤ R.slots := ⟨by rw [hRc.1]; exact Nat.le_refl 1, by rw [hRc.2]; exact Nat.le_refl 6⟩
  intro H locs ls hW hS hl T9 hT X9
  obtain ⟨fs, hfs⟩ := hk
  obtain ⟨ws, q0, hP, hD, hq, -⟩ := hW.at hfs
  have hsub := AF.sub hW hS.1
  have hr9 := vx_runV (p := p) (l := l) (e := e) (R := R) (s := s) (m := m) (args := args) (below := below) (meth := meth) (c := c) (H := H) (locs := locs) (cells := 0) (slots := 0) (g := F0 m pc ls st0) (As := As) (rest := st) (b := a) (C := CN) (n := As.length) ⟨C.1, C.2.1, C.2.2.1, C.2.2.2.2.1, C.2.2.2.2.2.1⟩ (cx g X H.size) (cwV As.length C.2.2.2.2.2.1 (good_call (ws := []) w1 w2 w3 w4 w5) rfl rfl rfl hd hR)
    ⟨WPreX.blind, va_recv C.2.2.2.2.2.2.2 hP hc hq, fun U hU hWU => ⟨rfl, ⟨by rw [hU], by rw [hU]; exact hW.sub (fun _ _ => trivial), va_K.moved hWU.alike C.2.2.2.2.2.2.2⟩, by rw [hU]; exact TX.warm hWU ((TT.kept hS.2.1).narrow hsub)⟩⟩ rfl rfl hl.1 hst (lv_room h8) d hcs T9 hT X9
  rcases hr9 with ⟨v, st₀, t, T', L, e0, X', hL, e1, e2, ⟨o1, h1, hr1, ⟨hv, hW1, hK1⟩, hz, hkk⟩, go⟩ | ⟨q9, st₀, t, T', L, E9, ce, e0, X', hL, e1, e2, ⟨hx1, hr1, ⟨hW1, hK1⟩, hz, hkk⟩, hce, hcv, hcl, go⟩
  · cases hr1
  · cases hr1
    rw [e0] at hz hkk
    have s1 : va_S (AF X h0 s.heap.size) s.heap T'.heap (locs ++ L) := ⟨Nat.le_trans hS.1 (by rw [e1]; exact hz), fun q h1 h2 => by rw [e1, hkk q (Nat.lt_of_lt_of_le h1 hS.1) (fun z => h2 (hsub q z))]; exact hS.2.1 q h1 h2, fun q hq9 => by
        rcases List.mem_append.mp hq9 with h9 | h9
        · exact hS.2.2 q h9
        · exact hsub _ (hL q h9)⟩
    have hWn : WW g (AF X h0 s.heap.size) X hx T'.heap := by rw [e1]; exact hW1.sub hsub
    obtain ⟨t2, a1, b1⟩ := vx_out (p := p) (l := l) (e := e) (R := R) (s := s) (m := m) (args := args) (below := below) (meth := meth) (c := c) (H := T'.heap) (locs := locs ++ L) (cells := 0 + 1) (slots := 0 + 6) (free := AF X h0 s.heap.size) (ls := ls) (rest := st) (Qc := QX g X h0 s.heap.size (.error (E, hx))) (XC := XX g X h0 s.heap.size (.error (E, hx))) (pc := pc) (q := q9) (mc := 1) (ms := 6) (fun x hx => (tab x hx).elim) C.2.2.2.2.2.2.1 (by rw [e1]; exact hce) hcv hcl
      (fun t9 ht9 hv9 => ⟨hx, rfl, ⟨by rw [ht9]; exact hWn, va_K.moved hv9 C.2.2.2.2.2.2.2⟩, by have := s1.F (s := s) ht9; exact this⟩) s1.2.2 (Nat.le_refl _) (Nat.le_refl _) T' rfl X'
    exact ⟨t2, go.trans a1, b1⟩
end GX9
end
section
theorem wc_1 : ∀ w ∈ wsL_law0_r1, w ∈ wsL_law := fun _ h => List.mem_append_left _ (List.mem_append_left _ (List.mem_append_left _ (List.mem_append_left _ (List.mem_append_left _ (List.mem_append_left _ (List.mem_append_left _ (List.mem_append_left _ (List.mem_append_left _ (List.mem_append_left _ (List.mem_append_left _ h))))))))))
theorem wc_2 : ∀ w ∈ wsL_law0_r2, w ∈ wsL_law := fun _ h => List.mem_append_left _ (List.mem_append_left _ (List.mem_append_left _ (List.mem_append_left _ (List.mem_append_left _ (List.mem_append_left _ (List.mem_append_left _ (List.mem_append_left _ (List.mem_append_left _ (List.mem_append_left _ (List.mem_append_right _ (List.mem_append_left _ h)))))))))))
theorem wc_3 : ∀ w ∈ wsL_law0_r3, w ∈ wsL_law := fun _ h => List.mem_append_left _ (List.mem_append_left _ (List.mem_append_left _ (List.mem_append_left _ (List.mem_append_left _ (List.mem_append_left _ (List.mem_append_left _ (List.mem_append_left _ (List.mem_append_left _ (List.mem_append_left _ (List.mem_append_right _ (List.mem_append_right _ (List.mem_append_left _ h))))))))))))
theorem wc_4 : ∀ w ∈ wsL_law0_r4, w ∈ wsL_law := fun _ h => List.mem_append_left _ (List.mem_append_left _ (List.mem_append_left _ (List.mem_append_left _ (List.mem_append_left _ (List.mem_append_left _ (List.mem_append_left _ (List.mem_append_left _ (List.mem_append_left _ (List.mem_append_left _ (List.mem_append_right _ (List.mem_append_right _ (List.mem_append_right _ (List.mem_append_left _ h)))))))))))))
theorem wc_5 : ∀ w ∈ wsL_law0_r5, w ∈ wsL_law := fun _ h => List.mem_append_left _ (List.mem_append_left _ (List.mem_append_left _ (List.mem_append_left _ (List.mem_append_left _ (List.mem_append_left _ (List.mem_append_left _ (List.mem_append_left _ (List.mem_append_left _ (List.mem_append_left _ (List.mem_append_right _ (List.mem_append_right _ (List.mem_append_right _ (List.mem_append_right _ (List.mem_append_left _ h))))))))))))))
theorem wc_6 : ∀ w ∈ wsL_law0_r6, w ∈ wsL_law := fun _ h => List.mem_append_left _ (List.mem_append_left _ (List.mem_append_left _ (List.mem_append_left _ (List.mem_append_left _ (List.mem_append_left _ (List.mem_append_left _ (List.mem_append_left _ (List.mem_append_left _ (List.mem_append_left _ (List.mem_append_right _ (List.mem_append_right _ (List.mem_append_right _ (List.mem_append_right _ (List.mem_append_right _ (List.mem_append_left _ h)))))))))))))))
theorem wc_7 : ∀ w ∈ wsL_law0_r7, w ∈ wsL_law := fun _ h => List.mem_append_left _ (List.mem_append_left _ (List.mem_append_left _ (List.mem_append_left _ (List.mem_append_left _ (List.mem_append_left _ (List.mem_append_left _ (List.mem_append_left _ (List.mem_append_left _ (List.mem_append_left _ (List.mem_append_right _ (List.mem_append_right _ (List.mem_append_right _ (List.mem_append_right _ (List.mem_append_right _ (List.mem_append_right _ (List.mem_append_left _ h))))))))))))))))
theorem wc_8 : ∀ w ∈ wsL_law0_r8, w ∈ wsL_law := fun _ h => List.mem_append_left _ (List.mem_append_left _ (List.mem_append_left _ (List.mem_append_left _ (List.mem_append_left _ (List.mem_append_left _ (List.mem_append_left _ (List.mem_append_left _ (List.mem_append_left _ (List.mem_append_left _ (List.mem_append_right _ (List.mem_append_right _ (List.mem_append_right _ (List.mem_append_right _ (List.mem_append_right _ (List.mem_append_right _ (List.mem_append_right _ (List.mem_append_left _ h)))))))))))))))))
theorem wc_9 : ∀ w ∈ wsL_law0_r9, w ∈ wsL_law := fun _ h => List.mem_append_left _ (List.mem_append_left _ (List.mem_append_left _ (List.mem_append_left _ (List.mem_append_left _ (List.mem_append_left _ (List.mem_append_left _ (List.mem_append_left _ (List.mem_append_left _ (List.mem_append_left _ (List.mem_append_right _ (List.mem_append_right _ (List.mem_append_right _ (List.mem_append_right _ (List.mem_append_right _ (List.mem_append_right _ (List.mem_append_right _ (List.mem_append_right _ (List.mem_append_left _ h))))))))))))))))))
theorem wc_10 : ∀ w ∈ wsL_law0_r10, w ∈ wsL_law := fun _ h => List.mem_append_left _ (List.mem_append_left _ (List.mem_append_left _ (List.mem_append_left _ (List.mem_append_left _ (List.mem_append_left _ (List.mem_append_left _ (List.mem_append_left _ (List.mem_append_left _ (List.mem_append_left _ (List.mem_append_right _ (List.mem_append_right _ (List.mem_append_right _ (List.mem_append_right _ (List.mem_append_right _ (List.mem_append_right _ (List.mem_append_right _ (List.mem_append_right _ (List.mem_append_right _ (List.mem_append_left _ h)))))))))))))))))))
theorem wc_11 : ∀ w ∈ wsL_law0_r11, w ∈ wsL_law := fun _ h => List.mem_append_left _ (List.mem_append_left _ (List.mem_append_left _ (List.mem_append_left _ (List.mem_append_left _ (List.mem_append_left _ (List.mem_append_left _ (List.mem_append_left _ (List.mem_append_left _ (List.mem_append_left _ (List.mem_append_right _ (List.mem_append_right _ (List.mem_append_right _ (List.mem_append_right _ (List.mem_append_right _ (List.mem_append_right _ (List.mem_append_right _ (List.mem_append_right _ (List.mem_append_right _ (List.mem_append_right _ (List.mem_append_left _ h))))))))))))))))))))
theorem wc_12 : ∀ w ∈ wsL_law0_r12, w ∈ wsL_law := fun _ h => List.mem_append_left _ (List.mem_append_left _ (List.mem_append_left _ (List.mem_append_left _ (List.mem_append_left _ (List.mem_append_left _ (List.mem_append_left _ (List.mem_append_left _ (List.mem_append_left _ (List.mem_append_left _ (List.mem_append_right _ (List.mem_append_right _ (List.mem_append_right _ (List.mem_append_right _ (List.mem_append_right _ (List.mem_append_right _ (List.mem_append_right _ (List.mem_append_right _ (List.mem_append_right _ (List.mem_append_right _ (List.mem_append_right _ (List.mem_append_left _ h)))))))))))))))))))))
theorem wc_13 : ∀ w ∈ wsL_law0_r13, w ∈ wsL_law := fun _ h => List.mem_append_left _ (List.mem_append_left _ (List.mem_append_left _ (List.mem_append_left _ (List.mem_append_left _ (List.mem_append_left _ (List.mem_append_left _ (List.mem_append_left _ (List.mem_append_left _ (List.mem_append_left _ (List.mem_append_right _ (List.mem_append_right _ (List.mem_append_right _ (List.mem_append_right _ (List.mem_append_right _ (List.mem_append_right _ (List.mem_append_right _ (List.mem_append_right _ (List.mem_append_right _ (List.mem_append_right _ (List.mem_append_right _ (List.mem_append_right _ (List.mem_append_left _ h))))))))))))))))))))))
theorem wc_14 : ∀ w ∈ wsL_law0_r14, w ∈ wsL_law := fun _ h => List.mem_append_left _ (List.mem_append_left _ (List.mem_append_left _ (List.mem_append_left _ (List.mem_append_left _ (List.mem_append_left _ (List.mem_append_left _ (List.mem_append_left _ (List.mem_append_left _ (List.mem_append_left _ (List.mem_append_right _ (List.mem_append_right _ (List.mem_append_right _ (List.mem_append_right _ (List.mem_append_right _ (List.mem_append_right _ (List.mem_append_right _ (List.mem_append_right _ (List.mem_append_right _ (List.mem_append_right _ (List.mem_append_right _ (List.mem_append_right _ (List.mem_append_right _ (List.mem_append_left _ h)))))))))))))))))))))))
theorem wc_15 : ∀ w ∈ wsL_law0_r15, w ∈ wsL_law := fun _ h => List.mem_append_left _ (List.mem_append_left _ (List.mem_append_left _ (List.mem_append_left _ (List.mem_append_left _ (List.mem_append_left _ (List.mem_append_left _ (List.mem_append_left _ (List.mem_append_left _ (List.mem_append_left _ (List.mem_append_right _ (List.mem_append_right _ (List.mem_append_right _ (List.mem_append_right _ (List.mem_append_right _ (List.mem_append_right _ (List.mem_append_right _ (List.mem_append_right _ (List.mem_append_right _ (List.mem_append_right _ (List.mem_append_right _ (List.mem_append_right _ (List.mem_append_right _ (List.mem_append_right _ (List.mem_append_left _ h))))))))))))))))))))))))
theorem wc_16 : ∀ w ∈ wsL_law0_r16, w ∈ wsL_law := fun _ h => List.mem_append_left _ (List.mem_append_left _ (List.mem_append_left _ (List.mem_append_left _ (List.mem_append_left _ (List.mem_append_left _ (List.mem_append_left _ (List.mem_append_left _ (List.mem_append_left _ (List.mem_append_left _ (List.mem_append_right _ (List.mem_append_right _ (List.mem_append_right _ (List.mem_append_right _ (List.mem_append_right _ (List.mem_append_right _ (List.mem_append_right _ (List.mem_append_right _ (List.mem_append_right _ (List.mem_append_right _ (List.mem_append_right _ (List.mem_append_right _ (List.mem_append_right _ (List.mem_append_right _ (List.mem_append_right _ (List.mem_append_left _ h)))))))))))))))))))))))))
theorem wc_17 : ∀ w ∈ wsL_law0_r17, w ∈ wsL_law := fun _ h => List.mem_append_left _ (List.mem_append_left _ (List.mem_append_left _ (List.mem_append_left _ (List.mem_append_left _ (List.mem_append_left _ (List.mem_append_left _ (List.mem_append_left _ (List.mem_append_left _ (List.mem_append_left _ (List.mem_append_right _ (List.mem_append_right _ (List.mem_append_right _ (List.mem_append_right _ (List.mem_append_right _ (List.mem_append_right _ (List.mem_append_right _ (List.mem_append_right _ (List.mem_append_right _ (List.mem_append_right _ (List.mem_append_right _ (List.mem_append_right _ (List.mem_append_right _ (List.mem_append_right _ (List.mem_append_right _ (List.mem_append_right _ (List.mem_append_left _ h))))))))))))))))))))))))))
theorem wc_18 : ∀ w ∈ wsL_law0_r18, w ∈ wsL_law := fun _ h => List.mem_append_left _ (List.mem_append_left _ (List.mem_append_left _ (List.mem_append_left _ (List.mem_append_left _ (List.mem_append_left _ (List.mem_append_left _ (List.mem_append_left _ (List.mem_append_left _ (List.mem_append_left _ (List.mem_append_right _ (List.mem_append_right _ (List.mem_append_right _ (List.mem_append_right _ (List.mem_append_right _ (List.mem_append_right _ (List.mem_append_right _ (List.mem_append_right _ (List.mem_append_right _ (List.mem_append_right _ (List.mem_append_right _ (List.mem_append_right _ (List.mem_append_right _ (List.mem_append_right _ (List.mem_append_right _ (List.mem_append_right _ (List.mem_append_right _ (List.mem_append_left _ h)))))))))))))))))))))))))))
theorem wc_19 : ∀ w ∈ wsL_law0_r19, w ∈ wsL_law := fun _ h => List.mem_append_left _ (List.mem_append_left _ (List.mem_append_left _ (List.mem_append_left _ (List.mem_append_left _ (List.mem_append_left _ (List.mem_append_left _ (List.mem_append_left _ (List.mem_append_left _ (List.mem_append_left _ (List.mem_append_right _ (List.mem_append_right _ (List.mem_append_right _ (List.mem_append_right _ (List.mem_append_right _ (List.mem_append_right _ (List.mem_append_right _ (List.mem_append_right _ (List.mem_append_right _ (List.mem_append_right _ (List.mem_append_right _ (List.mem_append_right _ (List.mem_append_right _ (List.mem_append_right _ (List.mem_append_right _ (List.mem_append_right _ (List.mem_append_right _ (List.mem_append_right _ (List.mem_append_left _ h))))))))))))))))))))))))))))
theorem wc_20 : ∀ w ∈ wsL_law0_r20, w ∈ wsL_law := fun _ h => List.mem_append_left _ (List.mem_append_left _ (List.mem_append_left _ (List.mem_append_left _ (List.mem_append_left _ (List.mem_append_left _ (List.mem_append_left _ (List.mem_append_left _ (List.mem_append_left _ (List.mem_append_left _ (List.mem_append_right _ (List.mem_append_right _ (List.mem_append_right _ (List.mem_append_right _ (List.mem_append_right _ (List.mem_append_right _ (List.mem_append_right _ (List.mem_append_right _ (List.mem_append_right _ (List.mem_append_right _ (List.mem_append_right _ (List.mem_append_right _ (List.mem_append_right _ (List.mem_append_right _ (List.mem_append_right _ (List.mem_append_right _ (List.mem_append_right _ (List.mem_append_right _ (List.mem_append_right _ (List.mem_append_left _ h)))))))))))))))))))))))))))))
theorem wc_21 : ∀ w ∈ wsL_law0_r21, w ∈ wsL_law := fun _ h => List.mem_append_left _ (List.mem_append_left _ (List.mem_append_left _ (List.mem_append_left _ (List.mem_append_left _ (List.mem_append_left _ (List.mem_append_left _ (List.mem_append_left _ (List.mem_append_left _ (List.mem_append_left _ (List.mem_append_right _ (List.mem_append_right _ (List.mem_append_right _ (List.mem_append_right _ (List.mem_append_right _ (List.mem_append_right _ (List.mem_append_right _ (List.mem_append_right _ (List.mem_append_right _ (List.mem_append_right _ (List.mem_append_right _ (List.mem_append_right _ (List.mem_append_right _ (List.mem_append_right _ (List.mem_append_right _ (List.mem_append_right _ (List.mem_append_right _ (List.mem_append_right _ (List.mem_append_right _ (List.mem_append_right _ (List.mem_append_left _ h))))))))))))))))))))))))))))))
theorem wc_22 : ∀ w ∈ wsL_law0_r22, w ∈ wsL_law := fun _ h => List.mem_append_left _ (List.mem_append_left _ (List.mem_append_left _ (List.mem_append_left _ (List.mem_append_left _ (List.mem_append_left _ (List.mem_append_left _ (List.mem_append_left _ (List.mem_append_left _ (List.mem_append_left _ (List.mem_append_right _ (List.mem_append_right _ (List.mem_append_right _ (List.mem_append_right _ (List.mem_append_right _ (List.mem_append_right _ (List.mem_append_right _ (List.mem_append_right _ (List.mem_append_right _ (List.mem_append_right _ (List.mem_append_right _ (List.mem_append_right _ (List.mem_append_right _ (List.mem_append_right _ (List.mem_append_right _ (List.mem_append_right _ (List.mem_append_right _ (List.mem_append_right _ (List.mem_append_right _ (List.mem_append_right _ (List.mem_append_right _ (List.mem_append_left _ h)))))))))))))))))))))))))))))))
theorem wc_23 : ∀ w ∈ wsL_law0_r23, w ∈ wsL_law := fun _ h => List.mem_append_left _ (List.mem_append_left _ (List.mem_append_left _ (List.mem_append_left _ (List.mem_append_left _ (List.mem_append_left _ (List.mem_append_left _ (List.mem_append_left _ (List.mem_append_left _ (List.mem_append_left _ (List.mem_append_right _ (List.mem_append_right _ (List.mem_append_right _ (List.mem_append_right _ (List.mem_append_right _ (List.mem_append_right _ (List.mem_append_right _ (List.mem_append_right _ (List.mem_append_right _ (List.mem_append_right _ (List.mem_append_right _ (List.mem_append_right _ (List.mem_append_right _ (List.mem_append_right _ (List.mem_append_right _ (List.mem_append_right _ (List.mem_append_right _ (List.mem_append_right _ (List.mem_append_right _ (List.mem_append_right _ (List.mem_append_right _ (List.mem_append_right _ (List.mem_append_left _ h))))))))))))))))))))))))))))))))
theorem wc_24 : ∀ w ∈ wsL_law0_r24, w ∈ wsL_law := fun _ h => List.mem_append_left _ (List.mem_append_left _ (List.mem_append_left _ (List.mem_append_left _ (List.mem_append_left _ (List.mem_append_left _ (List.mem_append_left _ (List.mem_append_left _ (List.mem_append_left _ (List.mem_append_left _ (List.mem_append_right _ (List.mem_append_right _ (List.mem_append_right _ (List.mem_append_right _ (List.mem_append_right _ (List.mem_append_right _ (List.mem_append_right _ (List.mem_append_right _ (List.mem_append_right _ (List.mem_append_right _ (List.mem_append_right _ (List.mem_append_right _ (List.mem_append_right _ (List.mem_append_right _ (List.mem_append_right _ (List.mem_append_right _ (List.mem_append_right _ (List.mem_append_right _ (List.mem_append_right _ (List.mem_append_right _ (List.mem_append_right _ (List.mem_append_right _ (List.mem_append_right _ (List.mem_append_left _ h)))))))))))))))))))))))))))))))))
theorem wc_25 : ∀ w ∈ wsL_law0_r25, w ∈ wsL_law := fun _ h => List.mem_append_left _ (List.mem_append_left _ (List.mem_append_left _ (List.mem_append_left _ (List.mem_append_left _ (List.mem_append_left _ (List.mem_append_left _ (List.mem_append_left _ (List.mem_append_left _ (List.mem_append_left _ (List.mem_append_right _ (List.mem_append_right _ (List.mem_append_right _ (List.mem_append_right _ (List.mem_append_right _ (List.mem_append_right _ (List.mem_append_right _ (List.mem_append_right _ (List.mem_append_right _ (List.mem_append_right _ (List.mem_append_right _ (List.mem_append_right _ (List.mem_append_right _ (List.mem_append_right _ (List.mem_append_right _ (List.mem_append_right _ (List.mem_append_right _ (List.mem_append_right _ (List.mem_append_right _ (List.mem_append_right _ (List.mem_append_right _ (List.mem_append_right _ (List.mem_append_right _ (List.mem_append_right _ (List.mem_append_left _ h))))))))))))))))))))))))))))))))))
theorem wc_26 : ∀ w ∈ wsL_law0_r26, w ∈ wsL_law := fun _ h => List.mem_append_left _ (List.mem_append_left _ (List.mem_append_left _ (List.mem_append_left _ (List.mem_append_left _ (List.mem_append_left _ (List.mem_append_left _ (List.mem_append_left _ (List.mem_append_left _ (List.mem_append_left _ (List.mem_append_right _ (List.mem_append_right _ (List.mem_append_right _ (List.mem_append_right _ (List.mem_append_right _ (List.mem_append_right _ (List.mem_append_right _ (List.mem_append_right _ (List.mem_append_right _ (List.mem_append_right _ (List.mem_append_right _ (List.mem_append_right _ (List.mem_append_right _ (List.mem_append_right _ (List.mem_append_right _ (List.mem_append_right _ (List.mem_append_right _ (List.mem_append_right _ (List.mem_append_right _ (List.mem_append_right _ (List.mem_append_right _ (List.mem_append_right _ (List.mem_append_right _ (List.mem_append_right _ (List.mem_append_right _ (List.mem_append_left _ h)))))))))))))))))))))))))))))))))))
theorem wc_27 : ∀ w ∈ wsL_law0_r27, w ∈ wsL_law := fun _ h => List.mem_append_left _ (List.mem_append_left _ (List.mem_append_left _ (List.mem_append_left _ (List.mem_append_left _ (List.mem_append_left _ (List.mem_append_left _ (List.mem_append_left _ (List.mem_append_left _ (List.mem_append_left _ (List.mem_append_right _ (List.mem_append_right _ (List.mem_append_right _ (List.mem_append_right _ (List.mem_append_right _ (List.mem_append_right _ (List.mem_append_right _ (List.mem_append_right _ (List.mem_append_right _ (List.mem_append_right _ (List.mem_append_right _ (List.mem_append_right _ (List.mem_append_right _ (List.mem_append_right _ (List.mem_append_right _ (List.mem_append_right _ (List.mem_append_right _ (List.mem_append_right _ (List.mem_append_right _ (List.mem_append_right _ (List.mem_append_right _ (List.mem_append_right _ (List.mem_append_right _ (List.mem_append_right _ (List.mem_append_right _ (List.mem_append_right _ (List.mem_append_left _ h))))))))))))))))))))))))))))))))))))
theorem wc_28 : ∀ w ∈ wsL_law0_r28, w ∈ wsL_law := fun _ h => List.mem_append_left _ (List.mem_append_left _ (List.mem_append_left _ (List.mem_append_left _ (List.mem_append_left _ (List.mem_append_left _ (List.mem_append_left _ (List.mem_append_left _ (List.mem_append_left _ (List.mem_append_left _ (List.mem_append_right _ (List.mem_append_right _ (List.mem_append_right _ (List.mem_append_right _ (List.mem_append_right _ (List.mem_append_right _ (List.mem_append_right _ (List.mem_append_right _ (List.mem_append_right _ (List.mem_append_right _ (List.mem_append_right _ (List.mem_append_right _ (List.mem_append_right _ (List.mem_append_right _ (List.mem_append_right _ (List.mem_append_right _ (List.mem_append_right _ (List.mem_append_right _ (List.mem_append_right _ (List.mem_append_right _ (List.mem_append_right _ (List.mem_append_right _ (List.mem_append_right _ (List.mem_append_right _ (List.mem_append_right _ (List.mem_append_right _ (List.mem_append_right _ (List.mem_append_left _ h)))))))))))))))))))))))))))))))))))))
theorem wc_29 : ∀ w ∈ wsL_law0_r29, w ∈ wsL_law := fun _ h => List.mem_append_left _ (List.mem_append_left _ (List.mem_append_left _ (List.mem_append_left _ (List.mem_append_left _ (List.mem_append_left _ (List.mem_append_left _ (List.mem_append_left _ (List.mem_append_left _ (List.mem_append_left _ (List.mem_append_right _ (List.mem_append_right _ (List.mem_append_right _ (List.mem_append_right _ (List.mem_append_right _ (List.mem_append_right _ (List.mem_append_right _ (List.mem_append_right _ (List.mem_append_right _ (List.mem_append_right _ (List.mem_append_right _ (List.mem_append_right _ (List.mem_append_right _ (List.mem_append_right _ (List.mem_append_right _ (List.mem_append_right _ (List.mem_append_right _ (List.mem_append_right _ (List.mem_append_right _ (List.mem_append_right _ (List.mem_append_right _ (List.mem_append_right _ (List.mem_append_right _ (List.mem_append_right _ (List.mem_append_right _ (List.mem_append_right _ (List.mem_append_right _ (List.mem_append_right _ (List.mem_append_left _ h))))))))))))))))))))))))))))))))))))))
theorem wc_30 : ∀ w ∈ wsL_law0_r30, w ∈ wsL_law := fun _ h => List.mem_append_left _ (List.mem_append_left _ (List.mem_append_left _ (List.mem_append_left _ (List.mem_append_left _ (List.mem_append_left _ (List.mem_append_left _ (List.mem_append_left _ (List.mem_append_left _ (List.mem_append_left _ (List.mem_append_right _ (List.mem_append_right _ (List.mem_append_right _ (List.mem_append_right _ (List.mem_append_right _ (List.mem_append_right _ (List.mem_append_right _ (List.mem_append_right _ (List.mem_append_right _ (List.mem_append_right _ (List.mem_append_right _ (List.mem_append_right _ (List.mem_append_right _ (List.mem_append_right _ (List.mem_append_right _ (List.mem_append_right _ (List.mem_append_right _ (List.mem_append_right _ (List.mem_append_right _ (List.mem_append_right _ (List.mem_append_right _ (List.mem_append_right _ (List.mem_append_right _ (List.mem_append_right _ (List.mem_append_right _ (List.mem_append_right _ (List.mem_append_right _ (List.mem_append_right _ (List.mem_append_right _ (List.mem_append_left _ h)))))))))))))))))))))))))))))))))))))))
theorem wc_31 : ∀ w ∈ wsL_law0_r31, w ∈ wsL_law := fun _ h => List.mem_append_left _ (List.mem_append_left _ (List.mem_append_left _ (List.mem_append_left _ (List.mem_append_left _ (List.mem_append_left _ (List.mem_append_left _ (List.mem_append_left _ (List.mem_append_left _ (List.mem_append_left _ (List.mem_append_right _ (List.mem_append_right _ (List.mem_append_right _ (List.mem_append_right _ (List.mem_append_right _ (List.mem_append_right _ (List.mem_append_right _ (List.mem_append_right _ (List.mem_append_right _ (List.mem_append_right _ (List.mem_append_right _ (List.mem_append_right _ (List.mem_append_right _ (List.mem_append_right _ (List.mem_append_right _ (List.mem_append_right _ (List.mem_append_right _ (List.mem_append_right _ (List.mem_append_right _ (List.mem_append_right _ (List.mem_append_right _ (List.mem_append_right _ (List.mem_append_right _ (List.mem_append_right _ (List.mem_append_right _ (List.mem_append_right _ (List.mem_append_right _ (List.mem_append_right _ (List.mem_append_right _ (List.mem_append_right _ (List.mem_append_left _ h))))))))))))))))))))))))))))))))))))))))
theorem wc_32 : ∀ w ∈ wsL_law0_r32, w ∈ wsL_law := fun _ h => List.mem_append_left _ (List.mem_append_left _ (List.mem_append_left _ (List.mem_append_left _ (List.mem_append_left _ (List.mem_append_left _ (List.mem_append_left _ (List.mem_append_left _ (List.mem_append_left _ (List.mem_append_left _ (List.mem_append_right _ (List.mem_append_right _ (List.mem_append_right _ (List.mem_append_right _ (List.mem_append_right _ (List.mem_append_right _ (List.mem_append_right _ (List.mem_append_right _ (List.mem_append_right _ (List.mem_append_right _ (List.mem_append_right _ (List.mem_append_right _ (List.mem_append_right _ (List.mem_append_right _ (List.mem_append_right _ (List.mem_append_right _ (List.mem_append_right _ (List.mem_append_right _ (List.mem_append_right _ (List.mem_append_right _ (List.mem_append_right _ (List.mem_append_right _ (List.mem_append_right _ (List.mem_append_right _ (List.mem_append_right _ (List.mem_append_right _ (List.mem_append_right _ (List.mem_append_right _ (List.mem_append_right _ (List.mem_append_right _ (List.mem_append_right _ (List.mem_append_left _ h)))))))))))))))))))))))))))))))))))))))))
theorem wc_33 : ∀ w ∈ wsL_law0_r33, w ∈ wsL_law := fun _ h => List.mem_append_left _ (List.mem_append_left _ (List.mem_append_left _ (List.mem_append_left _ (List.mem_append_left _ (List.mem_append_left _ (List.mem_append_left _ (List.mem_append_left _ (List.mem_append_left _ (List.mem_append_left _ (List.mem_append_right _ (List.mem_append_right _ (List.mem_append_right _ (List.mem_append_right _ (List.mem_append_right _ (List.mem_append_right _ (List.mem_append_right _ (List.mem_append_right _ (List.mem_append_right _ (List.mem_append_right _ (List.mem_append_right _ (List.mem_append_right _ (List.mem_append_right _ (List.mem_append_right _ (List.mem_append_right _ (List.mem_append_right _ (List.mem_append_right _ (List.mem_append_right _ (List.mem_append_right _ (List.mem_append_right _ (List.mem_append_right _ (List.mem_append_right _ (List.mem_append_right _ (List.mem_append_right _ (List.mem_append_right _ (List.mem_append_right _ (List.mem_append_right _ (List.mem_append_right _ (List.mem_append_right _ (List.mem_append_right _ (List.mem_append_right _ (List.mem_append_right _ (List.mem_append_left _ h))))))))))))))))))))))))))))))))))))))))))
theorem wc_34 : ∀ w ∈ wsL_law0_r34, w ∈ wsL_law := fun _ h => List.mem_append_left _ (List.mem_append_left _ (List.mem_append_left _ (List.mem_append_left _ (List.mem_append_left _ (List.mem_append_left _ (List.mem_append_left _ (List.mem_append_left _ (List.mem_append_left _ (List.mem_append_left _ (List.mem_append_right _ (List.mem_append_right _ (List.mem_append_right _ (List.mem_append_right _ (List.mem_append_right _ (List.mem_append_right _ (List.mem_append_right _ (List.mem_append_right _ (List.mem_append_right _ (List.mem_append_right _ (List.mem_append_right _ (List.mem_append_right _ (List.mem_append_right _ (List.mem_append_right _ (List.mem_append_right _ (List.mem_append_right _ (List.mem_append_right _ (List.mem_append_right _ (List.mem_append_right _ (List.mem_append_right _ (List.mem_append_right _ (List.mem_append_right _ (List.mem_append_right _ (List.mem_append_right _ (List.mem_append_right _ (List.mem_append_right _ (List.mem_append_right _ (List.mem_append_right _ (List.mem_append_right _ (List.mem_append_right _ (List.mem_append_right _ (List.mem_append_right _ (List.mem_append_right _ (List.mem_append_left _ h)))))))))))))))))))))))))))))))))))))))))))
theorem wc_35 : ∀ w ∈ wsL_law0_r35, w ∈ wsL_law := fun _ h => List.mem_append_left _ (List.mem_append_left _ (List.mem_append_left _ (List.mem_append_left _ (List.mem_append_left _ (List.mem_append_left _ (List.mem_append_left _ (List.mem_append_left _ (List.mem_append_left _ (List.mem_append_left _ (List.mem_append_right _ (List.mem_append_right _ (List.mem_append_right _ (List.mem_append_right _ (List.mem_append_right _ (List.mem_append_right _ (List.mem_append_right _ (List.mem_append_right _ (List.mem_append_right _ (List.mem_append_right _ (List.mem_append_right _ (List.mem_append_right _ (List.mem_append_right _ (List.mem_append_right _ (List.mem_append_right _ (List.mem_append_right _ (List.mem_append_right _ (List.mem_append_right _ (List.mem_append_right _ (List.mem_append_right _ (List.mem_append_right _ (List.mem_append_right _ (List.mem_append_right _ (List.mem_append_right _ (List.mem_append_right _ (List.mem_append_right _ (List.mem_append_right _ (List.mem_append_right _ (List.mem_append_right _ (List.mem_append_right _ (List.mem_append_right _ (List.mem_append_right _ (List.mem_append_right _ (List.mem_append_right _ (List.mem_append_left _ h))))))))))))))))))))))))))))))))))))))))))))
theorem wc_36 : ∀ w ∈ wsL_law0_r36, w ∈ wsL_law := fun _ h => List.mem_append_left _ (List.mem_append_left _ (List.mem_append_left _ (List.mem_append_left _ (List.mem_append_left _ (List.mem_append_left _ (List.mem_append_left _ (List.mem_append_left _ (List.mem_append_left _ (List.mem_append_left _ (List.mem_append_right _ (List.mem_append_right _ (List.mem_append_right _ (List.mem_append_right _ (List.mem_append_right _ (List.mem_append_right _ (List.mem_append_right _ (List.mem_append_right _ (List.mem_append_right _ (List.mem_append_right _ (List.mem_append_right _ (List.mem_append_right _ (List.mem_append_right _ (List.mem_append_right _ (List.mem_append_right _ (List.mem_append_right _ (List.mem_append_right _ (List.mem_append_right _ (List.mem_append_right _ (List.mem_append_right _ (List.mem_append_right _ (List.mem_append_right _ (List.mem_append_right _ (List.mem_append_right _ (List.mem_append_right _ (List.mem_append_right _ (List.mem_append_right _ (List.mem_append_right _ (List.mem_append_right _ (List.mem_append_right _ (List.mem_append_right _ (List.mem_append_right _ (List.mem_append_right _ (List.mem_append_right _ (List.mem_append_right _ (List.mem_append_left _ h)))))))))))))))))))))))))))))))))))))))))))))
theorem wc_37 : ∀ w ∈ wsL_law0_r37, w ∈ wsL_law := fun _ h => List.mem_append_left _ (List.mem_append_left _ (List.mem_append_left _ (List.mem_append_left _ (List.mem_append_left _ (List.mem_append_left _ (List.mem_append_left _ (List.mem_append_left _ (List.mem_append_left _ (List.mem_append_left _ (List.mem_append_right _ (List.mem_append_right _ (List.mem_append_right _ (List.mem_append_right _ (List.mem_append_right _ (List.mem_append_right _ (List.mem_append_right _ (List.mem_append_right _ (List.mem_append_right _ (List.mem_append_right _ (List.mem_append_right _ (List.mem_append_right _ (List.mem_append_right _ (List.mem_append_right _ (List.mem_append_right _ (List.mem_append_right _ (List.mem_append_right _ (List.mem_append_right _ (List.mem_append_right _ (List.mem_append_right _ (List.mem_append_right _ (List.mem_append_right _ (List.mem_append_right _ (List.mem_append_right _ (List.mem_append_right _ (List.mem_append_right _ (List.mem_append_right _ (List.mem_append_right _ (List.mem_append_right _ (List.mem_append_right _ (List.mem_append_right _ (List.mem_append_right _ (List.mem_append_right _ (List.mem_append_right _ (List.mem_append_right _ (List.mem_append_right _ (List.mem_append_left _ h))))))))))))))))))))))))))))))))))))))))))))))
theorem wc_38 : ∀ w ∈ wsL_law0_r38, w ∈ wsL_law := fun _ h => List.mem_append_left _ (List.mem_append_left _ (List.mem_append_left _ (List.mem_append_left _ (List.mem_append_left _ (List.mem_append_left _ (List.mem_append_left _ (List.mem_append_left _ (List.mem_append_left _ (List.mem_append_left _ (List.mem_append_right _ (List.mem_append_right _ (List.mem_append_right _ (List.mem_append_right _ (List.mem_append_right _ (List.mem_append_right _ (List.mem_append_right _ (List.mem_append_right _ (List.mem_append_right _ (List.mem_append_right _ (List.mem_append_right _ (List.mem_append_right _ (List.mem_append_right _ (List.mem_append_right _ (List.mem_append_right _ (List.mem_append_right _ (List.mem_append_right _ (List.mem_append_right _ (List.mem_append_right _ (List.mem_append_right _ (List.mem_append_right _ (List.mem_append_right _ (List.mem_append_right _ (List.mem_append_right _ (List.mem_append_right _ (List.mem_append_right _ (List.mem_append_right _ (List.mem_append_right _ (List.mem_append_right _ (List.mem_append_right _ (List.mem_append_right _ (List.mem_append_right _ (List.mem_append_right _ (List.mem_append_right _ (List.mem_append_right _ (List.mem_append_right _ (List.mem_append_right _ (List.mem_append_left _ h)))))))))))))))))))))))))))))))))))))))))))))))
theorem wc_39 : ∀ w ∈ wsL_law0_r39, w ∈ wsL_law := fun _ h => List.mem_append_left _ (List.mem_append_left _ (List.mem_append_left _ (List.mem_append_left _ (List.mem_append_left _ (List.mem_append_left _ (List.mem_append_left _ (List.mem_append_left _ (List.mem_append_left _ (List.mem_append_left _ (List.mem_append_right _ (List.mem_append_right _ (List.mem_append_right _ (List.mem_append_right _ (List.mem_append_right _ (List.mem_append_right _ (List.mem_append_right _ (List.mem_append_right _ (List.mem_append_right _ (List.mem_append_right _ (List.mem_append_right _ (List.mem_append_right _ (List.mem_append_right _ (List.mem_append_right _ (List.mem_append_right _ (List.mem_append_right _ (List.mem_append_right _ (List.mem_append_right _ (List.mem_append_right _ (List.mem_append_right _ (List.mem_append_right _ (List.mem_append_right _ (List.mem_append_right _ (List.mem_append_right _ (List.mem_append_right _ (List.mem_append_right _ (List.mem_append_right _ (List.mem_append_right _ (List.mem_append_right _ (List.mem_append_right _ (List.mem_append_right _ (List.mem_append_right _ (List.mem_append_right _ (List.mem_append_right _ (List.mem_append_right _ (List.mem_append_right _ (List.mem_append_right _ (List.mem_append_right _ (List.mem_append_left _ h))))))))))))))))))))))))))))))))))))))))))))))))
theorem wc_40 : ∀ w ∈ wsL_law0_r40, w ∈ wsL_law := fun _ h => List.mem_append_left _ (List.mem_append_left _ (List.mem_append_left _ (List.mem_append_left _ (List.mem_append_left _ (List.mem_append_left _ (List.mem_append_left _ (List.mem_append_left _ (List.mem_append_left _ (List.mem_append_left _ (List.mem_append_right _ (List.mem_append_right _ (List.mem_append_right _ (List.mem_append_right _ (List.mem_append_right _ (List.mem_append_right _ (List.mem_append_right _ (List.mem_append_right _ (List.mem_append_right _ (List.mem_append_right _ (List.mem_append_right _ (List.mem_append_right _ (List.mem_append_right _ (List.mem_append_right _ (List.mem_append_right _ (List.mem_append_right _ (List.mem_append_right _ (List.mem_append_right _ (List.mem_append_right _ (List.mem_append_right _ (List.mem_append_right _ (List.mem_append_right _ (List.mem_append_right _ (List.mem_append_right _ (List.mem_append_right _ (List.mem_append_right _ (List.mem_append_right _ (List.mem_append_right _ (List.mem_append_right _ (List.mem_append_right _ (List.mem_append_right _ (List.mem_append_right _ (List.mem_append_right _ (List.mem_append_right _ (List.mem_append_right _ (List.mem_append_right _ (List.mem_append_right _ (List.mem_append_right _ (List.mem_append_right _ (List.mem_append_left _ h)))))))))))))))))))))))))))))))))))))))))))))))))
theorem wc_41 : ∀ w ∈ wsL_law0_r41, w ∈ wsL_law := fun _ h => List.mem_append_left _ (List.mem_append_left _ (List.mem_append_left _ (List.mem_append_left _ (List.mem_append_left _ (List.mem_append_left _ (List.mem_append_left _ (List.mem_append_left _ (List.mem_append_left _ (List.mem_append_left _ (List.mem_append_right _ (List.mem_append_right _ (List.mem_append_right _ (List.mem_append_right _ (List.mem_append_right _ (List.mem_append_right _ (List.mem_append_right _ (List.mem_append_right _ (List.mem_append_right _ (List.mem_append_right _ (List.mem_append_right _ (List.mem_append_right _ (List.mem_append_right _ (List.mem_append_right _ (List.mem_append_right _ (List.mem_append_right _ (List.mem_append_right _ (List.mem_append_right _ (List.mem_append_right _ (List.mem_append_right _ (List.mem_append_right _ (List.mem_append_right _ (List.mem_append_right _ (List.mem_append_right _ (List.mem_append_right _ (List.mem_append_right _ (List.mem_append_right _ (List.mem_append_right _ (List.mem_append_right _ (List.mem_append_right _ (List.mem_append_right _ (List.mem_append_right _ (List.mem_append_right _ (List.mem_append_right _ (List.mem_append_right _ (List.mem_append_right _ (List.mem_append_right _ (List.mem_append_right _ (List.mem_append_right _ (List.mem_append_right _ (List.mem_append_left _ h))))))))))))))))))))))))))))))))))))))))))))))))))
theorem wc_42 : ∀ w ∈ wsL_law0_r42, w ∈ wsL_law := fun _ h => List.mem_append_left _ (List.mem_append_left _ (List.mem_append_left _ (List.mem_append_left _ (List.mem_append_left _ (List.mem_append_left _ (List.mem_append_left _ (List.mem_append_left _ (List.mem_append_left _ (List.mem_append_left _ (List.mem_append_right _ (List.mem_append_right _ (List.mem_append_right _ (List.mem_append_right _ (List.mem_append_right _ (List.mem_append_right _ (List.mem_append_right _ (List.mem_append_right _ (List.mem_append_right _ (List.mem_append_right _ (List.mem_append_right _ (List.mem_append_right _ (List.mem_append_right _ (List.mem_append_right _ (List.mem_append_right _ (List.mem_append_right _ (List.mem_append_right _ (List.mem_append_right _ (List.mem_append_right _ (List.mem_append_right _ (List.mem_append_right _ (List.mem_append_right _ (List.mem_append_right _ (List.mem_append_right _ (List.mem_append_right _ (List.mem_append_right _ (List.mem_append_right _ (List.mem_append_right _ (List.mem_append_right _ (List.mem_append_right _ (List.mem_append_right _ (List.mem_append_right _ (List.mem_append_right _ (List.mem_append_right _ (List.mem_append_right _ (List.mem_append_right _ (List.mem_append_right _ (List.mem_append_right _ (List.mem_append_right _ (List.mem_append_right _ (List.mem_append_right _ (List.mem_append_left _ h)))))))))))))))))))))))))))))))))))))))))))))))))))
theorem wc_43 : ∀ w ∈ wsL_law0_r43, w ∈ wsL_law := fun _ h => List.mem_append_left _ (List.mem_append_left _ (List.mem_append_left _ (List.mem_append_left _ (List.mem_append_left _ (List.mem_append_left _ (List.mem_append_left _ (List.mem_append_left _ (List.mem_append_left _ (List.mem_append_left _ (List.mem_append_right _ (List.mem_append_right _ (List.mem_append_right _ (List.mem_append_right _ (List.mem_append_right _ (List.mem_append_right _ (List.mem_append_right _ (List.mem_append_right _ (List.mem_append_right _ (List.mem_append_right _ (List.mem_append_right _ (List.mem_append_right _ (List.mem_append_right _ (List.mem_append_right _ (List.mem_append_right _ (List.mem_append_right _ (List.mem_append_right _ (List.mem_append_right _ (List.mem_append_right _ (List.mem_append_right _ (List.mem_append_right _ (List.mem_append_right _ (List.mem_append_right _ (List.mem_append_right _ (List.mem_append_right _ (List.mem_append_right _ (List.mem_append_right _ (List.mem_append_right _ (List.mem_append_right _ (List.mem_append_right _ (List.mem_append_right _ (List.mem_append_right _ (List.mem_append_right _ (List.mem_append_right _ (List.mem_append_right _ (List.mem_append_right _ (List.mem_append_right _ (List.mem_append_right _ (List.mem_append_right _ (List.mem_append_right _ (List.mem_append_right _ (List.mem_append_right _ (h))))))))))))))))))))))))))))))))))))))))))))))))))))
theorem m9_2 : Cond.initialized RX5 ∈ wsL_law := wc_1 _ (List.mem_of_getElem? (i := 2) rfl)
theorem m9_5 : Cond.initialized RX6 ∈ wsL_law := wc_1 _ (List.mem_of_getElem? (i := 5) rfl)
theorem m9_15 : Cond.initialized RX3 ∈ wsL_law := wc_1 _ (List.mem_of_getElem? (i := 15) rfl)
theorem m9_16 : Cond.fieldLink RX5 10 "PennantRopes" "now" "LPennantRopes$State;" ∈ wsL_law := wc_1 _ (List.mem_of_getElem? (i := 16) rfl)
theorem m9_17 : Cond.fieldLink RX5 16 "PennantRopes" "kept" "LPennantRopes$State;" ∈ wsL_law := wc_1 _ (List.mem_of_getElem? (i := 17) rfl)
theorem m9_20 : Cond.initialized RX0 ∈ wsL_law := wc_1 _ (List.mem_of_getElem? (i := 20) rfl)
theorem m9_21 : Cond.fieldLink RX5 22 "PennantRopes" "history" "LPennantRopes$History;" ∈ wsL_law := wc_1 _ (List.mem_of_getElem? (i := 21) rfl)
theorem m9_24 : Cond.initialized RX4 ∈ wsL_law := wc_2 _ (List.mem_of_getElem? (i := 0) rfl)
theorem m9_25 : Cond.fieldLink RX5 29 "PennantRopes" "text" "LPennantRopes$Text;" ∈ wsL_law := wc_2 _ (List.mem_of_getElem? (i := 1) rfl)
theorem m9_28 : Cond.initialized RX2 ∈ wsL_law := wc_2 _ (List.mem_of_getElem? (i := 4) rfl)
theorem m9_29 : Cond.fieldLink RX5 36 "PennantRopes" "draft" "LPennantRopes$Rope;" ∈ wsL_law := wc_2 _ (List.mem_of_getElem? (i := 5) rfl)
theorem m9_30 : Cond.fieldLink RX5 40 "PennantRopes" "hasKept" "Z" ∈ wsL_law := wc_2 _ (List.mem_of_getElem? (i := 6) rfl)
theorem m9_36 : Cond.fieldLink RX3 9 "PennantRopes$State" "gaps" "[I" ∈ wsL_law := wc_2 _ (List.mem_of_getElem? (i := 12) rfl)
theorem m9_38 : Cond.fieldLink RX3 17 "PennantRopes$State" "ropes" "[LPennantRopes$Rope;" ∈ wsL_law := wc_2 _ (List.mem_of_getElem? (i := 14) rfl)
theorem m9_39 : Cond.fieldLink RX3 22 "PennantRopes$State" "ropeCount" "I" ∈ wsL_law := wc_2 _ (List.mem_of_getElem? (i := 15) rfl)
theorem m9_40 : Cond.fieldLink RX3 26 "PennantRopes$State" "layings" "I" ∈ wsL_law := wc_2 _ (List.mem_of_getElem? (i := 16) rfl)
theorem m9_41 : Cond.fieldLink RX3 29 "PennantRopes$State" "joins" "I" ∈ wsL_law := wc_2 _ (List.mem_of_getElem? (i := 17) rfl)
theorem m9_42 : Cond.fieldLink RX3 32 "PennantRopes$State" "cuts" "I" ∈ wsL_law := wc_2 _ (List.mem_of_getElem? (i := 18) rfl)
theorem m9_47 : Cond.fieldLink RX2 9 "PennantRopes$Rope" "colours" "[I" ∈ wsL_law := wc_2 _ (List.mem_of_getElem? (i := 23) rfl)
theorem m9_48 : Cond.fieldLink RX2 15 "PennantRopes$Rope" "orders" "[I" ∈ wsL_law := wc_3 _ (List.mem_of_getElem? (i := 0) rfl)
theorem m9_49 : Cond.fieldLink RX2 18 "PennantRopes$Rope" "length" "I" ∈ wsL_law := wc_3 _ (List.mem_of_getElem? (i := 1) rfl)
theorem m9_50 : Cond.fieldLink RX2 22 "PennantRopes$Rope" "hueCount" "I" ∈ wsL_law := wc_3 _ (List.mem_of_getElem? (i := 2) rfl)
theorem m9_56 : Cond.fieldLink RX0 11 "PennantRopes$History" "states" "[LPennantRopes$State;" ∈ wsL_law := wc_3 _ (List.mem_of_getElem? (i := 8) rfl)
theorem m9_57 : Cond.fieldLink RX0 18 "PennantRopes$History" "size" "I" ∈ wsL_law := wc_3 _ (List.mem_of_getElem? (i := 9) rfl)
theorem m9_63 : Cond.fieldLink RX4 9 "PennantRopes$Text" "codes" "[I" ∈ wsL_law := wc_3 _ (List.mem_of_getElem? (i := 15) rfl)
theorem m9_64 : Cond.fieldLink RX4 15 "PennantRopes$Text" "length" "I" ∈ wsL_law := wc_3 _ (List.mem_of_getElem? (i := 16) rfl)
theorem m9_70 : Cond.fieldLink RX6 7 "PennantRopesModel" "s" "[I" ∈ wsL_law := wc_3 _ (List.mem_of_getElem? (i := 22) rfl)
theorem m9_71 : Cond.fieldLink RX6 13 "PennantRopesModel" "aside" "[I" ∈ wsL_law := wc_3 _ (List.mem_of_getElem? (i := 23) rfl)
theorem m9_72 : Cond.fieldLink RX6 16 "PennantRopesModel" "snapshot" "[I" ∈ wsL_law := wc_4 _ (List.mem_of_getElem? (i := 0) rfl)
theorem m9_73 : Cond.fieldLink RX6 19 "PennantRopesModel" "saved" "[I" ∈ wsL_law := wc_4 _ (List.mem_of_getElem? (i := 1) rfl)
theorem m9_74 : Cond.fieldLink RX6 22 "PennantRopesModel" "text" "[I" ∈ wsL_law := wc_4 _ (List.mem_of_getElem? (i := 2) rfl)
theorem m9_75 : Cond.fieldLink RX6 25 "PennantRopesModel" "old" "[I" ∈ wsL_law := wc_4 _ (List.mem_of_getElem? (i := 3) rfl)
theorem m9_87 : Cond.classLink RX5 48 "java/lang/IllegalArgumentException" ∈ wsL_law := wc_4 _ (List.mem_of_getElem? (i := 15) rfl)
theorem m9_88 : Cond.initialized "java/lang/IllegalArgumentException" ∈ wsL_law := wc_4 _ (List.mem_of_getElem? (i := 16) rfl)
theorem m9_89 : Cond.classLink RX5 59 "java/lang/IllegalStateException" ∈ wsL_law := wc_4 _ (List.mem_of_getElem? (i := 17) rfl)
theorem m9_90 : Cond.initialized "java/lang/IllegalStateException" ∈ wsL_law := wc_4 _ (List.mem_of_getElem? (i := 18) rfl)
theorem m9_91 : Cond.methodLink RX5 44 yX5_requireHue ∈ wsL_law := wc_4 _ (List.mem_of_getElem? (i := 19) rfl)
theorem m9_92 : Cond.instanceMethod yX5_requireHue ∈ wsL_law := wc_4 _ (List.mem_of_getElem? (i := 20) rfl)
theorem m9_93 : Cond.selects RX5 yX5_requireHue yX5_requireHue ∈ wsL_law := wc_4 _ (List.mem_of_getElem? (i := 21) rfl)
theorem m9_94 : Cond.code yX5_requireHue cX5_requireHue 2 none ∈ wsL_law := wc_4 _ (List.mem_of_getElem? (i := 22) rfl)
theorem m9_95 : Cond.classLink RX5 204 "java/lang/IndexOutOfBoundsException" ∈ wsL_law := wc_4 _ (List.mem_of_getElem? (i := 23) rfl)
theorem m9_96 : Cond.initialized "java/lang/IndexOutOfBoundsException" ∈ wsL_law := wc_5 _ (List.mem_of_getElem? (i := 0) rfl)
theorem m9_97 : Cond.methodLink RX5 55 yX3_isLaidOnSome ∈ wsL_law := wc_5 _ (List.mem_of_getElem? (i := 1) rfl)
theorem m9_98 : Cond.instanceMethod yX3_isLaidOnSome ∈ wsL_law := wc_5 _ (List.mem_of_getElem? (i := 2) rfl)
theorem m9_99 : Cond.selects RX3 yX3_isLaidOnSome yX3_isLaidOnSome ∈ wsL_law := wc_5 _ (List.mem_of_getElem? (i := 3) rfl)
theorem m9_100 : Cond.code yX3_isLaidOnSome cX3_isLaidOnSome 4 (some .boolean) ∈ wsL_law := wc_5 _ (List.mem_of_getElem? (i := 4) rfl)
theorem m9_101 : Cond.methodLink RX3 35 yX3_ropeAt ∈ wsL_law := wc_5 _ (List.mem_of_getElem? (i := 5) rfl)
theorem m9_102 : Cond.instanceMethod yX3_ropeAt ∈ wsL_law := wc_5 _ (List.mem_of_getElem? (i := 6) rfl)
theorem m9_103 : Cond.selects RX3 yX3_ropeAt yX3_ropeAt ∈ wsL_law := wc_5 _ (List.mem_of_getElem? (i := 7) rfl)
theorem m9_104 : Cond.code yX3_ropeAt cX3_ropeAt 2 (some (.object "PennantRopes$Rope")) ∈ wsL_law := wc_5 _ (List.mem_of_getElem? (i := 8) rfl)
theorem m9_105 : Cond.methodLink RX3 66 yX2_orderOf ∈ wsL_law := wc_5 _ (List.mem_of_getElem? (i := 9) rfl)
theorem m9_106 : Cond.instanceMethod yX2_orderOf ∈ wsL_law := wc_5 _ (List.mem_of_getElem? (i := 10) rfl)
theorem m9_107 : Cond.selects RX2 yX2_orderOf yX2_orderOf ∈ wsL_law := wc_5 _ (List.mem_of_getElem? (i := 11) rfl)
theorem m9_108 : Cond.code yX2_orderOf cX2_orderOf 3 (some .int) ∈ wsL_law := wc_5 _ (List.mem_of_getElem? (i := 12) rfl)
theorem m9_109 : Cond.methodLink RX5 64 yX0_save ∈ wsL_law := wc_5 _ (List.mem_of_getElem? (i := 13) rfl)
theorem m9_110 : Cond.instanceMethod yX0_save ∈ wsL_law := wc_5 _ (List.mem_of_getElem? (i := 14) rfl)
theorem m9_111 : Cond.selects RX0 yX0_save yX0_save ∈ wsL_law := wc_5 _ (List.mem_of_getElem? (i := 15) rfl)
theorem m9_112 : Cond.code yX0_save cX0_save 3 none ∈ wsL_law := wc_5 _ (List.mem_of_getElem? (i := 16) rfl)
theorem m9_113 : Cond.methodLink RX0 22 yX0_dropOldest ∈ wsL_law := wc_5 _ (List.mem_of_getElem? (i := 17) rfl)
theorem m9_114 : Cond.instanceMethod yX0_dropOldest ∈ wsL_law := wc_5 _ (List.mem_of_getElem? (i := 18) rfl)
theorem m9_115 : Cond.selects RX0 yX0_dropOldest yX0_dropOldest ∈ wsL_law := wc_5 _ (List.mem_of_getElem? (i := 19) rfl)
theorem m9_116 : Cond.code yX0_dropOldest cX0_dropOldest 3 none ∈ wsL_law := wc_5 _ (List.mem_of_getElem? (i := 20) rfl)
theorem m9_117 : Cond.methodLink RX0 25 yX0_rowAt ∈ wsL_law := wc_5 _ (List.mem_of_getElem? (i := 21) rfl)
theorem m9_118 : Cond.instanceMethod yX0_rowAt ∈ wsL_law := wc_5 _ (List.mem_of_getElem? (i := 22) rfl)
theorem m9_119 : Cond.selects RX0 yX0_rowAt yX0_rowAt ∈ wsL_law := wc_5 _ (List.mem_of_getElem? (i := 23) rfl)
theorem m9_120 : Cond.code yX0_rowAt cX0_rowAt 2 (some (.object "PennantRopes$State")) ∈ wsL_law := wc_6 _ (List.mem_of_getElem? (i := 0) rfl)
theorem m9_121 : Cond.methodLink RX0 29 yX3_copyFrom ∈ wsL_law := wc_6 _ (List.mem_of_getElem? (i := 1) rfl)
theorem m9_122 : Cond.instanceMethod yX3_copyFrom ∈ wsL_law := wc_6 _ (List.mem_of_getElem? (i := 2) rfl)
theorem m9_123 : Cond.selects RX3 yX3_copyFrom yX3_copyFrom ∈ wsL_law := wc_6 _ (List.mem_of_getElem? (i := 3) rfl)
theorem m9_124 : Cond.code yX3_copyFrom cX3_copyFrom 5 none ∈ wsL_law := wc_6 _ (List.mem_of_getElem? (i := 4) rfl)
theorem m9_125 : Cond.methodLink RX3 39 yX2_copyFrom ∈ wsL_law := wc_6 _ (List.mem_of_getElem? (i := 5) rfl)
theorem m9_126 : Cond.instanceMethod yX2_copyFrom ∈ wsL_law := wc_6 _ (List.mem_of_getElem? (i := 6) rfl)
theorem m9_127 : Cond.selects RX2 yX2_copyFrom yX2_copyFrom ∈ wsL_law := wc_6 _ (List.mem_of_getElem? (i := 7) rfl)
theorem m9_128 : Cond.code yX2_copyFrom cX2_copyFrom 3 none ∈ wsL_law := wc_6 _ (List.mem_of_getElem? (i := 8) rfl)
theorem m9_129 : Cond.methodLink RX5 68 yX3_gapAt ∈ wsL_law := wc_6 _ (List.mem_of_getElem? (i := 9) rfl)
theorem m9_130 : Cond.instanceMethod yX3_gapAt ∈ wsL_law := wc_6 _ (List.mem_of_getElem? (i := 10) rfl)
theorem m9_131 : Cond.selects RX3 yX3_gapAt yX3_gapAt ∈ wsL_law := wc_6 _ (List.mem_of_getElem? (i := 11) rfl)
theorem m9_132 : Cond.code yX3_gapAt cX3_gapAt 2 (some .int) ∈ wsL_law := wc_6 _ (List.mem_of_getElem? (i := 12) rfl)
theorem m9_133 : Cond.methodLink RX5 72 yX3_setGap ∈ wsL_law := wc_6 _ (List.mem_of_getElem? (i := 13) rfl)
theorem m9_134 : Cond.instanceMethod yX3_setGap ∈ wsL_law := wc_6 _ (List.mem_of_getElem? (i := 14) rfl)
theorem m9_135 : Cond.selects RX3 yX3_setGap yX3_setGap ∈ wsL_law := wc_6 _ (List.mem_of_getElem? (i := 15) rfl)
theorem m9_136 : Cond.code yX3_setGap cX3_setGap 3 none ∈ wsL_law := wc_6 _ (List.mem_of_getElem? (i := 16) rfl)
theorem m9_141 : Cond.methodLink RX6 74 yX6_isHue ∈ wsL_law := wc_6 _ (List.mem_of_getElem? (i := 21) rfl)
theorem m9_142 : Cond.static yX6_isHue ∈ wsL_law := wc_6 _ (List.mem_of_getElem? (i := 22) rfl)
theorem m9_143 : Cond.code yX6_isHue cX6_isHue 1 (some .boolean) ∈ wsL_law := wc_6 _ (List.mem_of_getElem? (i := 23) rfl)
theorem m9_144 : Cond.methodLink RX6 32 yX6_in ∈ wsL_law := wc_7 _ (List.mem_of_getElem? (i := 0) rfl)
theorem m9_145 : Cond.static yX6_in ∈ wsL_law := wc_7 _ (List.mem_of_getElem? (i := 1) rfl)
theorem m9_146 : Cond.code yX6_in cX6_in 3 (some .boolean) ∈ wsL_law := wc_7 _ (List.mem_of_getElem? (i := 2) rfl)
theorem m9_147 : Cond.methodLink RX6 78 yX6_isLaidAnywhere ∈ wsL_law := wc_7 _ (List.mem_of_getElem? (i := 3) rfl)
theorem m9_148 : Cond.instanceMethod yX6_isLaidAnywhere ∈ wsL_law := wc_7 _ (List.mem_of_getElem? (i := 4) rfl)
theorem m9_149 : Cond.selects RX6 yX6_isLaidAnywhere yX6_isLaidAnywhere ∈ wsL_law := wc_7 _ (List.mem_of_getElem? (i := 5) rfl)
theorem m9_150 : Cond.code yX6_isLaidAnywhere cX6_isLaidAnywhere 4 (some .boolean) ∈ wsL_law := wc_7 _ (List.mem_of_getElem? (i := 6) rfl)
theorem m9_151 : Cond.methodLink RX6 70 yX6_isLaid ∈ wsL_law := wc_7 _ (List.mem_of_getElem? (i := 7) rfl)
theorem m9_152 : Cond.instanceMethod yX6_isLaid ∈ wsL_law := wc_7 _ (List.mem_of_getElem? (i := 8) rfl)
theorem m9_153 : Cond.selects RX6 yX6_isLaid yX6_isLaid ∈ wsL_law := wc_7 _ (List.mem_of_getElem? (i := 9) rfl)
theorem m9_154 : Cond.code yX6_isLaid cX6_isLaid 3 (some .boolean) ∈ wsL_law := wc_7 _ (List.mem_of_getElem? (i := 10) rfl)
theorem m9_155 : Cond.methodLink RX6 40 yX6_phaseOf ∈ wsL_law := wc_7 _ (List.mem_of_getElem? (i := 11) rfl)
theorem m9_156 : Cond.instanceMethod yX6_phaseOf ∈ wsL_law := wc_7 _ (List.mem_of_getElem? (i := 12) rfl)
theorem m9_157 : Cond.selects RX6 yX6_phaseOf yX6_phaseOf ∈ wsL_law := wc_7 _ (List.mem_of_getElem? (i := 13) rfl)
theorem m9_158 : Cond.code yX6_phaseOf cX6_phaseOf 3 (some .int) ∈ wsL_law := wc_7 _ (List.mem_of_getElem? (i := 14) rfl)
theorem m9_159 : Cond.methodLink RX6 36 yX6_of ∈ wsL_law := wc_7 _ (List.mem_of_getElem? (i := 15) rfl)
theorem m9_160 : Cond.static yX6_of ∈ wsL_law := wc_7 _ (List.mem_of_getElem? (i := 16) rfl)
theorem m9_161 : Cond.code yX6_of cX6_of 2 (some .int) ∈ wsL_law := wc_7 _ (List.mem_of_getElem? (i := 17) rfl)
theorem m9_162 : Cond.methodLink RX6 81 yX6_holds ∈ wsL_law := wc_7 _ (List.mem_of_getElem? (i := 18) rfl)
theorem m9_163 : Cond.instanceMethod yX6_holds ∈ wsL_law := wc_7 _ (List.mem_of_getElem? (i := 19) rfl)
theorem m9_164 : Cond.selects RX6 yX6_holds yX6_holds ∈ wsL_law := wc_7 _ (List.mem_of_getElem? (i := 20) rfl)
theorem m9_165 : Cond.code yX6_holds cX6_holds 2 (some .boolean) ∈ wsL_law := wc_7 _ (List.mem_of_getElem? (i := 21) rfl)
theorem m9_166 : Cond.fieldLink RX6 28 "PennantRopesModel" "thrown" "I" ∈ wsL_law := wc_7 _ (List.mem_of_getElem? (i := 22) rfl)
theorem m9_167 : Cond.methodLink RX6 84 yX6_save ∈ wsL_law := wc_7 _ (List.mem_of_getElem? (i := 23) rfl)
theorem m9_168 : Cond.instanceMethod yX6_save ∈ wsL_law := wc_8 _ (List.mem_of_getElem? (i := 0) rfl)
theorem m9_169 : Cond.selects RX6 yX6_save yX6_save ∈ wsL_law := wc_8 _ (List.mem_of_getElem? (i := 1) rfl)
theorem m9_170 : Cond.code yX6_save cX6_save 2 none ∈ wsL_law := wc_8 _ (List.mem_of_getElem? (i := 2) rfl)
theorem m9_171 : Cond.fieldLink RX6 43 "PennantRopesModel" "savedMany" "I" ∈ wsL_law := wc_8 _ (List.mem_of_getElem? (i := 3) rfl)
theorem m9_183 : Cond.methodLink RX5 76 yX5_requireLength ∈ wsL_law := wc_8 _ (List.mem_of_getElem? (i := 15) rfl)
theorem m9_184 : Cond.instanceMethod yX5_requireLength ∈ wsL_law := wc_8 _ (List.mem_of_getElem? (i := 16) rfl)
theorem m9_185 : Cond.selects RX5 yX5_requireLength yX5_requireLength ∈ wsL_law := wc_8 _ (List.mem_of_getElem? (i := 17) rfl)
theorem m9_186 : Cond.code yX5_requireLength cX5_requireLength 2 none ∈ wsL_law := wc_8 _ (List.mem_of_getElem? (i := 18) rfl)
theorem m9_187 : Cond.methodLink RX5 79 yX5_requireRoomForRope ∈ wsL_law := wc_8 _ (List.mem_of_getElem? (i := 19) rfl)
theorem m9_188 : Cond.instanceMethod yX5_requireRoomForRope ∈ wsL_law := wc_8 _ (List.mem_of_getElem? (i := 20) rfl)
theorem m9_189 : Cond.selects RX5 yX5_requireRoomForRope yX5_requireRoomForRope ∈ wsL_law := wc_8 _ (List.mem_of_getElem? (i := 21) rfl)
theorem m9_190 : Cond.code yX5_requireRoomForRope cX5_requireRoomForRope 1 none ∈ wsL_law := wc_8 _ (List.mem_of_getElem? (i := 22) rfl)
theorem m9_191 : Cond.methodLink RX5 86 yX3_ropeCount ∈ wsL_law := wc_8 _ (List.mem_of_getElem? (i := 23) rfl)
theorem m9_192 : Cond.instanceMethod yX3_ropeCount ∈ wsL_law := wc_9 _ (List.mem_of_getElem? (i := 0) rfl)
theorem m9_193 : Cond.selects RX3 yX3_ropeCount yX3_ropeCount ∈ wsL_law := wc_9 _ (List.mem_of_getElem? (i := 1) rfl)
theorem m9_194 : Cond.code yX3_ropeCount cX3_ropeCount 1 (some .int) ∈ wsL_law := wc_9 _ (List.mem_of_getElem? (i := 2) rfl)
theorem m9_195 : Cond.methodLink RX5 82 yX3_addRope ∈ wsL_law := wc_9 _ (List.mem_of_getElem? (i := 3) rfl)
theorem m9_196 : Cond.instanceMethod yX3_addRope ∈ wsL_law := wc_9 _ (List.mem_of_getElem? (i := 4) rfl)
theorem m9_197 : Cond.selects RX3 yX3_addRope yX3_addRope ∈ wsL_law := wc_9 _ (List.mem_of_getElem? (i := 5) rfl)
theorem m9_198 : Cond.code yX3_addRope cX3_addRope 3 (some (.object "PennantRopes$Rope")) ∈ wsL_law := wc_9 _ (List.mem_of_getElem? (i := 6) rfl)
theorem m9_199 : Cond.methodLink RX3 43 yX2_begin ∈ wsL_law := wc_9 _ (List.mem_of_getElem? (i := 7) rfl)
theorem m9_200 : Cond.instanceMethod yX2_begin ∈ wsL_law := wc_9 _ (List.mem_of_getElem? (i := 8) rfl)
theorem m9_201 : Cond.selects RX2 yX2_begin yX2_begin ∈ wsL_law := wc_9 _ (List.mem_of_getElem? (i := 9) rfl)
theorem m9_202 : Cond.code yX2_begin cX2_begin 3 none ∈ wsL_law := wc_9 _ (List.mem_of_getElem? (i := 10) rfl)
theorem m9_203 : Cond.methodLink RX2 25 Lib.Math.min.name ∈ wsL_law := wc_9 _ (List.mem_of_getElem? (i := 11) rfl)
theorem m9_204 : Cond.static Lib.Math.min.name ∈ wsL_law := wc_9 _ (List.mem_of_getElem? (i := 12) rfl)
theorem m9_205 : Cond.initialized "java/lang/Math" ∈ wsL_law := wc_9 _ (List.mem_of_getElem? (i := 13) rfl)
theorem m9_206 : Cond.code Lib.Math.min.name Lib.Math.min.code 2 (some .int) ∈ wsL_law := wc_9 _ (List.mem_of_getElem? (i := 14) rfl)
theorem m9_207 : Cond.methodLink RX2 31 Lib.Math.max.name ∈ wsL_law := wc_9 _ (List.mem_of_getElem? (i := 15) rfl)
theorem m9_208 : Cond.static Lib.Math.max.name ∈ wsL_law := wc_9 _ (List.mem_of_getElem? (i := 16) rfl)
theorem m9_209 : Cond.code Lib.Math.max.name Lib.Math.max.code 2 (some .int) ∈ wsL_law := wc_9 _ (List.mem_of_getElem? (i := 17) rfl)
theorem m9_214 : Cond.methodLink RX6 87 yX6_adds ∈ wsL_law := wc_9 _ (List.mem_of_getElem? (i := 22) rfl)
theorem m9_215 : Cond.instanceMethod yX6_adds ∈ wsL_law := wc_9 _ (List.mem_of_getElem? (i := 23) rfl)
theorem m9_216 : Cond.selects RX6 yX6_adds yX6_adds ∈ wsL_law := wc_10 _ (List.mem_of_getElem? (i := 0) rfl)
theorem m9_217 : Cond.code yX6_adds cX6_adds 2 none ∈ wsL_law := wc_10 _ (List.mem_of_getElem? (i := 1) rfl)
theorem m9_218 : Cond.methodLink RX6 66 yX6_clears ∈ wsL_law := wc_10 _ (List.mem_of_getElem? (i := 2) rfl)
theorem m9_219 : Cond.instanceMethod yX6_clears ∈ wsL_law := wc_10 _ (List.mem_of_getElem? (i := 3) rfl)
theorem m9_220 : Cond.selects RX6 yX6_clears yX6_clears ∈ wsL_law := wc_10 _ (List.mem_of_getElem? (i := 4) rfl)
theorem m9_221 : Cond.code yX6_clears cX6_clears 4 none ∈ wsL_law := wc_10 _ (List.mem_of_getElem? (i := 5) rfl)
theorem m9_229 : Cond.methodLink RX5 90 yX5_existing ∈ wsL_law := wc_10 _ (List.mem_of_getElem? (i := 13) rfl)
theorem m9_230 : Cond.instanceMethod yX5_existing ∈ wsL_law := wc_10 _ (List.mem_of_getElem? (i := 14) rfl)
theorem m9_231 : Cond.selects RX5 yX5_existing yX5_existing ∈ wsL_law := wc_10 _ (List.mem_of_getElem? (i := 15) rfl)
theorem m9_232 : Cond.code yX5_existing cX5_existing 3 (some (.object "PennantRopes$Rope")) ∈ wsL_law := wc_10 _ (List.mem_of_getElem? (i := 16) rfl)
theorem m9_233 : Cond.methodLink RX5 268 yX3_ropeAt ∈ wsL_law := wc_10 _ (List.mem_of_getElem? (i := 17) rfl)
theorem m9_234 : Cond.methodLink RX5 93 yX3_removeRope ∈ wsL_law := wc_10 _ (List.mem_of_getElem? (i := 18) rfl)
theorem m9_235 : Cond.instanceMethod yX3_removeRope ∈ wsL_law := wc_10 _ (List.mem_of_getElem? (i := 19) rfl)
theorem m9_236 : Cond.selects RX3 yX3_removeRope yX3_removeRope ∈ wsL_law := wc_10 _ (List.mem_of_getElem? (i := 20) rfl)
theorem m9_237 : Cond.code yX3_removeRope cX3_removeRope 4 none ∈ wsL_law := wc_10 _ (List.mem_of_getElem? (i := 21) rfl)
theorem m9_242 : Cond.methodLink RX6 90 yX6_isRope ∈ wsL_law := wc_11 _ (List.mem_of_getElem? (i := 2) rfl)
theorem m9_243 : Cond.instanceMethod yX6_isRope ∈ wsL_law := wc_11 _ (List.mem_of_getElem? (i := 3) rfl)
theorem m9_244 : Cond.selects RX6 yX6_isRope yX6_isRope ∈ wsL_law := wc_11 _ (List.mem_of_getElem? (i := 4) rfl)
theorem m9_245 : Cond.code yX6_isRope cX6_isRope 2 (some .boolean) ∈ wsL_law := wc_11 _ (List.mem_of_getElem? (i := 5) rfl)
theorem m9_246 : Cond.methodLink RX6 93 yX6_drops ∈ wsL_law := wc_11 _ (List.mem_of_getElem? (i := 6) rfl)
theorem m9_247 : Cond.instanceMethod yX6_drops ∈ wsL_law := wc_11 _ (List.mem_of_getElem? (i := 7) rfl)
theorem m9_248 : Cond.selects RX6 yX6_drops yX6_drops ∈ wsL_law := wc_11 _ (List.mem_of_getElem? (i := 8) rfl)
theorem m9_249 : Cond.code yX6_drops cX6_drops 3 none ∈ wsL_law := wc_11 _ (List.mem_of_getElem? (i := 9) rfl)
theorem m9_257 : Cond.methodLink RX5 96 yX5_requirePhase ∈ wsL_law := wc_11 _ (List.mem_of_getElem? (i := 17) rfl)
theorem m9_258 : Cond.instanceMethod yX5_requirePhase ∈ wsL_law := wc_11 _ (List.mem_of_getElem? (i := 18) rfl)
theorem m9_259 : Cond.selects RX5 yX5_requirePhase yX5_requirePhase ∈ wsL_law := wc_11 _ (List.mem_of_getElem? (i := 19) rfl)
theorem m9_260 : Cond.code yX5_requirePhase cX5_requirePhase 3 none ∈ wsL_law := wc_11 _ (List.mem_of_getElem? (i := 20) rfl)
theorem m9_261 : Cond.methodLink RX5 99 yX2_reasonAgainst ∈ wsL_law := wc_11 _ (List.mem_of_getElem? (i := 21) rfl)
theorem m9_262 : Cond.instanceMethod yX2_reasonAgainst ∈ wsL_law := wc_11 _ (List.mem_of_getElem? (i := 22) rfl)
theorem m9_263 : Cond.selects RX2 yX2_reasonAgainst yX2_reasonAgainst ∈ wsL_law := wc_11 _ (List.mem_of_getElem? (i := 23) rfl)
theorem m9_264 : Cond.code yX2_reasonAgainst cX2_reasonAgainst 6 (some .int) ∈ wsL_law := wc_12 _ (List.mem_of_getElem? (i := 0) rfl)
theorem m9_265 : Cond.methodLink RX2 38 yX2_orderOf ∈ wsL_law := wc_12 _ (List.mem_of_getElem? (i := 1) rfl)
theorem m9_266 : Cond.methodLink RX2 34 yX2_colourAt ∈ wsL_law := wc_12 _ (List.mem_of_getElem? (i := 2) rfl)
theorem m9_267 : Cond.instanceMethod yX2_colourAt ∈ wsL_law := wc_12 _ (List.mem_of_getElem? (i := 3) rfl)
theorem m9_268 : Cond.selects RX2 yX2_colourAt yX2_colourAt ∈ wsL_law := wc_12 _ (List.mem_of_getElem? (i := 4) rfl)
theorem m9_269 : Cond.code yX2_colourAt cX2_colourAt 2 (some .int) ∈ wsL_law := wc_12 _ (List.mem_of_getElem? (i := 5) rfl)
theorem m9_270 : Cond.methodLink RX5 105 yX3_layOn ∈ wsL_law := wc_12 _ (List.mem_of_getElem? (i := 6) rfl)
theorem m9_271 : Cond.instanceMethod yX3_layOn ∈ wsL_law := wc_12 _ (List.mem_of_getElem? (i := 7) rfl)
theorem m9_272 : Cond.selects RX3 yX3_layOn yX3_layOn ∈ wsL_law := wc_12 _ (List.mem_of_getElem? (i := 8) rfl)
theorem m9_273 : Cond.code yX3_layOn cX3_layOn 4 (some .int) ∈ wsL_law := wc_12 _ (List.mem_of_getElem? (i := 9) rfl)
theorem m9_274 : Cond.methodLink RX3 47 yX3_gapAt ∈ wsL_law := wc_12 _ (List.mem_of_getElem? (i := 10) rfl)
theorem m9_275 : Cond.methodLink RX3 51 yX2_put ∈ wsL_law := wc_12 _ (List.mem_of_getElem? (i := 11) rfl)
theorem m9_276 : Cond.instanceMethod yX2_put ∈ wsL_law := wc_12 _ (List.mem_of_getElem? (i := 12) rfl)
theorem m9_277 : Cond.selects RX2 yX2_put yX2_put ∈ wsL_law := wc_12 _ (List.mem_of_getElem? (i := 13) rfl)
theorem m9_278 : Cond.code yX2_put cX2_put 7 (some .int) ∈ wsL_law := wc_12 _ (List.mem_of_getElem? (i := 14) rfl)
theorem m9_279 : Cond.methodLink RX2 41 yX2_setColour ∈ wsL_law := wc_12 _ (List.mem_of_getElem? (i := 15) rfl)
theorem m9_280 : Cond.instanceMethod yX2_setColour ∈ wsL_law := wc_12 _ (List.mem_of_getElem? (i := 16) rfl)
theorem m9_281 : Cond.selects RX2 yX2_setColour yX2_setColour ∈ wsL_law := wc_12 _ (List.mem_of_getElem? (i := 17) rfl)
theorem m9_282 : Cond.code yX2_setColour cX2_setColour 3 none ∈ wsL_law := wc_12 _ (List.mem_of_getElem? (i := 18) rfl)
theorem m9_287 : Cond.methodLink RX6 96 yX6_areThere ∈ wsL_law := wc_12 _ (List.mem_of_getElem? (i := 23) rfl)
theorem m9_288 : Cond.instanceMethod yX6_areThere ∈ wsL_law := wc_13 _ (List.mem_of_getElem? (i := 0) rfl)
theorem m9_289 : Cond.selects RX6 yX6_areThere yX6_areThere ∈ wsL_law := wc_13 _ (List.mem_of_getElem? (i := 1) rfl)
theorem m9_290 : Cond.code yX6_areThere cX6_areThere 3 (some .boolean) ∈ wsL_law := wc_13 _ (List.mem_of_getElem? (i := 2) rfl)
theorem m9_291 : Cond.methodLink RX6 99 yX6_isPhase ∈ wsL_law := wc_13 _ (List.mem_of_getElem? (i := 3) rfl)
theorem m9_292 : Cond.instanceMethod yX6_isPhase ∈ wsL_law := wc_13 _ (List.mem_of_getElem? (i := 4) rfl)
theorem m9_293 : Cond.selects RX6 yX6_isPhase yX6_isPhase ∈ wsL_law := wc_13 _ (List.mem_of_getElem? (i := 5) rfl)
theorem m9_294 : Cond.code yX6_isPhase cX6_isPhase 3 (some .boolean) ∈ wsL_law := wc_13 _ (List.mem_of_getElem? (i := 6) rfl)
theorem m9_295 : Cond.methodLink RX6 102 yX6_why ∈ wsL_law := wc_13 _ (List.mem_of_getElem? (i := 7) rfl)
theorem m9_296 : Cond.instanceMethod yX6_why ∈ wsL_law := wc_13 _ (List.mem_of_getElem? (i := 8) rfl)
theorem m9_297 : Cond.selects RX6 yX6_why yX6_why ∈ wsL_law := wc_13 _ (List.mem_of_getElem? (i := 9) rfl)
theorem m9_298 : Cond.code yX6_why cX6_why 6 (some .int) ∈ wsL_law := wc_13 _ (List.mem_of_getElem? (i := 10) rfl)
theorem m9_299 : Cond.methodLink RX6 63 yX6_hueAt ∈ wsL_law := wc_13 _ (List.mem_of_getElem? (i := 11) rfl)
theorem m9_300 : Cond.instanceMethod yX6_hueAt ∈ wsL_law := wc_13 _ (List.mem_of_getElem? (i := 12) rfl)
theorem m9_301 : Cond.selects RX6 yX6_hueAt yX6_hueAt ∈ wsL_law := wc_13 _ (List.mem_of_getElem? (i := 13) rfl)
theorem m9_302 : Cond.code yX6_hueAt cX6_hueAt 5 (some .int) ∈ wsL_law := wc_13 _ (List.mem_of_getElem? (i := 14) rfl)
theorem m9_303 : Cond.methodLink RX6 46 yX6_takes ∈ wsL_law := wc_13 _ (List.mem_of_getElem? (i := 15) rfl)
theorem m9_304 : Cond.instanceMethod yX6_takes ∈ wsL_law := wc_13 _ (List.mem_of_getElem? (i := 16) rfl)
theorem m9_305 : Cond.selects RX6 yX6_takes yX6_takes ∈ wsL_law := wc_13 _ (List.mem_of_getElem? (i := 17) rfl)
theorem m9_306 : Cond.code yX6_takes cX6_takes 5 (some .boolean) ∈ wsL_law := wc_13 _ (List.mem_of_getElem? (i := 18) rfl)
theorem m9_307 : Cond.methodLink RX6 52 yX6_lays ∈ wsL_law := wc_13 _ (List.mem_of_getElem? (i := 19) rfl)
theorem m9_308 : Cond.instanceMethod yX6_lays ∈ wsL_law := wc_13 _ (List.mem_of_getElem? (i := 20) rfl)
theorem m9_309 : Cond.selects RX6 yX6_lays yX6_lays ∈ wsL_law := wc_13 _ (List.mem_of_getElem? (i := 21) rfl)
theorem m9_310 : Cond.code yX6_lays cX6_lays 4 none ∈ wsL_law := wc_13 _ (List.mem_of_getElem? (i := 22) rfl)
theorem m9_311 : Cond.methodLink RX6 106 yX6_placesOf ∈ wsL_law := wc_13 _ (List.mem_of_getElem? (i := 23) rfl)
theorem m9_312 : Cond.instanceMethod yX6_placesOf ∈ wsL_law := wc_14 _ (List.mem_of_getElem? (i := 0) rfl)
theorem m9_313 : Cond.selects RX6 yX6_placesOf yX6_placesOf ∈ wsL_law := wc_14 _ (List.mem_of_getElem? (i := 1) rfl)
theorem m9_314 : Cond.code yX6_placesOf cX6_placesOf 5 (some .int) ∈ wsL_law := wc_14 _ (List.mem_of_getElem? (i := 2) rfl)
theorem m9_322 : Cond.methodLink RX5 109 yX2_orderOf ∈ wsL_law := wc_14 _ (List.mem_of_getElem? (i := 10) rfl)
theorem m9_323 : Cond.methodLink RX5 114 yX2_remove ∈ wsL_law := wc_14 _ (List.mem_of_getElem? (i := 11) rfl)
theorem m9_324 : Cond.instanceMethod yX2_remove ∈ wsL_law := wc_14 _ (List.mem_of_getElem? (i := 12) rfl)
theorem m9_325 : Cond.selects RX2 yX2_remove yX2_remove ∈ wsL_law := wc_14 _ (List.mem_of_getElem? (i := 13) rfl)
theorem m9_326 : Cond.code yX2_remove cX2_remove 5 (some .int) ∈ wsL_law := wc_14 _ (List.mem_of_getElem? (i := 14) rfl)
theorem m9_327 : Cond.methodLink RX2 45 yX2_placesOf ∈ wsL_law := wc_14 _ (List.mem_of_getElem? (i := 15) rfl)
theorem m9_328 : Cond.instanceMethod yX2_placesOf ∈ wsL_law := wc_14 _ (List.mem_of_getElem? (i := 16) rfl)
theorem m9_329 : Cond.selects RX2 yX2_placesOf yX2_placesOf ∈ wsL_law := wc_14 _ (List.mem_of_getElem? (i := 17) rfl)
theorem m9_330 : Cond.code yX2_placesOf cX2_placesOf 4 (some .int) ∈ wsL_law := wc_14 _ (List.mem_of_getElem? (i := 18) rfl)
theorem m9_335 : Cond.methodLink RX6 109 yX6_takesOff ∈ wsL_law := wc_14 _ (List.mem_of_getElem? (i := 23) rfl)
theorem m9_336 : Cond.instanceMethod yX6_takesOff ∈ wsL_law := wc_15 _ (List.mem_of_getElem? (i := 0) rfl)
theorem m9_337 : Cond.selects RX6 yX6_takesOff yX6_takesOff ∈ wsL_law := wc_15 _ (List.mem_of_getElem? (i := 1) rfl)
theorem m9_338 : Cond.code yX6_takesOff cX6_takesOff 4 none ∈ wsL_law := wc_15 _ (List.mem_of_getElem? (i := 2) rfl)
theorem m9_339 : Cond.methodLink RX6 56 yX6_remembers ∈ wsL_law := wc_15 _ (List.mem_of_getElem? (i := 3) rfl)
theorem m9_340 : Cond.instanceMethod yX6_remembers ∈ wsL_law := wc_15 _ (List.mem_of_getElem? (i := 4) rfl)
theorem m9_341 : Cond.selects RX6 yX6_remembers yX6_remembers ∈ wsL_law := wc_15 _ (List.mem_of_getElem? (i := 5) rfl)
theorem m9_342 : Cond.code yX6_remembers cX6_remembers 3 none ∈ wsL_law := wc_15 _ (List.mem_of_getElem? (i := 6) rfl)
theorem m9_350 : Cond.methodLink RX5 117 yX5_greatestLength ∈ wsL_law := wc_15 _ (List.mem_of_getElem? (i := 14) rfl)
theorem m9_351 : Cond.instanceMethod yX5_greatestLength ∈ wsL_law := wc_15 _ (List.mem_of_getElem? (i := 15) rfl)
theorem m9_352 : Cond.selects RX5 yX5_greatestLength yX5_greatestLength ∈ wsL_law := wc_15 _ (List.mem_of_getElem? (i := 16) rfl)
theorem m9_353 : Cond.code yX5_greatestLength cX5_greatestLength 3 (some .int) ∈ wsL_law := wc_15 _ (List.mem_of_getElem? (i := 17) rfl)
theorem m9_354 : Cond.methodLink RX5 130 yX2_length ∈ wsL_law := wc_15 _ (List.mem_of_getElem? (i := 18) rfl)
theorem m9_355 : Cond.instanceMethod yX2_length ∈ wsL_law := wc_15 _ (List.mem_of_getElem? (i := 19) rfl)
theorem m9_356 : Cond.selects RX2 yX2_length yX2_length ∈ wsL_law := wc_15 _ (List.mem_of_getElem? (i := 20) rfl)
theorem m9_357 : Cond.code yX2_length cX2_length 1 (some .int) ∈ wsL_law := wc_15 _ (List.mem_of_getElem? (i := 21) rfl)
theorem m9_358 : Cond.methodLink RX5 314 yX5_huesDueAt ∈ wsL_law := wc_15 _ (List.mem_of_getElem? (i := 22) rfl)
theorem m9_359 : Cond.instanceMethod yX5_huesDueAt ∈ wsL_law := wc_15 _ (List.mem_of_getElem? (i := 23) rfl)
theorem m9_360 : Cond.selects RX5 yX5_huesDueAt yX5_huesDueAt ∈ wsL_law := wc_16 _ (List.mem_of_getElem? (i := 0) rfl)
theorem m9_361 : Cond.code yX5_huesDueAt cX5_huesDueAt 6 (some .int) ∈ wsL_law := wc_16 _ (List.mem_of_getElem? (i := 1) rfl)
theorem m9_362 : Cond.methodLink RX5 123 yX2_hueCount ∈ wsL_law := wc_16 _ (List.mem_of_getElem? (i := 2) rfl)
theorem m9_363 : Cond.instanceMethod yX2_hueCount ∈ wsL_law := wc_16 _ (List.mem_of_getElem? (i := 3) rfl)
theorem m9_364 : Cond.selects RX2 yX2_hueCount yX2_hueCount ∈ wsL_law := wc_16 _ (List.mem_of_getElem? (i := 4) rfl)
theorem m9_365 : Cond.code yX2_hueCount cX2_hueCount 1 (some .int) ∈ wsL_law := wc_16 _ (List.mem_of_getElem? (i := 5) rfl)
theorem m9_366 : Cond.methodLink RX5 286 yX2_hueAt ∈ wsL_law := wc_16 _ (List.mem_of_getElem? (i := 6) rfl)
theorem m9_367 : Cond.instanceMethod yX2_hueAt ∈ wsL_law := wc_16 _ (List.mem_of_getElem? (i := 7) rfl)
theorem m9_368 : Cond.selects RX2 yX2_hueAt yX2_hueAt ∈ wsL_law := wc_16 _ (List.mem_of_getElem? (i := 8) rfl)
theorem m9_369 : Cond.code yX2_hueAt cX2_hueAt 2 (some .int) ∈ wsL_law := wc_16 _ (List.mem_of_getElem? (i := 9) rfl)
theorem m9_370 : Cond.methodLink RX5 289 yX2_firstFrom ∈ wsL_law := wc_16 _ (List.mem_of_getElem? (i := 10) rfl)
theorem m9_371 : Cond.instanceMethod yX2_firstFrom ∈ wsL_law := wc_16 _ (List.mem_of_getElem? (i := 11) rfl)
theorem m9_372 : Cond.selects RX2 yX2_firstFrom yX2_firstFrom ∈ wsL_law := wc_16 _ (List.mem_of_getElem? (i := 12) rfl)
theorem m9_373 : Cond.code yX2_firstFrom cX2_firstFrom 4 (some .int) ∈ wsL_law := wc_16 _ (List.mem_of_getElem? (i := 13) rfl)
theorem m9_374 : Cond.methodLink RX5 304 yX1_remainder ∈ wsL_law := wc_16 _ (List.mem_of_getElem? (i := 14) rfl)
theorem m9_375 : Cond.static yX1_remainder ∈ wsL_law := wc_16 _ (List.mem_of_getElem? (i := 15) rfl)
theorem m9_376 : Cond.initialized RX1 ∈ wsL_law := wc_16 _ (List.mem_of_getElem? (i := 16) rfl)
theorem m9_377 : Cond.code yX1_remainder cX1_remainder 2 (some .int) ∈ wsL_law := wc_16 _ (List.mem_of_getElem? (i := 17) rfl)
theorem m9_378 : Cond.methodLink RX5 126 yX5_changeLength ∈ wsL_law := wc_16 _ (List.mem_of_getElem? (i := 18) rfl)
theorem m9_379 : Cond.instanceMethod yX5_changeLength ∈ wsL_law := wc_16 _ (List.mem_of_getElem? (i := 19) rfl)
theorem m9_380 : Cond.selects RX5 yX5_changeLength yX5_changeLength ∈ wsL_law := wc_16 _ (List.mem_of_getElem? (i := 20) rfl)
theorem m9_381 : Cond.code yX5_changeLength cX5_changeLength 5 none ∈ wsL_law := wc_16 _ (List.mem_of_getElem? (i := 21) rfl)
theorem m9_382 : Cond.methodLink RX5 283 yX2_begin ∈ wsL_law := wc_16 _ (List.mem_of_getElem? (i := 22) rfl)
theorem m9_383 : Cond.methodLink RX5 292 yX2_put ∈ wsL_law := wc_16 _ (List.mem_of_getElem? (i := 23) rfl)
theorem m9_384 : Cond.methodLink RX5 155 yX2_copyFrom ∈ wsL_law := wc_17 _ (List.mem_of_getElem? (i := 0) rfl)
theorem m9_389 : Cond.methodLink RX6 112 yX6_clash ∈ wsL_law := wc_17 _ (List.mem_of_getElem? (i := 5) rfl)
theorem m9_390 : Cond.instanceMethod yX6_clash ∈ wsL_law := wc_17 _ (List.mem_of_getElem? (i := 6) rfl)
theorem m9_391 : Cond.selects RX6 yX6_clash yX6_clash ∈ wsL_law := wc_17 _ (List.mem_of_getElem? (i := 7) rfl)
theorem m9_392 : Cond.code yX6_clash cX6_clash 3 (some .int) ∈ wsL_law := wc_17 _ (List.mem_of_getElem? (i := 8) rfl)
theorem m9_393 : Cond.methodLink RX6 49 yX6_takers ∈ wsL_law := wc_17 _ (List.mem_of_getElem? (i := 9) rfl)
theorem m9_394 : Cond.instanceMethod yX6_takers ∈ wsL_law := wc_17 _ (List.mem_of_getElem? (i := 10) rfl)
theorem m9_395 : Cond.selects RX6 yX6_takers yX6_takers ∈ wsL_law := wc_17 _ (List.mem_of_getElem? (i := 11) rfl)
theorem m9_396 : Cond.code yX6_takers cX6_takers 5 (some .int) ∈ wsL_law := wc_17 _ (List.mem_of_getElem? (i := 12) rfl)
theorem m9_397 : Cond.methodLink RX6 116 yX6_laysFrom ∈ wsL_law := wc_17 _ (List.mem_of_getElem? (i := 13) rfl)
theorem m9_398 : Cond.instanceMethod yX6_laysFrom ∈ wsL_law := wc_17 _ (List.mem_of_getElem? (i := 14) rfl)
theorem m9_399 : Cond.selects RX6 yX6_laysFrom yX6_laysFrom ∈ wsL_law := wc_17 _ (List.mem_of_getElem? (i := 15) rfl)
theorem m9_400 : Cond.code yX6_laysFrom cX6_laysFrom 6 none ∈ wsL_law := wc_17 _ (List.mem_of_getElem? (i := 16) rfl)
theorem m9_408 : Cond.methodLink RX5 135 yX5_layBack ∈ wsL_law := wc_18 _ (List.mem_of_getElem? (i := 0) rfl)
theorem m9_409 : Cond.instanceMethod yX5_layBack ∈ wsL_law := wc_18 _ (List.mem_of_getElem? (i := 1) rfl)
theorem m9_410 : Cond.selects RX5 yX5_layBack yX5_layBack ∈ wsL_law := wc_18 _ (List.mem_of_getElem? (i := 2) rfl)
theorem m9_411 : Cond.code yX5_layBack cX5_layBack 7 none ∈ wsL_law := wc_18 _ (List.mem_of_getElem? (i := 3) rfl)
theorem m9_412 : Cond.methodLink RX5 139 yX3_countCut ∈ wsL_law := wc_18 _ (List.mem_of_getElem? (i := 4) rfl)
theorem m9_413 : Cond.instanceMethod yX3_countCut ∈ wsL_law := wc_18 _ (List.mem_of_getElem? (i := 5) rfl)
theorem m9_414 : Cond.selects RX3 yX3_countCut yX3_countCut ∈ wsL_law := wc_18 _ (List.mem_of_getElem? (i := 6) rfl)
theorem m9_415 : Cond.code yX3_countCut cX3_countCut 1 none ∈ wsL_law := wc_18 _ (List.mem_of_getElem? (i := 7) rfl)
theorem m9_427 : Cond.methodLink RX5 142 yX5_turnRound ∈ wsL_law := wc_18 _ (List.mem_of_getElem? (i := 19) rfl)
theorem m9_428 : Cond.instanceMethod yX5_turnRound ∈ wsL_law := wc_18 _ (List.mem_of_getElem? (i := 20) rfl)
theorem m9_429 : Cond.selects RX5 yX5_turnRound yX5_turnRound ∈ wsL_law := wc_18 _ (List.mem_of_getElem? (i := 21) rfl)
theorem m9_430 : Cond.code yX5_turnRound cX5_turnRound 4 (some .int) ∈ wsL_law := wc_18 _ (List.mem_of_getElem? (i := 22) rfl)
theorem m9_431 : Cond.methodLink RX5 295 yX2_lastOf ∈ wsL_law := wc_18 _ (List.mem_of_getElem? (i := 23) rfl)
theorem m9_432 : Cond.instanceMethod yX2_lastOf ∈ wsL_law := wc_19 _ (List.mem_of_getElem? (i := 0) rfl)
theorem m9_433 : Cond.selects RX2 yX2_lastOf yX2_lastOf ∈ wsL_law := wc_19 _ (List.mem_of_getElem? (i := 1) rfl)
theorem m9_434 : Cond.code yX2_lastOf cX2_lastOf 3 (some .int) ∈ wsL_law := wc_19 _ (List.mem_of_getElem? (i := 2) rfl)
theorem m9_435 : Cond.methodLink RX5 298 yX2_differences ∈ wsL_law := wc_19 _ (List.mem_of_getElem? (i := 3) rfl)
theorem m9_436 : Cond.instanceMethod yX2_differences ∈ wsL_law := wc_19 _ (List.mem_of_getElem? (i := 4) rfl)
theorem m9_437 : Cond.selects RX2 yX2_differences yX2_differences ∈ wsL_law := wc_19 _ (List.mem_of_getElem? (i := 5) rfl)
theorem m9_438 : Cond.code yX2_differences cX2_differences 4 (some .int) ∈ wsL_law := wc_19 _ (List.mem_of_getElem? (i := 6) rfl)
theorem m9_443 : Cond.methodLink RX6 119 yX6_unlikeTurned ∈ wsL_law := wc_19 _ (List.mem_of_getElem? (i := 11) rfl)
theorem m9_444 : Cond.instanceMethod yX6_unlikeTurned ∈ wsL_law := wc_19 _ (List.mem_of_getElem? (i := 12) rfl)
theorem m9_445 : Cond.selects RX6 yX6_unlikeTurned yX6_unlikeTurned ∈ wsL_law := wc_19 _ (List.mem_of_getElem? (i := 13) rfl)
theorem m9_446 : Cond.code yX6_unlikeTurned cX6_unlikeTurned 4 (some .int) ∈ wsL_law := wc_19 _ (List.mem_of_getElem? (i := 14) rfl)
theorem m9_447 : Cond.methodLink RX6 122 yX6_turns ∈ wsL_law := wc_19 _ (List.mem_of_getElem? (i := 15) rfl)
theorem m9_448 : Cond.instanceMethod yX6_turns ∈ wsL_law := wc_19 _ (List.mem_of_getElem? (i := 16) rfl)
theorem m9_449 : Cond.selects RX6 yX6_turns yX6_turns ∈ wsL_law := wc_19 _ (List.mem_of_getElem? (i := 17) rfl)
theorem m9_450 : Cond.code yX6_turns cX6_turns 4 none ∈ wsL_law := wc_19 _ (List.mem_of_getElem? (i := 18) rfl)
theorem m9_451 : Cond.methodLink RX6 60 yX6_lastOf ∈ wsL_law := wc_19 _ (List.mem_of_getElem? (i := 19) rfl)
theorem m9_452 : Cond.instanceMethod yX6_lastOf ∈ wsL_law := wc_19 _ (List.mem_of_getElem? (i := 20) rfl)
theorem m9_453 : Cond.selects RX6 yX6_lastOf yX6_lastOf ∈ wsL_law := wc_19 _ (List.mem_of_getElem? (i := 21) rfl)
theorem m9_454 : Cond.code yX6_lastOf cX6_lastOf 5 (some .int) ∈ wsL_law := wc_19 _ (List.mem_of_getElem? (i := 22) rfl)
theorem m9_462 : Cond.methodLink RX5 145 yX5_reasonAgainstJoining ∈ wsL_law := wc_20 _ (List.mem_of_getElem? (i := 6) rfl)
theorem m9_463 : Cond.instanceMethod yX5_reasonAgainstJoining ∈ wsL_law := wc_20 _ (List.mem_of_getElem? (i := 7) rfl)
theorem m9_464 : Cond.selects RX5 yX5_reasonAgainstJoining yX5_reasonAgainstJoining ∈ wsL_law := wc_20 _ (List.mem_of_getElem? (i := 8) rfl)
theorem m9_465 : Cond.code yX5_reasonAgainstJoining cX5_reasonAgainstJoining 6 (some .int) ∈ wsL_law := wc_20 _ (List.mem_of_getElem? (i := 9) rfl)
theorem m9_466 : Cond.methodLink RX5 151 yX5_draftJoined ∈ wsL_law := wc_20 _ (List.mem_of_getElem? (i := 10) rfl)
theorem m9_467 : Cond.instanceMethod yX5_draftJoined ∈ wsL_law := wc_20 _ (List.mem_of_getElem? (i := 11) rfl)
theorem m9_468 : Cond.selects RX5 yX5_draftJoined yX5_draftJoined ∈ wsL_law := wc_20 _ (List.mem_of_getElem? (i := 12) rfl)
theorem m9_469 : Cond.code yX5_draftJoined cX5_draftJoined 7 (some .boolean) ∈ wsL_law := wc_20 _ (List.mem_of_getElem? (i := 13) rfl)
theorem m9_470 : Cond.methodLink RX5 301 yX5_draftLaid ∈ wsL_law := wc_20 _ (List.mem_of_getElem? (i := 14) rfl)
theorem m9_471 : Cond.instanceMethod yX5_draftLaid ∈ wsL_law := wc_20 _ (List.mem_of_getElem? (i := 15) rfl)
theorem m9_472 : Cond.selects RX5 yX5_draftLaid yX5_draftLaid ∈ wsL_law := wc_20 _ (List.mem_of_getElem? (i := 16) rfl)
theorem m9_473 : Cond.code yX5_draftLaid cX5_draftLaid 4 (some .boolean) ∈ wsL_law := wc_20 _ (List.mem_of_getElem? (i := 17) rfl)
theorem m9_474 : Cond.methodLink RX5 159 yX3_countJoin ∈ wsL_law := wc_20 _ (List.mem_of_getElem? (i := 18) rfl)
theorem m9_475 : Cond.instanceMethod yX3_countJoin ∈ wsL_law := wc_20 _ (List.mem_of_getElem? (i := 19) rfl)
theorem m9_476 : Cond.selects RX3 yX3_countJoin yX3_countJoin ∈ wsL_law := wc_20 _ (List.mem_of_getElem? (i := 20) rfl)
theorem m9_477 : Cond.code yX3_countJoin cX3_countJoin 1 none ∈ wsL_law := wc_20 _ (List.mem_of_getElem? (i := 21) rfl)
theorem m9_482 : Cond.methodLink RX6 137 yX6_whyNotJoined ∈ wsL_law := wc_21 _ (List.mem_of_getElem? (i := 2) rfl)
theorem m9_483 : Cond.instanceMethod yX6_whyNotJoined ∈ wsL_law := wc_21 _ (List.mem_of_getElem? (i := 3) rfl)
theorem m9_484 : Cond.selects RX6 yX6_whyNotJoined yX6_whyNotJoined ∈ wsL_law := wc_21 _ (List.mem_of_getElem? (i := 4) rfl)
theorem m9_485 : Cond.code yX6_whyNotJoined cX6_whyNotJoined 6 (some .int) ∈ wsL_law := wc_21 _ (List.mem_of_getElem? (i := 5) rfl)
theorem m9_486 : Cond.methodLink RX6 125 yX6_phaseBehind ∈ wsL_law := wc_21 _ (List.mem_of_getElem? (i := 6) rfl)
theorem m9_487 : Cond.instanceMethod yX6_phaseBehind ∈ wsL_law := wc_21 _ (List.mem_of_getElem? (i := 7) rfl)
theorem m9_488 : Cond.selects RX6 yX6_phaseBehind yX6_phaseBehind ∈ wsL_law := wc_21 _ (List.mem_of_getElem? (i := 8) rfl)
theorem m9_489 : Cond.code yX6_phaseBehind cX6_phaseBehind 4 (some .int) ∈ wsL_law := wc_21 _ (List.mem_of_getElem? (i := 9) rfl)
theorem m9_490 : Cond.methodLink RX6 128 yX6_putAside ∈ wsL_law := wc_21 _ (List.mem_of_getElem? (i := 10) rfl)
theorem m9_491 : Cond.instanceMethod yX6_putAside ∈ wsL_law := wc_21 _ (List.mem_of_getElem? (i := 11) rfl)
theorem m9_492 : Cond.selects RX6 yX6_putAside yX6_putAside ∈ wsL_law := wc_21 _ (List.mem_of_getElem? (i := 12) rfl)
theorem m9_493 : Cond.code yX6_putAside cX6_putAside 2 none ∈ wsL_law := wc_21 _ (List.mem_of_getElem? (i := 13) rfl)
theorem m9_494 : Cond.methodLink RX6 131 yX6_joinsWith ∈ wsL_law := wc_21 _ (List.mem_of_getElem? (i := 14) rfl)
theorem m9_495 : Cond.instanceMethod yX6_joinsWith ∈ wsL_law := wc_21 _ (List.mem_of_getElem? (i := 15) rfl)
theorem m9_496 : Cond.selects RX6 yX6_joinsWith yX6_joinsWith ∈ wsL_law := wc_21 _ (List.mem_of_getElem? (i := 16) rfl)
theorem m9_497 : Cond.code yX6_joinsWith cX6_joinsWith 5 none ∈ wsL_law := wc_21 _ (List.mem_of_getElem? (i := 17) rfl)
theorem m9_498 : Cond.methodLink RX6 134 yX6_putBack ∈ wsL_law := wc_21 _ (List.mem_of_getElem? (i := 18) rfl)
theorem m9_499 : Cond.instanceMethod yX6_putBack ∈ wsL_law := wc_21 _ (List.mem_of_getElem? (i := 19) rfl)
theorem m9_500 : Cond.selects RX6 yX6_putBack yX6_putBack ∈ wsL_law := wc_21 _ (List.mem_of_getElem? (i := 20) rfl)
theorem m9_501 : Cond.code yX6_putBack cX6_putBack 2 none ∈ wsL_law := wc_21 _ (List.mem_of_getElem? (i := 21) rfl)
theorem m9_509 : Cond.methodLink RX5 164 yX4_isFull ∈ wsL_law := wc_22 _ (List.mem_of_getElem? (i := 5) rfl)
theorem m9_510 : Cond.instanceMethod yX4_isFull ∈ wsL_law := wc_22 _ (List.mem_of_getElem? (i := 6) rfl)
theorem m9_511 : Cond.selects RX4 yX4_isFull yX4_isFull ∈ wsL_law := wc_22 _ (List.mem_of_getElem? (i := 7) rfl)
theorem m9_512 : Cond.code yX4_isFull cX4_isFull 1 (some .boolean) ∈ wsL_law := wc_22 _ (List.mem_of_getElem? (i := 8) rfl)
theorem m9_513 : Cond.methodLink RX5 170 yX4_add ∈ wsL_law := wc_22 _ (List.mem_of_getElem? (i := 9) rfl)
theorem m9_514 : Cond.instanceMethod yX4_add ∈ wsL_law := wc_22 _ (List.mem_of_getElem? (i := 10) rfl)
theorem m9_515 : Cond.selects RX4 yX4_add yX4_add ∈ wsL_law := wc_22 _ (List.mem_of_getElem? (i := 11) rfl)
theorem m9_516 : Cond.code yX4_add cX4_add 2 none ∈ wsL_law := wc_22 _ (List.mem_of_getElem? (i := 12) rfl)
theorem m9_517 : Cond.methodLink RX5 173 yX4_length ∈ wsL_law := wc_22 _ (List.mem_of_getElem? (i := 13) rfl)
theorem m9_518 : Cond.instanceMethod yX4_length ∈ wsL_law := wc_22 _ (List.mem_of_getElem? (i := 14) rfl)
theorem m9_519 : Cond.selects RX4 yX4_length yX4_length ∈ wsL_law := wc_22 _ (List.mem_of_getElem? (i := 15) rfl)
theorem m9_520 : Cond.code yX4_length cX4_length 1 (some .int) ∈ wsL_law := wc_22 _ (List.mem_of_getElem? (i := 16) rfl)
theorem m9_525 : Cond.fieldLink RX6 140 "PennantRopesModel" "length" "I" ∈ wsL_law := wc_22 _ (List.mem_of_getElem? (i := 21) rfl)
theorem m9_530 : Cond.methodLink RX5 174 yX4_empty ∈ wsL_law := wc_23 _ (List.mem_of_getElem? (i := 2) rfl)
theorem m9_531 : Cond.instanceMethod yX4_empty ∈ wsL_law := wc_23 _ (List.mem_of_getElem? (i := 3) rfl)
theorem m9_532 : Cond.selects RX4 yX4_empty yX4_empty ∈ wsL_law := wc_23 _ (List.mem_of_getElem? (i := 4) rfl)
theorem m9_533 : Cond.code yX4_empty cX4_empty 1 none ∈ wsL_law := wc_23 _ (List.mem_of_getElem? (i := 5) rfl)
theorem m9_542 : Cond.methodLink RX5 177 yX4_firstWrong ∈ wsL_law := wc_23 _ (List.mem_of_getElem? (i := 14) rfl)
theorem m9_543 : Cond.instanceMethod yX4_firstWrong ∈ wsL_law := wc_23 _ (List.mem_of_getElem? (i := 15) rfl)
theorem m9_544 : Cond.selects RX4 yX4_firstWrong yX4_firstWrong ∈ wsL_law := wc_23 _ (List.mem_of_getElem? (i := 16) rfl)
theorem m9_545 : Cond.code yX4_firstWrong cX4_firstWrong 3 (some .int) ∈ wsL_law := wc_23 _ (List.mem_of_getElem? (i := 17) rfl)
theorem m9_546 : Cond.methodLink RX4 19 yX4_codeAt ∈ wsL_law := wc_23 _ (List.mem_of_getElem? (i := 18) rfl)
theorem m9_547 : Cond.instanceMethod yX4_codeAt ∈ wsL_law := wc_23 _ (List.mem_of_getElem? (i := 19) rfl)
theorem m9_548 : Cond.selects RX4 yX4_codeAt yX4_codeAt ∈ wsL_law := wc_23 _ (List.mem_of_getElem? (i := 20) rfl)
theorem m9_549 : Cond.code yX4_codeAt cX4_codeAt 2 (some .int) ∈ wsL_law := wc_23 _ (List.mem_of_getElem? (i := 21) rfl)
theorem m9_550 : Cond.methodLink RX4 23 yX4_dueBehind ∈ wsL_law := wc_23 _ (List.mem_of_getElem? (i := 22) rfl)
theorem m9_551 : Cond.static yX4_dueBehind ∈ wsL_law := wc_23 _ (List.mem_of_getElem? (i := 23) rfl)
theorem m9_552 : Cond.code yX4_dueBehind cX4_dueBehind 2 (some .int) ∈ wsL_law := wc_24 _ (List.mem_of_getElem? (i := 0) rfl)
theorem m9_553 : Cond.methodLink RX4 27 yX4_dueBehindFirst ∈ wsL_law := wc_24 _ (List.mem_of_getElem? (i := 1) rfl)
theorem m9_554 : Cond.static yX4_dueBehindFirst ∈ wsL_law := wc_24 _ (List.mem_of_getElem? (i := 2) rfl)
theorem m9_555 : Cond.code yX4_dueBehindFirst cX4_dueBehindFirst 1 (some .int) ∈ wsL_law := wc_24 _ (List.mem_of_getElem? (i := 3) rfl)
theorem m9_556 : Cond.methodLink RX4 36 yX4_isHue ∈ wsL_law := wc_24 _ (List.mem_of_getElem? (i := 4) rfl)
theorem m9_557 : Cond.static yX4_isHue ∈ wsL_law := wc_24 _ (List.mem_of_getElem? (i := 5) rfl)
theorem m9_558 : Cond.code yX4_isHue cX4_isHue 1 (some .boolean) ∈ wsL_law := wc_24 _ (List.mem_of_getElem? (i := 6) rfl)
theorem m9_559 : Cond.methodLink RX4 40 yX4_isBetween ∈ wsL_law := wc_24 _ (List.mem_of_getElem? (i := 7) rfl)
theorem m9_560 : Cond.static yX4_isBetween ∈ wsL_law := wc_24 _ (List.mem_of_getElem? (i := 8) rfl)
theorem m9_561 : Cond.code yX4_isBetween cX4_isBetween 3 (some .boolean) ∈ wsL_law := wc_24 _ (List.mem_of_getElem? (i := 9) rfl)
theorem m9_562 : Cond.methodLink RX4 30 yX4_dueBehindLengthDigit ∈ wsL_law := wc_24 _ (List.mem_of_getElem? (i := 10) rfl)
theorem m9_563 : Cond.static yX4_dueBehindLengthDigit ∈ wsL_law := wc_24 _ (List.mem_of_getElem? (i := 11) rfl)
theorem m9_564 : Cond.code yX4_dueBehindLengthDigit cX4_dueBehindLengthDigit 1 (some .int) ∈ wsL_law := wc_24 _ (List.mem_of_getElem? (i := 12) rfl)
theorem m9_565 : Cond.methodLink RX4 33 yX4_dueBehindPhaseDigit ∈ wsL_law := wc_24 _ (List.mem_of_getElem? (i := 13) rfl)
theorem m9_566 : Cond.static yX4_dueBehindPhaseDigit ∈ wsL_law := wc_24 _ (List.mem_of_getElem? (i := 14) rfl)
theorem m9_567 : Cond.code yX4_dueBehindPhaseDigit cX4_dueBehindPhaseDigit 1 (some .int) ∈ wsL_law := wc_24 _ (List.mem_of_getElem? (i := 15) rfl)
theorem m9_568 : Cond.methodLink RX4 44 yX4_dueBehindComma ∈ wsL_law := wc_24 _ (List.mem_of_getElem? (i := 16) rfl)
theorem m9_569 : Cond.static yX4_dueBehindComma ∈ wsL_law := wc_24 _ (List.mem_of_getElem? (i := 17) rfl)
theorem m9_570 : Cond.code yX4_dueBehindComma cX4_dueBehindComma 1 (some .int) ∈ wsL_law := wc_24 _ (List.mem_of_getElem? (i := 18) rfl)
theorem m9_575 : Cond.fieldLink RX6 143 "PennantRopesModel" "isWrong" "Z" ∈ wsL_law := wc_24 _ (List.mem_of_getElem? (i := 23) rfl)
theorem m9_576 : Cond.fieldLink RX6 147 "PennantRopesModel" "position" "I" ∈ wsL_law := wc_25 _ (List.mem_of_getElem? (i := 0) rfl)
theorem m9_577 : Cond.methodLink RX6 175 yX6_goes ∈ wsL_law := wc_25 _ (List.mem_of_getElem? (i := 1) rfl)
theorem m9_578 : Cond.instanceMethod yX6_goes ∈ wsL_law := wc_25 _ (List.mem_of_getElem? (i := 2) rfl)
theorem m9_579 : Cond.selects RX6 yX6_goes yX6_goes ∈ wsL_law := wc_25 _ (List.mem_of_getElem? (i := 3) rfl)
theorem m9_580 : Cond.code yX6_goes cX6_goes 6 (some .int) ∈ wsL_law := wc_25 _ (List.mem_of_getElem? (i := 4) rfl)
theorem m9_581 : Cond.methodLink RX6 168 yX6_readsPart ∈ wsL_law := wc_25 _ (List.mem_of_getElem? (i := 5) rfl)
theorem m9_582 : Cond.instanceMethod yX6_readsPart ∈ wsL_law := wc_25 _ (List.mem_of_getElem? (i := 6) rfl)
theorem m9_583 : Cond.selects RX6 yX6_readsPart yX6_readsPart ∈ wsL_law := wc_25 _ (List.mem_of_getElem? (i := 7) rfl)
theorem m9_584 : Cond.code yX6_readsPart cX6_readsPart 2 none ∈ wsL_law := wc_25 _ (List.mem_of_getElem? (i := 8) rfl)
theorem m9_585 : Cond.fieldLink RX6 156 "PennantRopesModel" "sign" "I" ∈ wsL_law := wc_25 _ (List.mem_of_getElem? (i := 9) rfl)
theorem m9_586 : Cond.fieldLink RX6 162 "PennantRopesModel" "first" "I" ∈ wsL_law := wc_25 _ (List.mem_of_getElem? (i := 10) rfl)
theorem m9_587 : Cond.fieldLink RX6 165 "PennantRopesModel" "second" "I" ∈ wsL_law := wc_25 _ (List.mem_of_getElem? (i := 11) rfl)
theorem m9_588 : Cond.methodLink RX6 159 yX6_readsNumber ∈ wsL_law := wc_25 _ (List.mem_of_getElem? (i := 12) rfl)
theorem m9_589 : Cond.instanceMethod yX6_readsNumber ∈ wsL_law := wc_25 _ (List.mem_of_getElem? (i := 13) rfl)
theorem m9_590 : Cond.selects RX6 yX6_readsNumber yX6_readsNumber ∈ wsL_law := wc_25 _ (List.mem_of_getElem? (i := 14) rfl)
theorem m9_591 : Cond.code yX6_readsNumber cX6_readsNumber 5 (some .int) ∈ wsL_law := wc_25 _ (List.mem_of_getElem? (i := 15) rfl)
theorem m9_592 : Cond.methodLink RX6 150 yX6_reads ∈ wsL_law := wc_25 _ (List.mem_of_getElem? (i := 16) rfl)
theorem m9_593 : Cond.instanceMethod yX6_reads ∈ wsL_law := wc_25 _ (List.mem_of_getElem? (i := 17) rfl)
theorem m9_594 : Cond.selects RX6 yX6_reads yX6_reads ∈ wsL_law := wc_25 _ (List.mem_of_getElem? (i := 18) rfl)
theorem m9_595 : Cond.code yX6_reads cX6_reads 4 (some .int) ∈ wsL_law := wc_25 _ (List.mem_of_getElem? (i := 19) rfl)
theorem m9_596 : Cond.methodLink RX6 153 yX6_isNext ∈ wsL_law := wc_25 _ (List.mem_of_getElem? (i := 20) rfl)
theorem m9_597 : Cond.instanceMethod yX6_isNext ∈ wsL_law := wc_25 _ (List.mem_of_getElem? (i := 21) rfl)
theorem m9_598 : Cond.selects RX6 yX6_isNext yX6_isNext ∈ wsL_law := wc_25 _ (List.mem_of_getElem? (i := 22) rfl)
theorem m9_599 : Cond.code yX6_isNext cX6_isNext 3 (some .boolean) ∈ wsL_law := wc_25 _ (List.mem_of_getElem? (i := 23) rfl)
theorem m9_600 : Cond.methodLink RX6 171 yX6_does ∈ wsL_law := wc_26 _ (List.mem_of_getElem? (i := 0) rfl)
theorem m9_601 : Cond.instanceMethod yX6_does ∈ wsL_law := wc_26 _ (List.mem_of_getElem? (i := 1) rfl)
theorem m9_602 : Cond.selects RX6 yX6_does yX6_does ∈ wsL_law := wc_26 _ (List.mem_of_getElem? (i := 2) rfl)
theorem m9_603 : Cond.code yX6_does cX6_does 2 (some .boolean) ∈ wsL_law := wc_26 _ (List.mem_of_getElem? (i := 3) rfl)
theorem m9_611 : Cond.methodLink RX5 180 yX4_isComplete ∈ wsL_law := wc_26 _ (List.mem_of_getElem? (i := 11) rfl)
theorem m9_612 : Cond.instanceMethod yX4_isComplete ∈ wsL_law := wc_26 _ (List.mem_of_getElem? (i := 12) rfl)
theorem m9_613 : Cond.selects RX4 yX4_isComplete yX4_isComplete ∈ wsL_law := wc_26 _ (List.mem_of_getElem? (i := 13) rfl)
theorem m9_614 : Cond.code yX4_isComplete cX4_isComplete 3 (some .boolean) ∈ wsL_law := wc_26 _ (List.mem_of_getElem? (i := 14) rfl)
theorem m9_615 : Cond.methodLink RX5 185 yX4_partEnd ∈ wsL_law := wc_26 _ (List.mem_of_getElem? (i := 15) rfl)
theorem m9_616 : Cond.instanceMethod yX4_partEnd ∈ wsL_law := wc_26 _ (List.mem_of_getElem? (i := 16) rfl)
theorem m9_617 : Cond.selects RX4 yX4_partEnd yX4_partEnd ∈ wsL_law := wc_26 _ (List.mem_of_getElem? (i := 17) rfl)
theorem m9_618 : Cond.code yX4_partEnd cX4_partEnd 3 (some .int) ∈ wsL_law := wc_26 _ (List.mem_of_getElem? (i := 18) rfl)
theorem m9_619 : Cond.methodLink RX5 188 yX5_playPart ∈ wsL_law := wc_26 _ (List.mem_of_getElem? (i := 19) rfl)
theorem m9_620 : Cond.instanceMethod yX5_playPart ∈ wsL_law := wc_26 _ (List.mem_of_getElem? (i := 20) rfl)
theorem m9_621 : Cond.selects RX5 yX5_playPart yX5_playPart ∈ wsL_law := wc_26 _ (List.mem_of_getElem? (i := 21) rfl)
theorem m9_622 : Cond.code yX5_playPart cX5_playPart 5 (some .boolean) ∈ wsL_law := wc_26 _ (List.mem_of_getElem? (i := 22) rfl)
theorem m9_623 : Cond.methodLink RX5 265 yX4_codeAt ∈ wsL_law := wc_26 _ (List.mem_of_getElem? (i := 23) rfl)
theorem m9_624 : Cond.methodLink RX5 307 yX4_numberIn ∈ wsL_law := wc_27 _ (List.mem_of_getElem? (i := 0) rfl)
theorem m9_625 : Cond.instanceMethod yX4_numberIn ∈ wsL_law := wc_27 _ (List.mem_of_getElem? (i := 1) rfl)
theorem m9_626 : Cond.selects RX4 yX4_numberIn yX4_numberIn ∈ wsL_law := wc_27 _ (List.mem_of_getElem? (i := 2) rfl)
theorem m9_627 : Cond.code yX4_numberIn cX4_numberIn 5 (some .int) ∈ wsL_law := wc_27 _ (List.mem_of_getElem? (i := 3) rfl)
theorem m9_628 : Cond.methodLink RX5 310 yX5_playLaying ∈ wsL_law := wc_27 _ (List.mem_of_getElem? (i := 4) rfl)
theorem m9_629 : Cond.instanceMethod yX5_playLaying ∈ wsL_law := wc_27 _ (List.mem_of_getElem? (i := 5) rfl)
theorem m9_630 : Cond.selects RX5 yX5_playLaying yX5_playLaying ∈ wsL_law := wc_27 _ (List.mem_of_getElem? (i := 6) rfl)
theorem m9_631 : Cond.code yX5_playLaying cX5_playLaying 5 (some .boolean) ∈ wsL_law := wc_27 _ (List.mem_of_getElem? (i := 7) rfl)
theorem m9_643 : Cond.methodLink RX5 192 yX0_size ∈ wsL_law := wc_27 _ (List.mem_of_getElem? (i := 19) rfl)
theorem m9_644 : Cond.instanceMethod yX0_size ∈ wsL_law := wc_27 _ (List.mem_of_getElem? (i := 20) rfl)
theorem m9_645 : Cond.selects RX0 yX0_size yX0_size ∈ wsL_law := wc_27 _ (List.mem_of_getElem? (i := 21) rfl)
theorem m9_646 : Cond.code yX0_size cX0_size 1 (some .int) ∈ wsL_law := wc_27 _ (List.mem_of_getElem? (i := 22) rfl)
theorem m9_647 : Cond.methodLink RX5 197 yX0_restoreLatest ∈ wsL_law := wc_27 _ (List.mem_of_getElem? (i := 23) rfl)
theorem m9_648 : Cond.instanceMethod yX0_restoreLatest ∈ wsL_law := wc_28 _ (List.mem_of_getElem? (i := 0) rfl)
theorem m9_649 : Cond.selects RX0 yX0_restoreLatest yX0_restoreLatest ∈ wsL_law := wc_28 _ (List.mem_of_getElem? (i := 1) rfl)
theorem m9_650 : Cond.code yX0_restoreLatest cX0_restoreLatest 3 none ∈ wsL_law := wc_28 _ (List.mem_of_getElem? (i := 2) rfl)
theorem m9_659 : Cond.methodLink RX5 200 yX3_copyFrom ∈ wsL_law := wc_28 _ (List.mem_of_getElem? (i := 11) rfl)
theorem m9_664 : Cond.fieldLink RX6 179 "PennantRopesModel" "isKept" "Z" ∈ wsL_law := wc_28 _ (List.mem_of_getElem? (i := 16) rfl)
theorem m9_683 : Cond.methodLink RX5 209 yX2_colourAt ∈ wsL_law := wc_29 _ (List.mem_of_getElem? (i := 11) rfl)
theorem m9_695 : Cond.methodLink RX5 212 yX5_requireWhat ∈ wsL_law := wc_29 _ (List.mem_of_getElem? (i := 23) rfl)
theorem m9_696 : Cond.instanceMethod yX5_requireWhat ∈ wsL_law := wc_30 _ (List.mem_of_getElem? (i := 0) rfl)
theorem m9_697 : Cond.selects RX5 yX5_requireWhat yX5_requireWhat ∈ wsL_law := wc_30 _ (List.mem_of_getElem? (i := 1) rfl)
theorem m9_698 : Cond.code yX5_requireWhat cX5_requireWhat 3 none ∈ wsL_law := wc_30 _ (List.mem_of_getElem? (i := 2) rfl)
theorem m9_699 : Cond.methodLink RX5 215 yX5_ropeNumber ∈ wsL_law := wc_30 _ (List.mem_of_getElem? (i := 3) rfl)
theorem m9_700 : Cond.instanceMethod yX5_ropeNumber ∈ wsL_law := wc_30 _ (List.mem_of_getElem? (i := 4) rfl)
theorem m9_701 : Cond.selects RX5 yX5_ropeNumber yX5_ropeNumber ∈ wsL_law := wc_30 _ (List.mem_of_getElem? (i := 5) rfl)
theorem m9_702 : Cond.code yX5_ropeNumber cX5_ropeNumber 3 (some .int) ∈ wsL_law := wc_30 _ (List.mem_of_getElem? (i := 6) rfl)
theorem m9_703 : Cond.methodLink RX5 326 yX2_placesOf ∈ wsL_law := wc_30 _ (List.mem_of_getElem? (i := 7) rfl)
theorem m9_704 : Cond.methodLink RX5 329 yX2_mostHolesSideBySide ∈ wsL_law := wc_30 _ (List.mem_of_getElem? (i := 8) rfl)
theorem m9_705 : Cond.instanceMethod yX2_mostHolesSideBySide ∈ wsL_law := wc_30 _ (List.mem_of_getElem? (i := 9) rfl)
theorem m9_706 : Cond.selects RX2 yX2_mostHolesSideBySide yX2_mostHolesSideBySide ∈ wsL_law := wc_30 _ (List.mem_of_getElem? (i := 10) rfl)
theorem m9_707 : Cond.code yX2_mostHolesSideBySide cX2_mostHolesSideBySide 4 (some .int) ∈ wsL_law := wc_30 _ (List.mem_of_getElem? (i := 11) rfl)
theorem m9_708 : Cond.methodLink RX5 332 yX5_period ∈ wsL_law := wc_30 _ (List.mem_of_getElem? (i := 12) rfl)
theorem m9_709 : Cond.instanceMethod yX5_period ∈ wsL_law := wc_30 _ (List.mem_of_getElem? (i := 13) rfl)
theorem m9_710 : Cond.selects RX5 yX5_period yX5_period ∈ wsL_law := wc_30 _ (List.mem_of_getElem? (i := 14) rfl)
theorem m9_711 : Cond.code yX5_period cX5_period 4 (some .int) ∈ wsL_law := wc_30 _ (List.mem_of_getElem? (i := 15) rfl)
theorem m9_712 : Cond.methodLink RX5 323 yX1_leastCommonMultiple ∈ wsL_law := wc_30 _ (List.mem_of_getElem? (i := 16) rfl)
theorem m9_713 : Cond.static yX1_leastCommonMultiple ∈ wsL_law := wc_30 _ (List.mem_of_getElem? (i := 17) rfl)
theorem m9_714 : Cond.code yX1_leastCommonMultiple cX1_leastCommonMultiple 3 (some .int) ∈ wsL_law := wc_30 _ (List.mem_of_getElem? (i := 18) rfl)
theorem m9_715 : Cond.methodLink RX1 11 yX1_greatestCommonDivisor ∈ wsL_law := wc_30 _ (List.mem_of_getElem? (i := 19) rfl)
theorem m9_716 : Cond.static yX1_greatestCommonDivisor ∈ wsL_law := wc_30 _ (List.mem_of_getElem? (i := 20) rfl)
theorem m9_717 : Cond.code yX1_greatestCommonDivisor cX1_greatestCommonDivisor 6 (some .int) ∈ wsL_law := wc_30 _ (List.mem_of_getElem? (i := 21) rfl)
theorem m9_722 : Cond.methodLink RX6 197 yX6_toldOfRope ∈ wsL_law := wc_31 _ (List.mem_of_getElem? (i := 2) rfl)
theorem m9_723 : Cond.instanceMethod yX6_toldOfRope ∈ wsL_law := wc_31 _ (List.mem_of_getElem? (i := 3) rfl)
theorem m9_724 : Cond.selects RX6 yX6_toldOfRope yX6_toldOfRope ∈ wsL_law := wc_31 _ (List.mem_of_getElem? (i := 4) rfl)
theorem m9_725 : Cond.code yX6_toldOfRope cX6_toldOfRope 3 (some .int) ∈ wsL_law := wc_31 _ (List.mem_of_getElem? (i := 5) rfl)
theorem m9_726 : Cond.methodLink RX6 185 yX6_holes ∈ wsL_law := wc_31 _ (List.mem_of_getElem? (i := 6) rfl)
theorem m9_727 : Cond.instanceMethod yX6_holes ∈ wsL_law := wc_31 _ (List.mem_of_getElem? (i := 7) rfl)
theorem m9_728 : Cond.selects RX6 yX6_holes yX6_holes ∈ wsL_law := wc_31 _ (List.mem_of_getElem? (i := 8) rfl)
theorem m9_729 : Cond.code yX6_holes cX6_holes 4 (some .int) ∈ wsL_law := wc_31 _ (List.mem_of_getElem? (i := 9) rfl)
theorem m9_730 : Cond.methodLink RX6 188 yX6_firstHole ∈ wsL_law := wc_31 _ (List.mem_of_getElem? (i := 10) rfl)
theorem m9_731 : Cond.instanceMethod yX6_firstHole ∈ wsL_law := wc_31 _ (List.mem_of_getElem? (i := 11) rfl)
theorem m9_732 : Cond.selects RX6 yX6_firstHole yX6_firstHole ∈ wsL_law := wc_31 _ (List.mem_of_getElem? (i := 12) rfl)
theorem m9_733 : Cond.code yX6_firstHole cX6_firstHole 4 (some .int) ∈ wsL_law := wc_31 _ (List.mem_of_getElem? (i := 13) rfl)
theorem m9_734 : Cond.methodLink RX6 191 yX6_holesSideBySide ∈ wsL_law := wc_31 _ (List.mem_of_getElem? (i := 14) rfl)
theorem m9_735 : Cond.instanceMethod yX6_holesSideBySide ∈ wsL_law := wc_31 _ (List.mem_of_getElem? (i := 15) rfl)
theorem m9_736 : Cond.selects RX6 yX6_holesSideBySide yX6_holesSideBySide ∈ wsL_law := wc_31 _ (List.mem_of_getElem? (i := 16) rfl)
theorem m9_737 : Cond.code yX6_holesSideBySide cX6_holesSideBySide 5 (some .int) ∈ wsL_law := wc_31 _ (List.mem_of_getElem? (i := 17) rfl)
theorem m9_738 : Cond.methodLink RX6 194 yX6_period ∈ wsL_law := wc_31 _ (List.mem_of_getElem? (i := 18) rfl)
theorem m9_739 : Cond.instanceMethod yX6_period ∈ wsL_law := wc_31 _ (List.mem_of_getElem? (i := 19) rfl)
theorem m9_740 : Cond.selects RX6 yX6_period yX6_period ∈ wsL_law := wc_31 _ (List.mem_of_getElem? (i := 20) rfl)
theorem m9_741 : Cond.code yX6_period cX6_period 4 (some .int) ∈ wsL_law := wc_31 _ (List.mem_of_getElem? (i := 21) rfl)
theorem m9_742 : Cond.methodLink RX6 182 yX6_divisor ∈ wsL_law := wc_31 _ (List.mem_of_getElem? (i := 22) rfl)
theorem m9_743 : Cond.static yX6_divisor ∈ wsL_law := wc_31 _ (List.mem_of_getElem? (i := 23) rfl)
theorem m9_744 : Cond.code yX6_divisor cX6_divisor 5 (some .int) ∈ wsL_law := wc_32 _ (List.mem_of_getElem? (i := 0) rfl)
theorem m9_752 : Cond.methodLink RX5 219 yX2_hueNumber ∈ wsL_law := wc_32 _ (List.mem_of_getElem? (i := 8) rfl)
theorem m9_753 : Cond.instanceMethod yX2_hueNumber ∈ wsL_law := wc_32 _ (List.mem_of_getElem? (i := 9) rfl)
theorem m9_754 : Cond.selects RX2 yX2_hueNumber yX2_hueNumber ∈ wsL_law := wc_32 _ (List.mem_of_getElem? (i := 10) rfl)
theorem m9_755 : Cond.code yX2_hueNumber cX2_hueNumber 4 (some .int) ∈ wsL_law := wc_32 _ (List.mem_of_getElem? (i := 11) rfl)
theorem m9_756 : Cond.methodLink RX2 48 yX2_firstFrom ∈ wsL_law := wc_32 _ (List.mem_of_getElem? (i := 12) rfl)
theorem m9_757 : Cond.methodLink RX2 51 yX2_lastOf ∈ wsL_law := wc_32 _ (List.mem_of_getElem? (i := 13) rfl)
theorem m9_762 : Cond.methodLink RX6 203 yX6_toldOfHue ∈ wsL_law := wc_32 _ (List.mem_of_getElem? (i := 18) rfl)
theorem m9_763 : Cond.instanceMethod yX6_toldOfHue ∈ wsL_law := wc_32 _ (List.mem_of_getElem? (i := 19) rfl)
theorem m9_764 : Cond.selects RX6 yX6_toldOfHue yX6_toldOfHue ∈ wsL_law := wc_32 _ (List.mem_of_getElem? (i := 20) rfl)
theorem m9_765 : Cond.code yX6_toldOfHue cX6_toldOfHue 4 (some .int) ∈ wsL_law := wc_32 _ (List.mem_of_getElem? (i := 21) rfl)
theorem m9_766 : Cond.methodLink RX6 200 yX6_orderOf ∈ wsL_law := wc_32 _ (List.mem_of_getElem? (i := 22) rfl)
theorem m9_767 : Cond.instanceMethod yX6_orderOf ∈ wsL_law := wc_32 _ (List.mem_of_getElem? (i := 23) rfl)
theorem m9_768 : Cond.selects RX6 yX6_orderOf yX6_orderOf ∈ wsL_law := wc_33 _ (List.mem_of_getElem? (i := 0) rfl)
theorem m9_769 : Cond.code yX6_orderOf cX6_orderOf 5 (some .int) ∈ wsL_law := wc_33 _ (List.mem_of_getElem? (i := 1) rfl)
theorem m9_788 : Cond.methodLink RX5 223 yX5_counted ∈ wsL_law := wc_33 _ (List.mem_of_getElem? (i := 20) rfl)
theorem m9_789 : Cond.instanceMethod yX5_counted ∈ wsL_law := wc_33 _ (List.mem_of_getElem? (i := 21) rfl)
theorem m9_790 : Cond.selects RX5 yX5_counted yX5_counted ∈ wsL_law := wc_33 _ (List.mem_of_getElem? (i := 22) rfl)
theorem m9_791 : Cond.code yX5_counted cX5_counted 2 (some .int) ∈ wsL_law := wc_33 _ (List.mem_of_getElem? (i := 23) rfl)
theorem m9_792 : Cond.methodLink RX5 241 yX3_places ∈ wsL_law := wc_34 _ (List.mem_of_getElem? (i := 0) rfl)
theorem m9_793 : Cond.instanceMethod yX3_places ∈ wsL_law := wc_34 _ (List.mem_of_getElem? (i := 1) rfl)
theorem m9_794 : Cond.selects RX3 yX3_places yX3_places ∈ wsL_law := wc_34 _ (List.mem_of_getElem? (i := 2) rfl)
theorem m9_795 : Cond.code yX3_places cX3_places 4 (some .int) ∈ wsL_law := wc_34 _ (List.mem_of_getElem? (i := 3) rfl)
theorem m9_796 : Cond.methodLink RX3 55 yX2_length ∈ wsL_law := wc_34 _ (List.mem_of_getElem? (i := 4) rfl)
theorem m9_797 : Cond.methodLink RX5 244 yX3_holes ∈ wsL_law := wc_34 _ (List.mem_of_getElem? (i := 5) rfl)
theorem m9_798 : Cond.instanceMethod yX3_holes ∈ wsL_law := wc_34 _ (List.mem_of_getElem? (i := 6) rfl)
theorem m9_799 : Cond.selects RX3 yX3_holes yX3_holes ∈ wsL_law := wc_34 _ (List.mem_of_getElem? (i := 7) rfl)
theorem m9_800 : Cond.code yX3_holes cX3_holes 4 (some .int) ∈ wsL_law := wc_34 _ (List.mem_of_getElem? (i := 8) rfl)
theorem m9_801 : Cond.methodLink RX3 59 yX2_placesOf ∈ wsL_law := wc_34 _ (List.mem_of_getElem? (i := 9) rfl)
theorem m9_802 : Cond.methodLink RX5 335 yX3_laidHues ∈ wsL_law := wc_34 _ (List.mem_of_getElem? (i := 10) rfl)
theorem m9_803 : Cond.instanceMethod yX3_laidHues ∈ wsL_law := wc_34 _ (List.mem_of_getElem? (i := 11) rfl)
theorem m9_804 : Cond.selects RX3 yX3_laidHues yX3_laidHues ∈ wsL_law := wc_34 _ (List.mem_of_getElem? (i := 12) rfl)
theorem m9_805 : Cond.code yX3_laidHues cX3_laidHues 3 (some .int) ∈ wsL_law := wc_34 _ (List.mem_of_getElem? (i := 13) rfl)
theorem m9_806 : Cond.methodLink RX3 62 yX3_isLaidOnSome ∈ wsL_law := wc_34 _ (List.mem_of_getElem? (i := 14) rfl)
theorem m9_807 : Cond.methodLink RX5 338 yX3_layings ∈ wsL_law := wc_34 _ (List.mem_of_getElem? (i := 15) rfl)
theorem m9_808 : Cond.instanceMethod yX3_layings ∈ wsL_law := wc_34 _ (List.mem_of_getElem? (i := 16) rfl)
theorem m9_809 : Cond.selects RX3 yX3_layings yX3_layings ∈ wsL_law := wc_34 _ (List.mem_of_getElem? (i := 17) rfl)
theorem m9_810 : Cond.code yX3_layings cX3_layings 1 (some .int) ∈ wsL_law := wc_34 _ (List.mem_of_getElem? (i := 18) rfl)
theorem m9_811 : Cond.methodLink RX5 341 yX3_joins ∈ wsL_law := wc_34 _ (List.mem_of_getElem? (i := 19) rfl)
theorem m9_812 : Cond.instanceMethod yX3_joins ∈ wsL_law := wc_34 _ (List.mem_of_getElem? (i := 20) rfl)
theorem m9_813 : Cond.selects RX3 yX3_joins yX3_joins ∈ wsL_law := wc_34 _ (List.mem_of_getElem? (i := 21) rfl)
theorem m9_814 : Cond.code yX3_joins cX3_joins 1 (some .int) ∈ wsL_law := wc_34 _ (List.mem_of_getElem? (i := 22) rfl)
theorem m9_815 : Cond.methodLink RX5 344 yX3_cuts ∈ wsL_law := wc_34 _ (List.mem_of_getElem? (i := 23) rfl)
theorem m9_816 : Cond.instanceMethod yX3_cuts ∈ wsL_law := wc_35 _ (List.mem_of_getElem? (i := 0) rfl)
theorem m9_817 : Cond.selects RX3 yX3_cuts yX3_cuts ∈ wsL_law := wc_35 _ (List.mem_of_getElem? (i := 1) rfl)
theorem m9_818 : Cond.code yX3_cuts cX3_cuts 1 (some .int) ∈ wsL_law := wc_35 _ (List.mem_of_getElem? (i := 2) rfl)
theorem m9_823 : Cond.methodLink RX6 213 yX6_counted ∈ wsL_law := wc_35 _ (List.mem_of_getElem? (i := 7) rfl)
theorem m9_824 : Cond.instanceMethod yX6_counted ∈ wsL_law := wc_35 _ (List.mem_of_getElem? (i := 8) rfl)
theorem m9_825 : Cond.selects RX6 yX6_counted yX6_counted ∈ wsL_law := wc_35 _ (List.mem_of_getElem? (i := 9) rfl)
theorem m9_826 : Cond.code yX6_counted cX6_counted 2 (some .int) ∈ wsL_law := wc_35 _ (List.mem_of_getElem? (i := 10) rfl)
theorem m9_827 : Cond.methodLink RX6 206 yX6_sum ∈ wsL_law := wc_35 _ (List.mem_of_getElem? (i := 11) rfl)
theorem m9_828 : Cond.instanceMethod yX6_sum ∈ wsL_law := wc_35 _ (List.mem_of_getElem? (i := 12) rfl)
theorem m9_829 : Cond.selects RX6 yX6_sum yX6_sum ∈ wsL_law := wc_35 _ (List.mem_of_getElem? (i := 13) rfl)
theorem m9_830 : Cond.code yX6_sum cX6_sum 4 (some .int) ∈ wsL_law := wc_35 _ (List.mem_of_getElem? (i := 14) rfl)
theorem m9_831 : Cond.methodLink RX6 209 yX6_huesLaid ∈ wsL_law := wc_35 _ (List.mem_of_getElem? (i := 15) rfl)
theorem m9_832 : Cond.instanceMethod yX6_huesLaid ∈ wsL_law := wc_35 _ (List.mem_of_getElem? (i := 16) rfl)
theorem m9_833 : Cond.selects RX6 yX6_huesLaid yX6_huesLaid ∈ wsL_law := wc_35 _ (List.mem_of_getElem? (i := 17) rfl)
theorem m9_834 : Cond.code yX6_huesLaid cX6_huesLaid 3 (some .int) ∈ wsL_law := wc_35 _ (List.mem_of_getElem? (i := 18) rfl)
theorem m9_853 : Cond.methodLink RX5 226 yX1_meetByRemainders ∈ wsL_law := wc_36 _ (List.mem_of_getElem? (i := 13) rfl)
theorem m9_854 : Cond.static yX1_meetByRemainders ∈ wsL_law := wc_36 _ (List.mem_of_getElem? (i := 14) rfl)
theorem m9_855 : Cond.code yX1_meetByRemainders cX1_meetByRemainders 7 (some .int) ∈ wsL_law := wc_36 _ (List.mem_of_getElem? (i := 15) rfl)
theorem m9_856 : Cond.methodLink RX1 15 yX1_remainder ∈ wsL_law := wc_36 _ (List.mem_of_getElem? (i := 16) rfl)
theorem m9_861 : Cond.methodLink RX6 216 yX6_canMeet ∈ wsL_law := wc_36 _ (List.mem_of_getElem? (i := 21) rfl)
theorem m9_862 : Cond.instanceMethod yX6_canMeet ∈ wsL_law := wc_36 _ (List.mem_of_getElem? (i := 22) rfl)
theorem m9_863 : Cond.selects RX6 yX6_canMeet yX6_canMeet ∈ wsL_law := wc_36 _ (List.mem_of_getElem? (i := 23) rfl)
theorem m9_864 : Cond.code yX6_canMeet cX6_canMeet 6 (some .boolean) ∈ wsL_law := wc_37 _ (List.mem_of_getElem? (i := 0) rfl)
theorem m9_865 : Cond.methodLink RX6 220 yX6_meet ∈ wsL_law := wc_37 _ (List.mem_of_getElem? (i := 1) rfl)
theorem m9_866 : Cond.instanceMethod yX6_meet ∈ wsL_law := wc_37 _ (List.mem_of_getElem? (i := 2) rfl)
theorem m9_867 : Cond.selects RX6 yX6_meet yX6_meet ∈ wsL_law := wc_37 _ (List.mem_of_getElem? (i := 3) rfl)
theorem m9_868 : Cond.code yX6_meet cX6_meet 6 (some .int) ∈ wsL_law := wc_37 _ (List.mem_of_getElem? (i := 4) rfl)
theorem m9_876 : Cond.methodLink RX5 232 yX1_meetByWalking ∈ wsL_law := wc_37 _ (List.mem_of_getElem? (i := 12) rfl)
theorem m9_877 : Cond.static yX1_meetByWalking ∈ wsL_law := wc_37 _ (List.mem_of_getElem? (i := 13) rfl)
theorem m9_878 : Cond.code yX1_meetByWalking cX1_meetByWalking 7 (some .int) ∈ wsL_law := wc_37 _ (List.mem_of_getElem? (i := 14) rfl)
theorem m9_890 : Cond.methodLink RX5 235 yX2_phaseNumber ∈ wsL_law := wc_38 _ (List.mem_of_getElem? (i := 2) rfl)
theorem m9_891 : Cond.instanceMethod yX2_phaseNumber ∈ wsL_law := wc_38 _ (List.mem_of_getElem? (i := 3) rfl)
theorem m9_892 : Cond.selects RX2 yX2_phaseNumber yX2_phaseNumber ∈ wsL_law := wc_38 _ (List.mem_of_getElem? (i := 4) rfl)
theorem m9_893 : Cond.code yX2_phaseNumber cX2_phaseNumber 4 (some .int) ∈ wsL_law := wc_38 _ (List.mem_of_getElem? (i := 5) rfl)
theorem m9_894 : Cond.methodLink RX2 54 yX2_fittingPhases ∈ wsL_law := wc_38 _ (List.mem_of_getElem? (i := 6) rfl)
theorem m9_895 : Cond.instanceMethod yX2_fittingPhases ∈ wsL_law := wc_38 _ (List.mem_of_getElem? (i := 7) rfl)
theorem m9_896 : Cond.selects RX2 yX2_fittingPhases yX2_fittingPhases ∈ wsL_law := wc_38 _ (List.mem_of_getElem? (i := 8) rfl)
theorem m9_897 : Cond.code yX2_fittingPhases cX2_fittingPhases 5 (some .int) ∈ wsL_law := wc_38 _ (List.mem_of_getElem? (i := 9) rfl)
theorem m9_898 : Cond.methodLink RX2 63 yX2_reasonAgainst ∈ wsL_law := wc_38 _ (List.mem_of_getElem? (i := 10) rfl)
theorem m9_899 : Cond.methodLink RX2 57 yX2_lowestPhase ∈ wsL_law := wc_38 _ (List.mem_of_getElem? (i := 11) rfl)
theorem m9_900 : Cond.instanceMethod yX2_lowestPhase ∈ wsL_law := wc_38 _ (List.mem_of_getElem? (i := 12) rfl)
theorem m9_901 : Cond.selects RX2 yX2_lowestPhase yX2_lowestPhase ∈ wsL_law := wc_38 _ (List.mem_of_getElem? (i := 13) rfl)
theorem m9_902 : Cond.code yX2_lowestPhase cX2_lowestPhase 4 (some .int) ∈ wsL_law := wc_38 _ (List.mem_of_getElem? (i := 14) rfl)
theorem m9_903 : Cond.methodLink RX2 60 yX2_fillingPhase ∈ wsL_law := wc_38 _ (List.mem_of_getElem? (i := 15) rfl)
theorem m9_904 : Cond.instanceMethod yX2_fillingPhase ∈ wsL_law := wc_38 _ (List.mem_of_getElem? (i := 16) rfl)
theorem m9_905 : Cond.selects RX2 yX2_fillingPhase yX2_fillingPhase ∈ wsL_law := wc_38 _ (List.mem_of_getElem? (i := 17) rfl)
theorem m9_906 : Cond.code yX2_fillingPhase cX2_fillingPhase 7 (some .int) ∈ wsL_law := wc_38 _ (List.mem_of_getElem? (i := 18) rfl)
theorem m9_907 : Cond.methodLink RX2 67 yX2_placesFrom ∈ wsL_law := wc_38 _ (List.mem_of_getElem? (i := 19) rfl)
theorem m9_908 : Cond.instanceMethod yX2_placesFrom ∈ wsL_law := wc_38 _ (List.mem_of_getElem? (i := 20) rfl)
theorem m9_909 : Cond.selects RX2 yX2_placesFrom yX2_placesFrom ∈ wsL_law := wc_38 _ (List.mem_of_getElem? (i := 21) rfl)
theorem m9_910 : Cond.code yX2_placesFrom cX2_placesFrom 6 (some .int) ∈ wsL_law := wc_38 _ (List.mem_of_getElem? (i := 22) rfl)
theorem m9_915 : Cond.methodLink RX6 227 yX6_toldOfPhases ∈ wsL_law := wc_39 _ (List.mem_of_getElem? (i := 3) rfl)
theorem m9_916 : Cond.instanceMethod yX6_toldOfPhases ∈ wsL_law := wc_39 _ (List.mem_of_getElem? (i := 4) rfl)
theorem m9_917 : Cond.selects RX6 yX6_toldOfPhases yX6_toldOfPhases ∈ wsL_law := wc_39 _ (List.mem_of_getElem? (i := 5) rfl)
theorem m9_918 : Cond.code yX6_toldOfPhases cX6_toldOfPhases 9 (some .int) ∈ wsL_law := wc_39 _ (List.mem_of_getElem? (i := 6) rfl)
theorem m9_919 : Cond.methodLink RX6 224 yX6_wouldTake ∈ wsL_law := wc_39 _ (List.mem_of_getElem? (i := 7) rfl)
theorem m9_920 : Cond.instanceMethod yX6_wouldTake ∈ wsL_law := wc_39 _ (List.mem_of_getElem? (i := 8) rfl)
theorem m9_921 : Cond.selects RX6 yX6_wouldTake yX6_wouldTake ∈ wsL_law := wc_39 _ (List.mem_of_getElem? (i := 9) rfl)
theorem m9_922 : Cond.code yX6_wouldTake cX6_wouldTake 4 (some .int) ∈ wsL_law := wc_39 _ (List.mem_of_getElem? (i := 10) rfl)
theorem m9_930 : Cond.methodLink RX5 238 yX5_fillingHue ∈ wsL_law := wc_39 _ (List.mem_of_getElem? (i := 18) rfl)
theorem m9_931 : Cond.instanceMethod yX5_fillingHue ∈ wsL_law := wc_39 _ (List.mem_of_getElem? (i := 19) rfl)
theorem m9_932 : Cond.selects RX5 yX5_fillingHue yX5_fillingHue ∈ wsL_law := wc_39 _ (List.mem_of_getElem? (i := 20) rfl)
theorem m9_933 : Cond.code yX5_fillingHue cX5_fillingHue 8 (some .int) ∈ wsL_law := wc_39 _ (List.mem_of_getElem? (i := 21) rfl)
theorem m9_934 : Cond.methodLink RX5 317 yX2_fillingPhase ∈ wsL_law := wc_39 _ (List.mem_of_getElem? (i := 22) rfl)
theorem m9_935 : Cond.methodLink RX5 320 yX2_placesFrom ∈ wsL_law := wc_39 _ (List.mem_of_getElem? (i := 23) rfl)
theorem m9_940 : Cond.methodLink RX6 230 yX6_best ∈ wsL_law := wc_40 _ (List.mem_of_getElem? (i := 4) rfl)
theorem m9_941 : Cond.instanceMethod yX6_best ∈ wsL_law := wc_40 _ (List.mem_of_getElem? (i := 5) rfl)
theorem m9_942 : Cond.selects RX6 yX6_best yX6_best ∈ wsL_law := wc_40 _ (List.mem_of_getElem? (i := 6) rfl)
theorem m9_943 : Cond.code yX6_best cX6_best 7 (some .int) ∈ wsL_law := wc_40 _ (List.mem_of_getElem? (i := 7) rfl)
theorem m9_967 : Cond.instanceMethod yX5_fullness ∈ wsL_law := wc_41 _ (List.mem_of_getElem? (i := 7) rfl)
theorem m9_968 : Cond.selects RX5 yX5_fullness yX5_fullness ∈ wsL_law := wc_41 _ (List.mem_of_getElem? (i := 8) rfl)
theorem m9_969 : Cond.code yX5_fullness cX5_fullness 3 (some .double) ∈ wsL_law := wc_41 _ (List.mem_of_getElem? (i := 9) rfl)
theorem m9_974 : Cond.methodLink RX6 233 yX6_share ∈ wsL_law := wc_41 _ (List.mem_of_getElem? (i := 14) rfl)
theorem m9_975 : Cond.instanceMethod yX6_share ∈ wsL_law := wc_41 _ (List.mem_of_getElem? (i := 15) rfl)
theorem m9_976 : Cond.selects RX6 yX6_share yX6_share ∈ wsL_law := wc_41 _ (List.mem_of_getElem? (i := 16) rfl)
theorem m9_977 : Cond.code yX6_share cX6_share 1 (some .double) ∈ wsL_law := wc_41 _ (List.mem_of_getElem? (i := 17) rfl)
theorem m9_982 : Cond.constantLong RX5 247 (3643) ∈ wsL_law := wc_41 _ (List.mem_of_getElem? (i := 22) rfl)
theorem m9_983 : Cond.methodLink RX5 249 yX5_mixed ∈ wsL_law := wc_41 _ (List.mem_of_getElem? (i := 23) rfl)
theorem m9_984 : Cond.static yX5_mixed ∈ wsL_law := wc_42 _ (List.mem_of_getElem? (i := 0) rfl)
theorem m9_985 : Cond.code yX5_mixed cX5_mixed 4 (some .long) ∈ wsL_law := wc_42 _ (List.mem_of_getElem? (i := 1) rfl)
theorem m9_986 : Cond.constantLong RX5 347 (31) ∈ wsL_law := wc_42 _ (List.mem_of_getElem? (i := 2) rfl)
theorem m9_987 : Cond.methodLink RX5 253 yX5_ropeMixed ∈ wsL_law := wc_42 _ (List.mem_of_getElem? (i := 3) rfl)
theorem m9_988 : Cond.instanceMethod yX5_ropeMixed ∈ wsL_law := wc_42 _ (List.mem_of_getElem? (i := 4) rfl)
theorem m9_989 : Cond.selects RX5 yX5_ropeMixed yX5_ropeMixed ∈ wsL_law := wc_42 _ (List.mem_of_getElem? (i := 5) rfl)
theorem m9_990 : Cond.code yX5_ropeMixed cX5_ropeMixed 9 (some .long) ∈ wsL_law := wc_42 _ (List.mem_of_getElem? (i := 6) rfl)
theorem m9_991 : Cond.methodLink RX5 349 yX5_hueMixed ∈ wsL_law := wc_42 _ (List.mem_of_getElem? (i := 7) rfl)
theorem m9_992 : Cond.instanceMethod yX5_hueMixed ∈ wsL_law := wc_42 _ (List.mem_of_getElem? (i := 8) rfl)
theorem m9_993 : Cond.selects RX5 yX5_hueMixed yX5_hueMixed ∈ wsL_law := wc_42 _ (List.mem_of_getElem? (i := 9) rfl)
theorem m9_994 : Cond.code yX5_hueMixed cX5_hueMixed 8 (some .long) ∈ wsL_law := wc_42 _ (List.mem_of_getElem? (i := 10) rfl)
theorem m9_995 : Cond.methodLink RX5 257 yX5_fullness ∈ wsL_law := wc_42 _ (List.mem_of_getElem? (i := 11) rfl)
theorem m9_996 : Cond.methodLink RX5 261 yX1_bitsOfShare ∈ wsL_law := wc_42 _ (List.mem_of_getElem? (i := 12) rfl)
theorem m9_997 : Cond.static yX1_bitsOfShare ∈ wsL_law := wc_42 _ (List.mem_of_getElem? (i := 13) rfl)
theorem m9_998 : Cond.code yX1_bitsOfShare cX1_bitsOfShare 8 (some .long) ∈ wsL_law := wc_42 _ (List.mem_of_getElem? (i := 14) rfl)
theorem m9_999 : Cond.constantLong RX1 18 (1023) ∈ wsL_law := wc_42 _ (List.mem_of_getElem? (i := 15) rfl)
theorem m9_1000 : Cond.constantDouble RX1 20 (4611686018427387904) ∈ wsL_law := wc_42 _ (List.mem_of_getElem? (i := 16) rfl)
theorem m9_1001 : Cond.constantDouble RX1 22 (4841369599423283200) ∈ wsL_law := wc_42 _ (List.mem_of_getElem? (i := 17) rfl)
theorem m9_1006 : Cond.constantLong RX6 255 (3643) ∈ wsL_law := wc_42 _ (List.mem_of_getElem? (i := 22) rfl)
theorem m9_1007 : Cond.fieldLink RX6 247 "PennantRopesModel" "digested" "J" ∈ wsL_law := wc_42 _ (List.mem_of_getElem? (i := 23) rfl)
theorem m9_1008 : Cond.methodLink RX6 251 yX6_digestOne ∈ wsL_law := wc_43 _ (List.mem_of_getElem? (i := 0) rfl)
theorem m9_1009 : Cond.instanceMethod yX6_digestOne ∈ wsL_law := wc_43 _ (List.mem_of_getElem? (i := 1) rfl)
theorem m9_1010 : Cond.selects RX6 yX6_digestOne yX6_digestOne ∈ wsL_law := wc_43 _ (List.mem_of_getElem? (i := 2) rfl)
theorem m9_1011 : Cond.code yX6_digestOne cX6_digestOne 3 none ∈ wsL_law := wc_43 _ (List.mem_of_getElem? (i := 3) rfl)
theorem m9_1012 : Cond.constantLong RX6 245 (31) ∈ wsL_law := wc_43 _ (List.mem_of_getElem? (i := 4) rfl)
theorem m9_1013 : Cond.methodLink RX6 257 yX6_digestRope ∈ wsL_law := wc_43 _ (List.mem_of_getElem? (i := 5) rfl)
theorem m9_1014 : Cond.instanceMethod yX6_digestRope ∈ wsL_law := wc_43 _ (List.mem_of_getElem? (i := 6) rfl)
theorem m9_1015 : Cond.selects RX6 yX6_digestRope yX6_digestRope ∈ wsL_law := wc_43 _ (List.mem_of_getElem? (i := 7) rfl)
theorem m9_1016 : Cond.code yX6_digestRope cX6_digestRope 4 none ∈ wsL_law := wc_43 _ (List.mem_of_getElem? (i := 8) rfl)
theorem m9_1017 : Cond.methodLink RX6 260 yX6_bitsOf ∈ wsL_law := wc_43 _ (List.mem_of_getElem? (i := 9) rfl)
theorem m9_1018 : Cond.static yX6_bitsOf ∈ wsL_law := wc_43 _ (List.mem_of_getElem? (i := 10) rfl)
theorem m9_1019 : Cond.code yX6_bitsOf cX6_bitsOf 6 (some .long) ∈ wsL_law := wc_43 _ (List.mem_of_getElem? (i := 11) rfl)
theorem m9_1020 : Cond.constantLong RX6 237 (1023) ∈ wsL_law := wc_43 _ (List.mem_of_getElem? (i := 12) rfl)
theorem m9_1021 : Cond.constantDouble RX6 239 (4611686018427387904) ∈ wsL_law := wc_43 _ (List.mem_of_getElem? (i := 13) rfl)
theorem m9_1022 : Cond.constantLong RX6 241 (4503599627370496) ∈ wsL_law := wc_43 _ (List.mem_of_getElem? (i := 14) rfl)
theorem m9_1023 : Cond.constantDouble RX6 243 (4841369599423283200) ∈ wsL_law := wc_43 _ (List.mem_of_getElem? (i := 15) rfl)
end
section
/-! what each method does, written by program out of javap's listing -/
def f_X5_requireHue_J10 (h : PH)   : Option (Except String Unit) :=
  some (.error "java/lang/IndexOutOfBoundsException")
def f_X5_requireHue (h : PH) (a0 : Nat) (a1 : Int32) : Option (Except String Unit) :=
  if okO h a0 4 = true then (if a1 < 0 then (f_X5_requireHue_J10 h ) else (if a1 < (8 : Int32) then some (.ok ()) else (f_X5_requireHue_J10 h ))) else none
def f_X3_ropeAt_J31 (h : PH)  (k0 : (Option Nat)) : Option (Option Nat) :=
  some (k0)
def f_X3_ropeAt_J30 (h : PH)   : Option (Option Nat) :=
  (f_X3_ropeAt_J31 h (none))
def f_X3_ropeAt (h : PH) (a0 : Nat) (a1 : Int32) : Option (Option Nat) :=
  if okO h a0 2 = true then (if a1 < 0 then (f_X3_ropeAt_J30 h ) else ((rdI h a0 2 2).bind fun v1 => (if v1 ≤ a1 then (f_X3_ropeAt_J30 h ) else ((rdR h a0 2 1).bind fun v2 => ((lnA h v2).bind fun v3 => (if v3 ≤ a1 then (f_X3_ropeAt_J30 h ) else ((rdR h a0 2 1).bind fun v4 => ((ldQ h v4 a1).bind fun v5 => (f_X3_ropeAt_J31 h (v5)))))))))) else none
def f_X2_orderOf_J29 (h : PH) (x2 : Int32)  : Option Int32 :=
  some (x2)
def f_X2_orderOf_J37 (h : PH)   : Option Int32 :=
  some (((-1) : Int32))
def f_X2_orderOf_L2 (h : PH) (x0 : Nat) (x1 : Int32) : Int32 → Option ((Int32) ⊕ (((Unit) ⊕ (Int32)))) := fun z2 =>
  ((rdI h x0 1 3).bind fun v2 => (if v2 ≤ z2 then some (.inr (.inl ())) else ((rdR h x0 1 1).bind fun v3 => ((lnA h v3).bind fun v4 => (if v4 ≤ z2 then some (.inr (.inl ())) else ((rdR h x0 1 1).bind fun v5 => ((ldI h v5 z2).bind fun v6 => (if ¬ v6 = x1 then some (.inl ((z2 + 1))) else some (.inr (.inr ((z2))))))))))))
def f_X2_orderOf (h : PH) (a0 : Nat) (a1 : Int32) : Option Int32 :=
  if okO h a0 1 = true then ((lpn (f_X2_orderOf_L2 (h) (a0) (a1)) LF ((0 : Int32))).bind (fun w2 => match w2 with | .inl w2 => (f_X2_orderOf_J37 h ) | .inr w2 => (f_X2_orderOf_J29 h (w2)))) else none
def f_X3_isLaidOnSome_J29 (h : PH)   : Option Int32 :=
  some ((1 : Int32))
def f_X3_isLaidOnSome_J37 (h : PH)   : Option Int32 :=
  some ((0 : Int32))
def f_X3_isLaidOnSome_J31 (h : PH) (x0 : Nat) (x1 : Int32) (x2 : Int32)  : Option ((Int32) ⊕ (((Unit) ⊕ (Unit)))) :=
  some (.inl ((x2 + 1)))
def f_X3_isLaidOnSome_L2 (h : PH) (x0 : Nat) (x1 : Int32) : Int32 → Option ((Int32) ⊕ (((Unit) ⊕ (Unit)))) := fun z2 =>
  ((rdI h x0 2 2).bind fun v2 => (if v2 ≤ z2 then some (.inr (.inl ())) else ((f_X3_ropeAt h (x0) (z2)).bind fun v3 => (match v3 with | none => (f_X3_isLaidOnSome_J31 h (x0) (x1) (z2)) | some a4 => ((f_X2_orderOf h (a4) (x1)).bind fun v5 => (if v5 = ((-1) : Int32) then (f_X3_isLaidOnSome_J31 h (x0) (x1) (z2)) else some (.inr (.inr (())))))))))
def f_X3_isLaidOnSome (h : PH) (a0 : Nat) (a1 : Int32) : Option Int32 :=
  if okO h a0 2 = true then ((lpn (f_X3_isLaidOnSome_L2 (h) (a0) (a1)) LF ((0 : Int32))).bind (fun w2 => match w2 with | .inl w2 => (f_X3_isLaidOnSome_J37 h ) | .inr w2 => (f_X3_isLaidOnSome_J29 h ))) else none
def f_X0_rowAt_J23 (h : PH)  (k0 : (Option Nat)) : Option (Option Nat) :=
  some (k0)
def f_X0_rowAt_J22 (h : PH)   : Option (Option Nat) :=
  (f_X0_rowAt_J23 h (none))
def f_X0_rowAt (h : PH) (a0 : Nat) (a1 : Int32) : Option (Option Nat) :=
  if okO h a0 0 = true then (if a1 < 0 then (f_X0_rowAt_J22 h ) else ((rdR h a0 0 0).bind fun v1 => ((lnA h v1).bind fun v2 => (if v2 ≤ a1 then (f_X0_rowAt_J22 h ) else ((rdR h a0 0 0).bind fun v3 => ((ldQ h v3 a1).bind fun v4 => (f_X0_rowAt_J23 h (v4)))))))) else none
def f_X0_dropOldest_J77 (hh : PH)   : Option PH :=
  some hh
def f_X0_dropOldest_J37 (hh : PH) (x0 : Nat) (x1 : (Option Nat))  : Option PH :=
  ((rdR hh x0 0 0).bind fun v1 => ((lnA hh v1).bind fun v2 => ((wrF hh x0 0 1 (.int ((v2 - (1 : Int32))))).bind fun h3 => ((rdI h3 x0 0 1).bind fun v4 => (if v4 < 0 then (f_X0_dropOldest_J77 h3 ) else ((rdI h3 x0 0 1).bind fun v5 => ((rdR h3 x0 0 0).bind fun v6 => ((lnA h3 v6).bind fun v7 => (if v7 ≤ v5 then (f_X0_dropOldest_J77 h3 ) else ((rdR h3 x0 0 0).bind fun v8 => ((rdI h3 x0 0 1).bind fun v9 => ((x1).bind fun w11 => ((stQ h3 v8 v9 w11).bind fun h10 => (f_X0_dropOldest_J77 h10 ))))))))))))))
def f_X0_dropOldest_L8 (x0 : Nat) (x1 : (Option Nat)) : Int32 × PH → Option ((Int32 × PH) ⊕ (PH)) := fun z8 =>
  ((rdR (z8.2) x0 0 0).bind fun v14 => ((lnA (z8.2) v14).bind fun v15 => (if v15 ≤ (z8.1) then some (.inr (((z8.2)))) else ((rdR (z8.2) x0 0 0).bind fun v16 => ((rdR (z8.2) x0 0 0).bind fun v17 => ((ldQ (z8.2) v17 (z8.1)).bind fun v18 => ((v18).bind fun w20 => ((stQ (z8.2) v16 ((z8.1) - (1 : Int32)) w20).bind fun h19 => some (.inl (((z8.1) + 1), h19))))))))))
def f_X0_dropOldest (h : PH) (a0 : Nat) : Option PH :=
  if okO h a0 0 = true then ((f_X0_rowAt h (a0) ((0 : Int32))).bind fun v12 => ((lpn (f_X0_dropOldest_L8 (a0) (v12)) LF ((1 : Int32), h)).bind (fun w8 => (f_X0_dropOldest_J37 w8 (a0) (v12))))) else none
def f_X2_copyFrom_J92 (hh : PH)   : Option PH :=
  some hh
def f_X2_copyFrom_L56 (x0 : Nat) (x1 : Nat) : Int32 × PH → Option ((Int32 × PH) ⊕ (PH)) := fun z56 =>
  ((rdR (z56.2) x0 1 1).bind fun v2 => ((lnA (z56.2) v2).bind fun v3 => (if v3 ≤ (z56.1) then some (.inr (((z56.2)))) else ((rdR (z56.2) x1 1 1).bind fun v4 => ((lnA (z56.2) v4).bind fun v5 => (if v5 ≤ (z56.1) then some (.inr (((z56.2)))) else ((rdR (z56.2) x0 1 1).bind fun v6 => ((rdR (z56.2) x1 1 1).bind fun v7 => ((ldI (z56.2) v7 (z56.1)).bind fun v8 => ((stI (z56.2) v6 (z56.1) v8).bind fun h9 => some (.inl (((z56.1) + 1), h9))))))))))))
def f_X2_copyFrom_J54 (hh : PH) (x0 : Nat) (x1 : Nat)  : Option PH :=
  ((lpn (f_X2_copyFrom_L56 (x0) (x1)) LF ((0 : Int32), hh)).bind (fun w56 => (f_X2_copyFrom_J92 w56 )))
def f_X2_copyFrom_L18 (x0 : Nat) (x1 : Nat) : Int32 × PH → Option ((Int32 × PH) ⊕ (PH)) := fun z18 =>
  ((rdR (z18.2) x0 1 0).bind fun v15 => ((lnA (z18.2) v15).bind fun v16 => (if v16 ≤ (z18.1) then some (.inr (((z18.2)))) else ((rdR (z18.2) x1 1 0).bind fun v17 => ((lnA (z18.2) v17).bind fun v18 => (if v18 ≤ (z18.1) then some (.inr (((z18.2)))) else ((rdR (z18.2) x0 1 0).bind fun v19 => ((rdR (z18.2) x1 1 0).bind fun v20 => ((ldI (z18.2) v20 (z18.1)).bind fun v21 => ((stI (z18.2) v19 (z18.1) v21).bind fun h22 => some (.inl (((z18.1) + 1), h22))))))))))))
def f_X2_copyFrom (h : PH) (a0 : Nat) (a1 : Nat) : Option PH :=
  if okO h a0 1 = true then ((rdI h a1 1 2).bind fun v10 => ((wrF h a0 1 2 (.int (v10))).bind fun h11 => ((rdI h11 a1 1 3).bind fun v12 => ((wrF h11 a0 1 3 (.int (v12))).bind fun h13 => ((lpn (f_X2_copyFrom_L18 (a0) (a1)) LF ((0 : Int32), h13)).bind (fun w18 => (f_X2_copyFrom_J54 w18 (a0) (a1)))))))) else none
def f_X3_copyFrom_J90 (hh : PH) (x0 : Nat) (x1 : Nat)  : Option PH :=
  ((rdI hh x1 2 3).bind fun v1 => ((wrF hh x0 2 3 (.int (v1))).bind fun h2 => ((rdI h2 x1 2 4).bind fun v3 => ((wrF h2 x0 2 4 (.int (v3))).bind fun h4 => ((rdI h4 x1 2 5).bind fun v5 => ((wrF h4 x0 2 5 (.int (v5))).bind fun h6 => some h6))))))
def f_X3_copyFrom_J84 (hh : PH) (x0 : Nat) (x1 : Nat) (x2 : Int32)  : Option ((Int32 × PH) ⊕ (PH)) :=
  some (.inl ((x2 + 1), hh))
def f_X3_copyFrom_L48 (x0 : Nat) (x1 : Nat) : Int32 × PH → Option ((Int32 × PH) ⊕ (PH)) := fun z48 =>
  ((rdI (z48.2) x0 2 2).bind fun v10 => (if v10 ≤ (z48.1) then some (.inr (((z48.2)))) else ((f_X3_ropeAt (z48.2) (x0) ((z48.1))).bind fun v11 => ((f_X3_ropeAt (z48.2) (x1) ((z48.1))).bind fun v12 => (match v11 with | none => (f_X3_copyFrom_J84 (z48.2) (x0) (x1) ((z48.1))) | some a13 => (match v12 with | none => (f_X3_copyFrom_J84 (z48.2) (x0) (x1) ((z48.1))) | some a14 => ((f_X2_copyFrom (z48.2) (a13) (a14)).bind fun h15 => (f_X3_copyFrom_J84 h15 (x0) (x1) ((z48.1))))))))))
def f_X3_copyFrom_J38 (hh : PH) (x0 : Nat) (x1 : Nat)  : Option PH :=
  ((rdI hh x1 2 2).bind fun v7 => ((wrF hh x0 2 2 (.int (v7))).bind fun h8 => ((lpn (f_X3_copyFrom_L48 (x0) (x1)) LF ((0 : Int32), h8)).bind (fun w48 => (f_X3_copyFrom_J90 w48 (x0) (x1))))))
def f_X3_copyFrom_L2 (x0 : Nat) (x1 : Nat) : Int32 × PH → Option ((Int32 × PH) ⊕ (PH)) := fun z2 =>
  ((rdR (z2.2) x0 2 0).bind fun v17 => ((lnA (z2.2) v17).bind fun v18 => (if v18 ≤ (z2.1) then some (.inr (((z2.2)))) else ((rdR (z2.2) x1 2 0).bind fun v19 => ((lnA (z2.2) v19).bind fun v20 => (if v20 ≤ (z2.1) then some (.inr (((z2.2)))) else ((rdR (z2.2) x0 2 0).bind fun v21 => ((rdR (z2.2) x1 2 0).bind fun v22 => ((ldI (z2.2) v22 (z2.1)).bind fun v23 => ((stI (z2.2) v21 (z2.1) v23).bind fun h24 => some (.inl (((z2.1) + 1), h24))))))))))))
def f_X3_copyFrom (h : PH) (a0 : Nat) (a1 : Nat) : Option PH :=
  if okO h a0 2 = true then ((lpn (f_X3_copyFrom_L2 (a0) (a1)) LF ((0 : Int32), h)).bind (fun w2 => (f_X3_copyFrom_J38 w2 (a0) (a1)))) else none
def f_X0_save_J44 (hh : PH)   : Option PH :=
  some hh
def f_X0_save_J16 (hh : PH) (x0 : Nat) (x1 : Nat)  : Option PH :=
  ((rdI hh x0 0 1).bind fun v1 => ((f_X0_rowAt hh (x0) (v1)).bind fun v2 => (match v2 with | none => (f_X0_save_J44 hh ) | some a3 => ((f_X3_copyFrom hh (a3) (x1)).bind fun h4 => ((rdI h4 x0 0 1).bind fun v5 => ((wrF h4 x0 0 1 (.int ((v5 + (1 : Int32))))).bind fun h6 => (f_X0_save_J44 h6 )))))))
def f_X0_save (h : PH) (a0 : Nat) (a1 : Nat) : Option PH :=
  if okO h a0 0 = true then ((rdI h a0 0 1).bind fun v7 => ((rdR h a0 0 0).bind fun v8 => ((lnA h v8).bind fun v9 => (if v7 < v9 then (f_X0_save_J16 h (a0) (a1)) else ((f_X0_dropOldest h (a0)).bind fun h10 => (f_X0_save_J16 h10 (a0) (a1))))))) else none
def f_X3_gapAt_J23 (h : PH)  (k0 : Int32) : Option Int32 :=
  some (k0)
def f_X3_gapAt_J22 (h : PH)   : Option Int32 :=
  (f_X3_gapAt_J23 h ((0 : Int32)))
def f_X3_gapAt (h : PH) (a0 : Nat) (a1 : Int32) : Option Int32 :=
  if okO h a0 2 = true then (if a1 < 0 then (f_X3_gapAt_J22 h ) else ((rdR h a0 2 0).bind fun v1 => ((lnA h v1).bind fun v2 => (if v2 ≤ a1 then (f_X3_gapAt_J22 h ) else ((rdR h a0 2 0).bind fun v3 => ((ldI h v3 a1).bind fun v4 => (f_X3_gapAt_J23 h (v4)))))))) else none
def f_X3_setGap_J20 (hh : PH)   : Option PH :=
  some hh
def f_X3_setGap (h : PH) (a0 : Nat) (a1 : Int32) (a2 : Int32) : Option PH :=
  if okO h a0 2 = true then (if a1 < 0 then (f_X3_setGap_J20 h ) else ((rdR h a0 2 0).bind fun v1 => ((lnA h v1).bind fun v2 => (if v2 ≤ a1 then (f_X3_setGap_J20 h ) else ((rdR h a0 2 0).bind fun v3 => ((stI h v3 a1 a2).bind fun h4 => (f_X3_setGap_J20 h4 ))))))) else none
def f_X5_gap_J16 (h : PH)   : Option (Except (String × PH) (Int32 × PH)) :=
  some (.error ("java/lang/IllegalArgumentException", h))
def f_X5_gap (h : PH) (a0 : Nat) (a1 : Int32) (a2 : Int32) : Option (Except (String × PH) (Int32 × PH)) :=
  if okO h a0 4 = true then ((f_X5_requireHue h (a0) (a1)).bind fun r1 => (match r1 with | .error E4 => some (.error (E4, h)) | .ok v2 => (if a2 < (2 : Int32) then (f_X5_gap_J16 h ) else (if a2 ≤ (20 : Int32) then ((rdR h a0 4 0).bind fun v5 => ((f_X3_isLaidOnSome h (v5) (a1)).bind fun v6 => (if v6 = 0 then ((rdR h a0 4 2).bind fun v7 => ((rdR h a0 4 0).bind fun v8 => ((f_X0_save h (v7) (v8)).bind fun h9 => ((rdR h9 a0 4 0).bind fun v10 => ((f_X3_gapAt h9 (v10) (a1)).bind fun v11 => ((rdR h9 a0 4 0).bind fun v12 => ((f_X3_setGap h9 (v12) (a1) (a2)).bind fun h13 => some (.ok (v11, h13))))))))) else some (.error ("java/lang/IllegalStateException", h))))) else (f_X5_gap_J16 h ))))) else none
def f_X5_requireLength_J11 (h : PH)   : Option (Except String Unit) :=
  some (.error "java/lang/IllegalArgumentException")
def f_X5_requireLength (h : PH) (a0 : Nat) (a1 : Int32) : Option (Except String Unit) :=
  if okO h a0 4 = true then (if a1 < (1 : Int32) then (f_X5_requireLength_J11 h ) else (if a1 ≤ (60 : Int32) then some (.ok ()) else (f_X5_requireLength_J11 h ))) else none
def f_X3_ropeCount (h : PH) (a0 : Nat) : Option Int32 :=
  if okO h a0 2 = true then ((rdI h a0 2 2).bind fun v1 => some (v1)) else none
def f_X5_requireRoomForRope (h : PH) (a0 : Nat) : Option (Except String Unit) :=
  if okO h a0 4 = true then ((rdR h a0 4 0).bind fun v1 => ((f_X3_ropeCount h (v1)).bind fun v2 => (if v2 < (4 : Int32) then some (.ok ()) else some (.error "java/lang/IllegalStateException")))) else none
def f_X2_begin_J46 (hh : PH)   : Option PH :=
  some hh
def f_X2_begin_L24 (x0 : Nat) : Int32 × PH → Option ((Int32 × PH) ⊕ (PH)) := fun z24 =>
  ((rdR (z24.2) x0 1 0).bind fun v6 => ((lnA (z24.2) v6).bind fun v7 => (if v7 ≤ (z24.1) then some (.inr (((z24.2)))) else ((rdR (z24.2) x0 1 0).bind fun v8 => ((stI (z24.2) v8 (z24.1) ((-1) : Int32)).bind fun h9 => some (.inl (((z24.1) + 1), h9)))))))
def f_X2_begin (h : PH) (a0 : Nat) (a1 : Int32) : Option PH :=
  if okO h a0 1 = true then ((rdR h a0 1 0).bind fun v1 => ((lnA h v1).bind fun v2 => ((wrF h a0 1 2 (.int ((if (0 : Int32) < (if v2 < a1 then v2 else a1) then (if v2 < a1 then v2 else a1) else (0 : Int32))))).bind fun h3 => ((wrF h3 a0 1 3 (.int ((0 : Int32)))).bind fun h4 => ((lpn (f_X2_begin_L24 (a0)) LF ((0 : Int32), h4)).bind (fun w24 => (f_X2_begin_J46 w24 ))))))) else none
def f_X3_addRope_J19 (h : PH)   : Option ((Option Nat) × PH) :=
  some (none, h)
def f_X3_addRope_J51 (hh : PH) (x2 : (Option Nat))  : Option ((Option Nat) × PH) :=
  some (x2, hh)
def f_X3_addRope (h : PH) (a0 : Nat) (a1 : Int32) : Option ((Option Nat) × PH) :=
  if okO h a0 2 = true then ((rdI h a0 2 2).bind fun v1 => (if v1 < 0 then (f_X3_addRope_J19 h ) else ((rdI h a0 2 2).bind fun v2 => ((rdR h a0 2 1).bind fun v3 => ((lnA h v3).bind fun v4 => (if v2 < v4 then ((rdI h a0 2 2).bind fun v5 => ((wrF h a0 2 2 (.int ((v5 + (1 : Int32))))).bind fun h6 => ((rdI h6 a0 2 2).bind fun v7 => ((f_X3_ropeAt h6 (a0) ((v7 - (1 : Int32)))).bind fun v8 => (match v8 with | none => (f_X3_addRope_J51 h6 (none)) | some a9 => ((f_X2_begin h6 (a9) (a1)).bind fun h10 => (f_X3_addRope_J51 h10 (some (a9))))))))) else (f_X3_addRope_J19 h ))))))) else none
def f_X5_rope (h : PH) (a0 : Nat) (a1 : Int32) : Option (Except (String × PH) (Int32 × PH)) :=
  if okO h a0 4 = true then ((f_X5_requireLength h (a0) (a1)).bind fun r1 => (match r1 with | .error E4 => some (.error (E4, h)) | .ok v2 => ((f_X5_requireRoomForRope h (a0)).bind fun r5 => (match r5 with | .error E8 => some (.error (E8, h)) | .ok v6 => ((rdR h a0 4 2).bind fun v9 => ((rdR h a0 4 0).bind fun v10 => ((f_X0_save h (v9) (v10)).bind fun h11 => ((rdR h11 a0 4 0).bind fun v12 => ((f_X3_addRope h11 (v12) (a1)).bind fun q15 => ((rdR q15.2 a0 4 0).bind fun v16 => ((f_X3_ropeCount q15.2 (v16)).bind fun v17 => some (.ok ((v17 - (1 : Int32)), q15.2))))))))))))) else none
def f_X5_existing (h : PH) (a0 : Nat) (a1 : Int32) : Option (Except String Nat) :=
  if okO h a0 4 = true then ((rdR h a0 4 0).bind fun v1 => ((f_X3_ropeAt h (v1) (a1)).bind fun v2 => (match v2 with | none => some (.error "java/lang/IndexOutOfBoundsException") | some a3 => some (.ok (a3))))) else none
def f_X3_removeRope_J91 (hh : PH)   : Option PH :=
  some hh
def f_X3_removeRope_J52 (hh : PH) (x0 : Nat) (x2 : Nat)  : Option PH :=
  ((rdI hh x0 2 2).bind fun v1 => ((wrF hh x0 2 2 (.int ((v1 - (1 : Int32))))).bind fun h2 => ((rdI h2 x0 2 2).bind fun v3 => (if v3 < 0 then (f_X3_removeRope_J91 h2 ) else ((rdI h2 x0 2 2).bind fun v4 => ((rdR h2 x0 2 1).bind fun v5 => ((lnA h2 v5).bind fun v6 => (if v6 ≤ v4 then (f_X3_removeRope_J91 h2 ) else ((rdR h2 x0 2 1).bind fun v7 => ((rdI h2 x0 2 2).bind fun v8 => ((stQ h2 v7 v8 x2).bind fun h9 => (f_X3_removeRope_J91 h9 ))))))))))))
def f_X3_removeRope_L15 (x0 : Nat) (x2 : Nat) : Int32 × PH → Option ((Int32 × PH) ⊕ (PH)) := fun z15 =>
  ((rdI (z15.2) x0 2 2).bind fun v13 => (if v13 ≤ (z15.1) then some (.inr (((z15.2)))) else ((rdR (z15.2) x0 2 1).bind fun v14 => ((lnA (z15.2) v14).bind fun v15 => (if v15 ≤ (z15.1) then some (.inr (((z15.2)))) else ((rdR (z15.2) x0 2 1).bind fun v16 => ((rdR (z15.2) x0 2 1).bind fun v17 => ((ldQ (z15.2) v17 (z15.1)).bind fun v18 => ((v18).bind fun w20 => ((stQ (z15.2) v16 ((z15.1) - (1 : Int32)) w20).bind fun h19 => some (.inl (((z15.1) + 1), h19))))))))))))
def f_X3_removeRope (h : PH) (a0 : Nat) (a1 : Int32) : Option PH :=
  if okO h a0 2 = true then ((f_X3_ropeAt h (a0) (a1)).bind fun v10 => (match v10 with | none => some h | some a11 => ((lpn (f_X3_removeRope_L15 (a0) (a11)) LF ((a1 + (1 : Int32)), h)).bind (fun w15 => (f_X3_removeRope_J52 w15 (a0) (a11)))))) else none
def f_X5_drop (h : PH) (a0 : Nat) (a1 : Int32) : Option (Except (String × PH) (Int32 × PH)) :=
  if okO h a0 4 = true then ((f_X5_existing h (a0) (a1)).bind fun r1 => (match r1 with | .error E4 => some (.error (E4, h)) | .ok v2 => ((rdR h a0 4 2).bind fun v5 => ((rdR h a0 4 0).bind fun v6 => ((f_X0_save h (v5) (v6)).bind fun h7 => ((rdR h7 a0 4 0).bind fun v8 => ((f_X3_removeRope h7 (v8) (a1)).bind fun h9 => ((rdR h9 a0 4 0).bind fun v10 => ((f_X3_ropeCount h9 (v10)).bind fun v11 => some (.ok (v11, h9))))))))))) else none
def f_X5_requirePhase_J16 (h : PH)   : Option (Except String Unit) :=
  some (.error "java/lang/IllegalArgumentException")
def f_X5_requirePhase (h : PH) (a0 : Nat) (a1 : Int32) (a2 : Int32) : Option (Except String Unit) :=
  if okO h a0 4 = true then (if a2 < 0 then (f_X5_requirePhase_J16 h ) else ((rdR h a0 4 0).bind fun v1 => ((f_X3_gapAt h (v1) (a1)).bind fun v2 => (if a2 < v2 then some (.ok ()) else (f_X5_requirePhase_J16 h ))))) else none
def f_X2_colourAt_J31 (h : PH)  (k0 : Int32) : Option Int32 :=
  some (k0)
def f_X2_colourAt_J30 (h : PH)   : Option Int32 :=
  (f_X2_colourAt_J31 h (((-1) : Int32)))
def f_X2_colourAt (h : PH) (a0 : Nat) (a1 : Int32) : Option Int32 :=
  if okO h a0 1 = true then (if a1 < 0 then (f_X2_colourAt_J30 h ) else ((rdI h a0 1 2).bind fun v1 => (if v1 ≤ a1 then (f_X2_colourAt_J30 h ) else ((rdR h a0 1 0).bind fun v2 => ((lnA h v2).bind fun v3 => (if v3 ≤ a1 then (f_X2_colourAt_J30 h ) else ((rdR h a0 1 0).bind fun v4 => ((ldI h v4 a1).bind fun v5 => (f_X2_colourAt_J31 h (v5)))))))))) else none
def f_X2_reasonAgainst_J50 (h : PH)   : Option Int32 :=
  some ((3 : Int32))
def f_X2_reasonAgainst_J62 (h : PH)   : Option Int32 :=
  some ((0 : Int32))
def f_X2_reasonAgainst_L31 (h : PH) (x0 : Nat) (x4 : Int32) : Int32 → Option ((Int32) ⊕ (((Unit) ⊕ (Unit)))) := fun z31 =>
  ((rdI h x0 1 2).bind fun v4 => (if v4 ≤ z31 then some (.inr (.inl ())) else ((f_X2_colourAt h (x0) (z31)).bind fun v5 => (if v5 = ((-1) : Int32) then some (.inl ((z31 + x4))) else some (.inr (.inr (())))))))
def f_X2_reasonAgainst (h : PH) (a0 : Nat) (a1 : Int32) (a2 : Int32) (a3 : Int32) : Option Int32 :=
  if okO h a0 1 = true then ((f_X2_orderOf h (a0) (a1)).bind fun v1 => (if v1 = ((-1) : Int32) then ((rdI h a0 1 2).bind fun v2 => (if a2 < v2 then ((lpn (f_X2_reasonAgainst_L31 (h) (a0) ((if (1 : Int32) < a3 then a3 else (1 : Int32)))) LF (a2)).bind (fun w31 => match w31 with | .inl w31 => (f_X2_reasonAgainst_J62 h ) | .inr w31 => (f_X2_reasonAgainst_J50 h ))) else some ((2 : Int32)))) else some ((1 : Int32)))) else none
def f_X2_setColour_J20 (hh : PH)   : Option PH :=
  some hh
def f_X2_setColour (h : PH) (a0 : Nat) (a1 : Int32) (a2 : Int32) : Option PH :=
  if okO h a0 1 = true then (if a1 < 0 then (f_X2_setColour_J20 h ) else ((rdR h a0 1 0).bind fun v1 => ((lnA h v1).bind fun v2 => (if v2 ≤ a1 then (f_X2_setColour_J20 h ) else ((rdR h a0 1 0).bind fun v3 => ((stI h v3 a1 a2).bind fun h4 => (f_X2_setColour_J20 h4 ))))))) else none
def f_X2_put_J31 (h : PH)   : Option (Int32 × PH) :=
  some ((0 : Int32), h)
def f_X2_put_J95 (hh : PH) (x4 : Int32)  : Option (Int32 × PH) :=
  some (x4, hh)
def f_X2_put_L66 (x0 : Nat) (x1 : Int32) (x5 : Int32) : Int32 × Int32 × PH → Option ((Int32 × Int32 × PH) ⊕ (Int32 × PH)) := fun z66 =>
  ((rdI (z66.2.2) x0 1 2).bind fun v12 => (if v12 ≤ (z66.2.1) then some (.inr (((z66.1), (z66.2.2)))) else ((f_X2_setColour (z66.2.2) (x0) ((z66.2.1)) (x1)).bind fun h13 => some (.inl (((z66.1) + 1), ((z66.2.1) + x5), h13)))))
def f_X2_put (h : PH) (a0 : Nat) (a1 : Int32) (a2 : Int32) (a3 : Int32) : Option (Int32 × PH) :=
  if okO h a0 1 = true then (if a2 < 0 then (f_X2_put_J31 h ) else ((rdI h a0 1 2).bind fun v1 => (if v1 ≤ a2 then (f_X2_put_J31 h ) else ((rdI h a0 1 3).bind fun v2 => (if v2 < 0 then (f_X2_put_J31 h ) else ((rdI h a0 1 3).bind fun v3 => ((rdR h a0 1 1).bind fun v4 => ((lnA h v4).bind fun v5 => (if v3 < v5 then ((rdR h a0 1 1).bind fun v6 => ((rdI h a0 1 3).bind fun v7 => ((stI h v6 v7 a1).bind fun h8 => ((rdI h8 a0 1 3).bind fun v9 => ((wrF h8 a0 1 3 (.int ((v9 + (1 : Int32))))).bind fun h10 => ((lpn (f_X2_put_L66 (a0) (a1) ((if (1 : Int32) < a3 then a3 else (1 : Int32)))) LF ((0 : Int32), a2, h10)).bind (fun w66 => (f_X2_put_J95 (w66.2) (w66.1))))))))) else (f_X2_put_J31 h )))))))))) else none
def f_X3_layOn (h : PH) (a0 : Nat) (a1 : Nat) (a2 : Int32) (a3 : Int32) : Option (Int32 × PH) :=
  if okO h a0 2 = true then ((rdI h a0 2 3).bind fun v1 => ((wrF h a0 2 3 (.int ((v1 + (1 : Int32))))).bind fun h2 => ((f_X3_gapAt h2 (a0) (a2)).bind fun v3 => ((f_X2_put h2 (a1) (a2) (a3) (v3)).bind fun q6 => some (q6.1, q6.2))))) else none
def f_X5_lay (h : PH) (a0 : Nat) (a1 : Int32) (a2 : Int32) (a3 : Int32) : Option (Except (String × PH) (Int32 × PH)) :=
  if okO h a0 4 = true then ((f_X5_existing h (a0) (a1)).bind fun r1 => (match r1 with | .error E4 => some (.error (E4, h)) | .ok v2 => ((f_X5_requireHue h (a0) (a2)).bind fun r5 => (match r5 with | .error E8 => some (.error (E8, h)) | .ok v6 => ((f_X5_requirePhase h (a0) (a2) (a3)).bind fun r9 => (match r9 with | .error E12 => some (.error (E12, h)) | .ok v10 => ((rdR h a0 4 0).bind fun v13 => ((f_X3_gapAt h (v13) (a2)).bind fun v14 => ((f_X2_reasonAgainst h (v2) (a2) (a3) (v14)).bind fun v15 => (if v15 = 0 then ((rdR h a0 4 2).bind fun v16 => ((rdR h a0 4 0).bind fun v17 => ((f_X0_save h (v16) (v17)).bind fun h18 => ((rdR h18 a0 4 0).bind fun v19 => ((f_X3_layOn h18 (v19) (v2) (a2) (a3)).bind fun q22 => some (.ok (q22.1, q22.2))))))) else some (.error ("java/lang/IllegalStateException", h)))))))))))) else none
def f_X2_placesOf_J30 (h : PH) (x2 : Int32)  : Option Int32 :=
  some (x2)
def f_X2_placesOf_J24 (h : PH) (x0 : Nat) (x1 : Int32) (x2 : Int32) (x3 : Int32)  : Option ((Int32 × Int32) ⊕ (Int32)) :=
  some (.inl (x2, (x3 + 1)))
def f_X2_placesOf_L4 (h : PH) (x0 : Nat) (x1 : Int32) : Int32 × Int32 → Option ((Int32 × Int32) ⊕ (Int32)) := fun z4 =>
  ((rdI h x0 1 2).bind fun v2 => (if v2 ≤ (z4.2) then some (.inr (((z4.1)))) else ((f_X2_colourAt h (x0) ((z4.2))).bind fun v3 => (if ¬ v3 = x1 then (f_X2_placesOf_J24 h (x0) (x1) ((z4.1)) ((z4.2))) else (f_X2_placesOf_J24 h (x0) (x1) (((z4.1) + 1)) ((z4.2)))))))
def f_X2_placesOf (h : PH) (a0 : Nat) (a1 : Int32) : Option Int32 :=
  if okO h a0 1 = true then ((lpn (f_X2_placesOf_L4 (h) (a0) (a1)) LF ((0 : Int32), (0 : Int32))).bind (fun w4 => (f_X2_placesOf_J30 h (w4)))) else none
def f_X2_remove_J104 (hh : PH) (x3 : Int32)  : Option (Int32 × PH) :=
  some (x3, hh)
def f_X2_remove_J98 (hh : PH) (x0 : Nat) (x1 : Int32) (x3 : Int32) (x4 : Int32)  : Option ((Int32 × PH) ⊕ (PH)) :=
  some (.inl ((x4 + 1), hh))
def f_X2_remove_L72 (x0 : Nat) (x1 : Int32) (x3 : Int32) : Int32 × PH → Option ((Int32 × PH) ⊕ (PH)) := fun z72 =>
  ((rdI (z72.2) x0 1 2).bind fun v5 => (if v5 ≤ (z72.1) then some (.inr (((z72.2)))) else ((f_X2_colourAt (z72.2) (x0) ((z72.1))).bind fun v6 => (if ¬ v6 = x1 then (f_X2_remove_J98 (z72.2) (x0) (x1) (x3) ((z72.1))) else ((f_X2_setColour (z72.2) (x0) ((z72.1)) (((-1) : Int32))).bind fun h7 => (f_X2_remove_J98 h7 (x0) (x1) (x3) ((z72.1))))))))
def f_X2_remove_J53 (hh : PH) (x0 : Nat) (x1 : Int32)  : Option (Int32 × PH) :=
  ((rdI hh x0 1 3).bind fun v1 => ((wrF hh x0 1 3 (.int ((v1 - (1 : Int32))))).bind fun h2 => ((f_X2_placesOf h2 (x0) (x1)).bind fun v3 => ((lpn (f_X2_remove_L72 (x0) (x1) (v3)) LF ((0 : Int32), h2)).bind (fun w72 => (f_X2_remove_J104 w72 (v3)))))))
def f_X2_remove_L16 (x0 : Nat) (x1 : Int32) : Int32 × PH → Option ((Int32 × PH) ⊕ (PH)) := fun z16 =>
  ((rdI (z16.2) x0 1 3).bind fun v10 => (if v10 ≤ (z16.1) then some (.inr (((z16.2)))) else ((rdR (z16.2) x0 1 1).bind fun v11 => ((lnA (z16.2) v11).bind fun v12 => (if v12 ≤ (z16.1) then some (.inr (((z16.2)))) else ((rdR (z16.2) x0 1 1).bind fun v13 => ((rdR (z16.2) x0 1 1).bind fun v14 => ((ldI (z16.2) v14 (z16.1)).bind fun v15 => ((stI (z16.2) v13 ((z16.1) - (1 : Int32)) v15).bind fun h16 => some (.inl (((z16.1) + 1), h16)))))))))))
def f_X2_remove (h : PH) (a0 : Nat) (a1 : Int32) : Option (Int32 × PH) :=
  if okO h a0 1 = true then ((f_X2_orderOf h (a0) (a1)).bind fun v8 => (if 0 ≤ v8 then ((lpn (f_X2_remove_L16 (a0) (a1)) LF ((v8 + (1 : Int32)), h)).bind (fun w16 => (f_X2_remove_J53 w16 (a0) (a1)))) else some ((0 : Int32), h))) else none
def f_X5_take (h : PH) (a0 : Nat) (a1 : Int32) (a2 : Int32) : Option (Except (String × PH) (Int32 × PH)) :=
  if okO h a0 4 = true then ((f_X5_existing h (a0) (a1)).bind fun r1 => (match r1 with | .error E4 => some (.error (E4, h)) | .ok v2 => ((f_X5_requireHue h (a0) (a2)).bind fun r5 => (match r5 with | .error E8 => some (.error (E8, h)) | .ok v6 => ((f_X2_orderOf h (v2) (a2)).bind fun v9 => (if ¬ v9 = ((-1) : Int32) then ((rdR h a0 4 2).bind fun v10 => ((rdR h a0 4 0).bind fun v11 => ((f_X0_save h (v10) (v11)).bind fun h12 => ((f_X2_remove h12 (v2) (a2)).bind fun q15 => some (.ok (q15.1, q15.2)))))) else some (.error ("java/lang/IllegalStateException", h)))))))) else none
def f_X2_length (h : PH) (a0 : Nat) : Option Int32 :=
  if okO h a0 1 = true then ((rdI h a0 1 2).bind fun v1 => some (v1)) else none
def f_X2_hueCount (h : PH) (a0 : Nat) : Option Int32 :=
  if okO h a0 1 = true then ((rdI h a0 1 3).bind fun v1 => some (v1)) else none
def f_X2_hueAt_J31 (h : PH)  (k0 : Int32) : Option Int32 :=
  some (k0)
def f_X2_hueAt_J30 (h : PH)   : Option Int32 :=
  (f_X2_hueAt_J31 h (((-1) : Int32)))
def f_X2_hueAt (h : PH) (a0 : Nat) (a1 : Int32) : Option Int32 :=
  if okO h a0 1 = true then (if a1 < 0 then (f_X2_hueAt_J30 h ) else ((rdI h a0 1 3).bind fun v1 => (if v1 ≤ a1 then (f_X2_hueAt_J30 h ) else ((rdR h a0 1 1).bind fun v2 => ((lnA h v2).bind fun v3 => (if v3 ≤ a1 then (f_X2_hueAt_J30 h ) else ((rdR h a0 1 1).bind fun v4 => ((ldI h v4 a1).bind fun v5 => (f_X2_hueAt_J31 h (v5)))))))))) else none
def f_X2_firstFrom_J19 (h : PH) (x3 : Int32)  : Option Int32 :=
  some (x3)
def f_X2_firstFrom_J27 (h : PH)   : Option Int32 :=
  some (((-1) : Int32))
def f_X2_firstFrom_L2 (h : PH) (x0 : Nat) (x1 : Int32) : Int32 → Option ((Int32) ⊕ (((Unit) ⊕ (Int32)))) := fun z2 =>
  ((rdI h x0 1 2).bind fun v2 => (if v2 ≤ z2 then some (.inr (.inl ())) else ((f_X2_colourAt h (x0) (z2)).bind fun v3 => (if ¬ v3 = x1 then some (.inl ((z2 + 1))) else some (.inr (.inr ((z2))))))))
def f_X2_firstFrom (h : PH) (a0 : Nat) (a1 : Int32) (a2 : Int32) : Option Int32 :=
  if okO h a0 1 = true then ((lpn (f_X2_firstFrom_L2 (h) (a0) (a1)) LF (a2)).bind (fun w2 => match w2 with | .inl w2 => (f_X2_firstFrom_J27 h ) | .inr w2 => (f_X2_firstFrom_J19 h (w2)))) else none
def f_X1_remainder_J11 (h : PH)  (k0 : Int32) : Option Int32 :=
  some (k0)
def f_X1_remainder (h : PH) (a0 : Int32) (a1 : Int32) : Option Int32 :=
  (if a1 ≤ 0 then (f_X1_remainder_J11 h ((0 : Int32))) else (if ¬ a1 = 0 then (f_X1_remainder_J11 h ((a0 - a0 / a1 * a1))) else none))
def f_X5_huesDueAt_J55 (h : PH) (x3 : Int32)  : Option Int32 :=
  some (x3)
def f_X5_huesDueAt_J49 (h : PH) (x0 : Nat) (x1 : Nat) (x2 : Int32) (x3 : Int32) (x4 : Int32)  : Option ((Int32 × Int32) ⊕ (Int32)) :=
  some (.inl (x3, (x4 + 1)))
def f_X5_huesDueAt_L5 (h : PH) (x0 : Nat) (x1 : Nat) (x2 : Int32) : Int32 × Int32 → Option ((Int32 × Int32) ⊕ (Int32)) := fun z5 =>
  ((f_X2_hueCount h (x1)).bind fun v2 => (if v2 ≤ (z5.2) then some (.inr (((z5.1)))) else ((f_X2_hueAt h (x1) ((z5.2))).bind fun v3 => ((f_X2_firstFrom h (x1) (v3) ((0 : Int32))).bind fun v4 => ((rdR h x0 4 0).bind fun v5 => ((f_X3_gapAt h (v5) (v3)).bind fun v6 => ((f_X1_remainder h ((x2 - v4)) (v6)).bind fun v7 => (if ¬ v7 = 0 then (f_X5_huesDueAt_J49 h (x0) (x1) (x2) ((z5.1)) ((z5.2))) else (f_X5_huesDueAt_J49 h (x0) (x1) (x2) (((z5.1) + 1)) ((z5.2)))))))))))
def f_X5_huesDueAt (h : PH) (a0 : Nat) (a1 : Nat) (a2 : Int32) : Option Int32 :=
  if okO h a0 4 = true then ((lpn (f_X5_huesDueAt_L5 (h) (a0) (a1) (a2)) LF ((0 : Int32), (0 : Int32))).bind (fun w5 => (f_X5_huesDueAt_J55 h (w5)))) else none
def f_X5_greatestLength_J21 (h : PH) (x2 : Int32)  : Option Int32 :=
  some (x2)
def f_X5_greatestLength_J29 (h : PH)   : Option Int32 :=
  some ((60 : Int32))
def f_X5_greatestLength_L5 (h : PH) (x0 : Nat) (x1 : Nat) : Int32 → Option ((Int32) ⊕ (((Unit) ⊕ (Int32)))) := fun z5 =>
  (if (60 : Int32) ≤ z5 then some (.inr (.inl ())) else ((f_X5_huesDueAt h (x0) (x1) (z5)).bind fun v3 => (if v3 ≤ (1 : Int32) then some (.inl ((z5 + 1))) else some (.inr (.inr ((z5)))))))
def f_X5_greatestLength (h : PH) (a0 : Nat) (a1 : Nat) : Option Int32 :=
  if okO h a0 4 = true then ((f_X2_length h (a1)).bind fun v1 => ((lpn (f_X5_greatestLength_L5 (h) (a0) (a1)) LF (v1)).bind (fun w5 => match w5 with | .inl w5 => (f_X5_greatestLength_J29 h ) | .inr w5 => (f_X5_greatestLength_J21 h (w5))))) else none
def f_X5_changeLength_J57 (hh : PH) (x0 : Nat) (x1 : Nat)  : Option PH :=
  ((rdR hh x0 4 4).bind fun v1 => ((f_X2_copyFrom hh (x1) (v1)).bind fun h2 => some h2))
def f_X5_changeLength_L10 (x0 : Nat) (x1 : Nat) : Int32 × PH → Option ((Int32 × PH) ⊕ (PH)) := fun z10 =>
  ((f_X2_hueCount (z10.2) (x1)).bind fun v6 => (if v6 ≤ (z10.1) then some (.inr (((z10.2)))) else ((f_X2_hueAt (z10.2) (x1) ((z10.1))).bind fun v7 => ((rdR (z10.2) x0 4 4).bind fun v8 => ((f_X2_firstFrom (z10.2) (x1) (v7) ((0 : Int32))).bind fun v9 => ((rdR (z10.2) x0 4 0).bind fun v10 => ((f_X3_gapAt (z10.2) (v10) (v7)).bind fun v11 => ((f_X2_put (z10.2) (v8) (v7) (v9) (v11)).bind fun q14 => some (.inl (((z10.1) + 1), q14.2))))))))))
def f_X5_changeLength (h : PH) (a0 : Nat) (a1 : Nat) (a2 : Int32) : Option PH :=
  if okO h a0 4 = true then ((rdR h a0 4 4).bind fun v3 => ((f_X2_begin h (v3) (a2)).bind fun h4 => ((lpn (f_X5_changeLength_L10 (a0) (a1)) LF ((0 : Int32), h4)).bind (fun w10 => (f_X5_changeLength_J57 w10 (a0) (a1)))))) else none
def f_X5_stretch (h : PH) (a0 : Nat) (a1 : Int32) (a2 : Int32) : Option (Except (String × PH) (Int32 × PH)) :=
  if okO h a0 4 = true then ((f_X5_existing h (a0) (a1)).bind fun r1 => (match r1 with | .error E4 => some (.error (E4, h)) | .ok v2 => ((f_X5_requireLength h (a0) (a2)).bind fun r5 => (match r5 with | .error E8 => some (.error (E8, h)) | .ok v6 => ((f_X5_greatestLength h (a0) (v2)).bind fun v9 => (if a2 ≤ v9 then ((rdR h a0 4 2).bind fun v10 => ((rdR h a0 4 0).bind fun v11 => ((f_X0_save h (v10) (v11)).bind fun h12 => ((f_X2_hueCount h12 (v2)).bind fun v13 => ((f_X5_changeLength h12 (a0) (v2) (a2)).bind fun h14 => ((f_X2_hueCount h14 (v2)).bind fun v15 => some (.ok ((v13 - v15), h14)))))))) else some (.error ("java/lang/IllegalStateException", h)))))))) else none
def f_X5_layBack_J61 (hh : PH)   : Option PH :=
  some hh
def f_X5_layBack_J55 (hh : PH) (x0 : Nat) (x1 : Nat) (x2 : Int32) (x3 : Nat) (x4 : Int32)  : Option ((Int32 × PH) ⊕ (PH)) :=
  some (.inl ((x4 + 1), hh))
def f_X5_layBack_L3 (x0 : Nat) (x1 : Nat) (x2 : Int32) (x3 : Nat) : Int32 × PH → Option ((Int32 × PH) ⊕ (PH)) := fun z3 =>
  ((f_X2_hueCount (z3.2) (x1)).bind fun v2 => (if v2 ≤ (z3.1) then some (.inr (((z3.2)))) else ((f_X2_hueAt (z3.2) (x1) ((z3.1))).bind fun v3 => ((f_X2_firstFrom (z3.2) (x1) (v3) (x2)).bind fun v4 => (if v4 = ((-1) : Int32) then (f_X5_layBack_J55 (z3.2) (x0) (x1) (x2) (x3) ((z3.1))) else ((rdR (z3.2) x0 4 0).bind fun v5 => ((f_X3_gapAt (z3.2) (v5) (v3)).bind fun v6 => ((f_X2_put (z3.2) (x3) (v3) ((v4 - x2)) (v6)).bind fun q9 => (f_X5_layBack_J55 q9.2 (x0) (x1) (x2) (x3) ((z3.1)))))))))))
def f_X5_layBack (h : PH) (a0 : Nat) (a1 : Nat) (a2 : Int32) (a3 : Nat) : Option PH :=
  if okO h a0 4 = true then ((lpn (f_X5_layBack_L3 (a0) (a1) (a2) (a3)) LF ((0 : Int32), h)).bind (fun w3 => (f_X5_layBack_J61 w3 ))) else none
def f_X3_countCut (h : PH) (a0 : Nat) : Option PH :=
  if okO h a0 2 = true then ((rdI h a0 2 5).bind fun v1 => ((wrF h a0 2 5 (.int ((v1 + (1 : Int32))))).bind fun h2 => some h2)) else none
def f_X5_cut_J21 (h : PH)   : Option (Except (String × PH) (Int32 × PH)) :=
  some (.error ("java/lang/IllegalArgumentException", h))
def f_X5_cut_J74 (hh : PH) (x0 : Nat) (x2 : Int32) (x3 : Nat)  : Option (Except (String × PH) (Int32 × PH)) :=
  ((f_X5_changeLength hh (x0) (x3) (x2)).bind fun h1 => ((rdR h1 x0 4 0).bind fun v2 => ((f_X3_countCut h1 (v2)).bind fun h3 => ((rdR h3 x0 4 0).bind fun v4 => ((f_X3_ropeCount h3 (v4)).bind fun v5 => some (.ok ((v5 - (1 : Int32)), h3)))))))
def f_X5_cut (h : PH) (a0 : Nat) (a1 : Int32) (a2 : Int32) : Option (Except (String × PH) (Int32 × PH)) :=
  if okO h a0 4 = true then ((f_X5_existing h (a0) (a1)).bind fun r6 => (match r6 with | .error E9 => some (.error (E9, h)) | .ok v7 => (if a2 < (1 : Int32) then (f_X5_cut_J21 h ) else ((f_X2_length h (v7)).bind fun v10 => (if a2 ≤ (v10 - (1 : Int32)) then ((f_X5_requireRoomForRope h (a0)).bind fun r11 => (match r11 with | .error E14 => some (.error (E14, h)) | .ok v12 => ((rdR h a0 4 2).bind fun v15 => ((rdR h a0 4 0).bind fun v16 => ((f_X0_save h (v15) (v16)).bind fun h17 => ((rdR h17 a0 4 0).bind fun v18 => ((f_X2_length h17 (v7)).bind fun v19 => ((f_X3_addRope h17 (v18) ((v19 - a2))).bind fun q22 => (match q22.1 with | none => (f_X5_cut_J74 q22.2 (a0) (a2) (v7)) | some a23 => ((f_X5_layBack q22.2 (a0) (v7) (a2) (a23)).bind fun h24 => (f_X5_cut_J74 h24 (a0) (a2) (v7)))))))))))) else (f_X5_cut_J21 h )))))) else none
def f_X2_lastOf_J20 (h : PH) (x2 : Int32)  : Option Int32 :=
  some (x2)
def f_X2_lastOf_J28 (h : PH)   : Option Int32 :=
  some (((-1) : Int32))
def f_X2_lastOf_L7 (h : PH) (x0 : Nat) (x1 : Int32) : Int32 → Option ((Int32) ⊕ (((Unit) ⊕ (Int32)))) := fun z7 =>
  (if z7 < 0 then some (.inr (.inl ())) else ((f_X2_colourAt h (x0) (z7)).bind fun v3 => (if ¬ v3 = x1 then some (.inl ((z7 + (-1)))) else some (.inr (.inr ((z7)))))))
def f_X2_lastOf (h : PH) (a0 : Nat) (a1 : Int32) : Option Int32 :=
  if okO h a0 1 = true then ((rdI h a0 1 2).bind fun v1 => ((lpn (f_X2_lastOf_L7 (h) (a0) (a1)) LF ((v1 - (1 : Int32)))).bind (fun w7 => match w7 with | .inl w7 => (f_X2_lastOf_J28 h ) | .inr w7 => (f_X2_lastOf_J20 h (w7))))) else none
def f_X2_differences_J34 (h : PH) (x2 : Int32)  : Option Int32 :=
  some (x2)
def f_X2_differences_J28 (h : PH) (x0 : Nat) (x1 : Nat) (x2 : Int32) (x3 : Int32)  : Option ((Int32 × Int32) ⊕ (Int32)) :=
  some (.inl (x2, (x3 + 1)))
def f_X2_differences_L4 (h : PH) (x0 : Nat) (x1 : Nat) : Int32 × Int32 → Option ((Int32 × Int32) ⊕ (Int32)) := fun z4 =>
  ((rdI h x0 1 2).bind fun v2 => (if v2 ≤ (z4.2) then some (.inr (((z4.1)))) else ((f_X2_colourAt h (x0) ((z4.2))).bind fun v3 => ((f_X2_colourAt h (x1) ((z4.2))).bind fun v4 => (if v3 = v4 then (f_X2_differences_J28 h (x0) (x1) ((z4.1)) ((z4.2))) else (f_X2_differences_J28 h (x0) (x1) (((z4.1) + 1)) ((z4.2))))))))
def f_X2_differences (h : PH) (a0 : Nat) (a1 : Nat) : Option Int32 :=
  if okO h a0 1 = true then ((lpn (f_X2_differences_L4 (h) (a0) (a1)) LF ((0 : Int32), (0 : Int32))).bind (fun w4 => (f_X2_differences_J34 h (w4)))) else none
def f_X5_turnRound_J62 (hh : PH) (x0 : Nat) (x1 : Nat)  : Option (Int32 × PH) :=
  ((rdR hh x0 4 4).bind fun v1 => ((f_X2_differences hh (x1) (v1)).bind fun v2 => ((rdR hh x0 4 4).bind fun v3 => ((f_X2_copyFrom hh (x1) (v3)).bind fun h4 => some (v2, h4)))))
def f_X5_turnRound_L13 (x0 : Nat) (x1 : Nat) : Int32 × PH → Option ((Int32 × PH) ⊕ (PH)) := fun z13 =>
  ((f_X2_hueCount (z13.2) (x1)).bind fun v9 => (if v9 ≤ (z13.1) then some (.inr (((z13.2)))) else ((f_X2_hueAt (z13.2) (x1) ((z13.1))).bind fun v10 => ((rdR (z13.2) x0 4 4).bind fun v11 => ((f_X2_length (z13.2) (x1)).bind fun v12 => ((f_X2_lastOf (z13.2) (x1) (v10)).bind fun v13 => ((rdR (z13.2) x0 4 0).bind fun v14 => ((f_X3_gapAt (z13.2) (v14) (v10)).bind fun v15 => ((f_X2_put (z13.2) (v11) (v10) (((v12 - (1 : Int32)) - v13)) (v15)).bind fun q18 => some (.inl (((z13.1) + 1), q18.2)))))))))))
def f_X5_turnRound (h : PH) (a0 : Nat) (a1 : Nat) : Option (Int32 × PH) :=
  if okO h a0 4 = true then ((rdR h a0 4 4).bind fun v5 => ((f_X2_length h (a1)).bind fun v6 => ((f_X2_begin h (v5) (v6)).bind fun h7 => ((lpn (f_X5_turnRound_L13 (a0) (a1)) LF ((0 : Int32), h7)).bind (fun w13 => (f_X5_turnRound_J62 w13 (a0) (a1))))))) else none
def f_X5_turn (h : PH) (a0 : Nat) (a1 : Int32) : Option (Except (String × PH) (Int32 × PH)) :=
  if okO h a0 4 = true then ((f_X5_existing h (a0) (a1)).bind fun r1 => (match r1 with | .error E4 => some (.error (E4, h)) | .ok v2 => ((rdR h a0 4 2).bind fun v5 => ((rdR h a0 4 0).bind fun v6 => ((f_X0_save h (v5) (v6)).bind fun h7 => ((f_X5_turnRound h7 (a0) (v2)).bind fun q10 => some (.ok (q10.1, q10.2)))))))) else none
def f_X5_draftLaid (h : PH) (a0 : Nat) (a1 : Int32) (a2 : Int32) : Option (Int32 × PH) :=
  if okO h a0 4 = true then ((rdR h a0 4 0).bind fun v1 => ((f_X3_gapAt h (v1) (a1)).bind fun v2 => ((rdR h a0 4 4).bind fun v3 => ((f_X2_reasonAgainst h (v3) (a1) (a2) (v2)).bind fun v4 => (if v4 = 0 then ((rdR h a0 4 4).bind fun v5 => ((f_X2_put h (v5) (a1) (a2) (v2)).bind fun q8 => some ((1 : Int32), q8.2))) else some ((0 : Int32), h)))))) else none
def f_X5_draftJoined_J153 (hh : PH) (x3 : Int32)  : Option (Int32 × PH) :=
  (if z01 x3 = true then some (x3, hh) else none)
def f_X5_draftJoined_J147 (hh : PH) (x0 : Nat) (x1 : Nat) (x2 : Nat) (x3 : Int32) (x4 : Int32)  : Option ((Int32 × Int32 × PH) ⊕ (Int32 × PH)) :=
  some (.inl (x3, (x4 + 1), hh))
def f_X5_draftJoined_J146 (hh : PH) (x0 : Nat) (x1 : Nat) (x2 : Nat) (x4 : Int32) (k0 : Int32) : Option ((Int32 × Int32 × PH) ⊕ (Int32 × PH)) :=
  (f_X5_draftJoined_J147 hh (x0) (x1) (x2) (k0) (x4))
def f_X5_draftJoined_J145 (hh : PH) (x0 : Nat) (x1 : Nat) (x2 : Nat) (x4 : Int32)  : Option ((Int32 × Int32 × PH) ⊕ (Int32 × PH)) :=
  (f_X5_draftJoined_J146 hh (x0) (x1) (x2) (x4) ((0 : Int32)))
def f_X5_draftJoined_L73 (x0 : Nat) (x1 : Nat) (x2 : Nat) : Int32 × Int32 × PH → Option ((Int32 × Int32 × PH) ⊕ (Int32 × PH)) := fun z73 =>
  ((f_X2_hueCount (z73.2.2) (x2)).bind fun v3 => (if v3 ≤ (z73.2.1) then some (.inr (((z73.1), (z73.2.2)))) else ((f_X2_hueAt (z73.2.2) (x2) ((z73.2.1))).bind fun v4 => ((f_X2_orderOf (z73.2.2) (x1) (v4)).bind fun v5 => (if ¬ v5 = ((-1) : Int32) then (f_X5_draftJoined_J147 (z73.2.2) (x0) (x1) (x2) ((z73.1)) ((z73.2.1))) else ((f_X2_length (z73.2.2) (x1)).bind fun v6 => ((f_X2_firstFrom (z73.2.2) (x2) (v4) ((0 : Int32))).bind fun v7 => ((rdR (z73.2.2) x0 4 0).bind fun v8 => ((f_X3_gapAt (z73.2.2) (v8) (v4)).bind fun v9 => ((f_X1_remainder (z73.2.2) ((v6 + v7)) (v9)).bind fun v10 => ((f_X5_draftLaid (z73.2.2) (x0) (v4) (v10)).bind fun q13 => (if q13.1 = 0 then (f_X5_draftJoined_J145 q13.2 (x0) (x1) (x2) ((z73.2.1))) else (if (z73.1) = 0 then (f_X5_draftJoined_J145 q13.2 (x0) (x1) (x2) ((z73.2.1))) else (f_X5_draftJoined_J146 q13.2 (x0) (x1) (x2) ((z73.2.1)) ((1 : Int32))))))))))))))))
def f_X5_draftJoined_J70 (hh : PH) (x0 : Nat) (x1 : Nat) (x2 : Nat) (x3 : Int32)  : Option (Int32 × PH) :=
  ((lpn (f_X5_draftJoined_L73 (x0) (x1) (x2)) LF (x3, (0 : Int32), hh)).bind (fun w73 => (f_X5_draftJoined_J153 (w73.2) (w73.1))))
def f_X5_draftJoined_J63 (hh : PH) (x0 : Nat) (x1 : Nat) (x2 : Nat) (x4 : Int32) (k0 : Int32) : Option ((Int32 × Int32 × PH) ⊕ (Int32 × PH)) :=
  some (.inl (k0, (x4 + 1), hh))
def f_X5_draftJoined_J62 (hh : PH) (x0 : Nat) (x1 : Nat) (x2 : Nat) (x4 : Int32)  : Option ((Int32 × Int32 × PH) ⊕ (Int32 × PH)) :=
  (f_X5_draftJoined_J63 hh (x0) (x1) (x2) (x4) ((0 : Int32)))
def f_X5_draftJoined_L21 (x0 : Nat) (x1 : Nat) (x2 : Nat) : Int32 × Int32 × PH → Option ((Int32 × Int32 × PH) ⊕ (Int32 × PH)) := fun z21 =>
  ((f_X2_hueCount (z21.2.2) (x1)).bind fun v19 => (if v19 ≤ (z21.2.1) then some (.inr (((z21.1), (z21.2.2)))) else ((f_X2_hueAt (z21.2.2) (x1) ((z21.2.1))).bind fun v20 => ((f_X2_firstFrom (z21.2.2) (x1) (v20) ((0 : Int32))).bind fun v21 => ((f_X5_draftLaid (z21.2.2) (x0) (v20) (v21)).bind fun q24 => (if q24.1 = 0 then (f_X5_draftJoined_J62 q24.2 (x0) (x1) (x2) ((z21.2.1))) else (if (z21.1) = 0 then (f_X5_draftJoined_J62 q24.2 (x0) (x1) (x2) ((z21.2.1))) else (f_X5_draftJoined_J63 q24.2 (x0) (x1) (x2) ((z21.2.1)) ((1 : Int32))))))))))
def f_X5_draftJoined (h : PH) (a0 : Nat) (a1 : Nat) (a2 : Nat) : Option (Int32 × PH) :=
  if okO h a0 4 = true then ((rdR h a0 4 4).bind fun v14 => ((f_X2_length h (a1)).bind fun v15 => ((f_X2_length h (a2)).bind fun v16 => ((f_X2_begin h (v14) ((v15 + v16))).bind fun h17 => ((lpn (f_X5_draftJoined_L21 (a0) (a1) (a2)) LF ((1 : Int32), (0 : Int32), h17)).bind (fun w21 => (f_X5_draftJoined_J70 (w21.2) (a0) (a1) (a2) (w21.1)))))))) else none
def f_X5_reasonAgainstJoining_J78 (h : PH)   : Option (Int32 × PH) :=
  some ((3 : Int32), h)
def f_X5_reasonAgainstJoining_J100 (hh : PH)  (k0 : Int32) : Option (Int32 × PH) :=
  some (k0, hh)
def f_X5_reasonAgainstJoining_J86 (h : PH) (x0 : Nat) (x1 : Nat) (x2 : Nat)  : Option (Int32 × PH) :=
  ((f_X5_draftJoined h (x0) (x1) (x2)).bind fun q3 => (if q3.1 = 0 then (f_X5_reasonAgainstJoining_J100 q3.2 ((4 : Int32))) else (f_X5_reasonAgainstJoining_J100 q3.2 ((0 : Int32)))))
def f_X5_reasonAgainstJoining_J80 (h : PH) (x0 : Nat) (x1 : Nat) (x2 : Nat) (x3 : Int32)  : Option ((Int32) ⊕ (((Unit) ⊕ (Unit)))) :=
  some (.inl ((x3 + 1)))
def f_X5_reasonAgainstJoining_L18 (hh : PH) (x0 : Nat) (x1 : Nat) (x2 : Nat) : Int32 → Option ((Int32) ⊕ (((Unit) ⊕ (Unit)))) := fun z18 =>
  ((f_X2_hueCount hh (x1)).bind fun v7 => (if v7 ≤ z18 then some (.inr (.inl ())) else ((f_X2_hueAt hh (x1) (z18)).bind fun v8 => ((f_X2_lastOf hh (x1) (v8)).bind fun v9 => ((rdR hh x0 4 0).bind fun v10 => ((f_X3_gapAt hh (v10) (v8)).bind fun v11 => ((f_X2_orderOf hh (x2) (v8)).bind fun v12 => (if v12 = ((-1) : Int32) then (f_X5_reasonAgainstJoining_J80 hh (x0) (x1) (x2) (z18)) else ((f_X2_length hh (x1)).bind fun v13 => ((f_X2_firstFrom hh (x2) (v8) ((0 : Int32))).bind fun v14 => (if (v9 + v11) = (v13 + v14) then (f_X5_reasonAgainstJoining_J80 hh (x0) (x1) (x2) (z18)) else some (.inr (.inr (()))))))))))))))
def f_X5_reasonAgainstJoining (h : PH) (a0 : Nat) (a1 : Nat) (a2 : Nat) : Option (Int32 × PH) :=
  if okO h a0 4 = true then ((f_X2_length h (a1)).bind fun v4 => ((f_X2_length h (a2)).bind fun v5 => (if (v4 + v5) ≤ (60 : Int32) then ((lpn (f_X5_reasonAgainstJoining_L18 (h) (a0) (a1) (a2)) LF ((0 : Int32))).bind (fun w18 => match w18 with | .inl w18 => (f_X5_reasonAgainstJoining_J86 h (a0) (a1) (a2)) | .inr w18 => (f_X5_reasonAgainstJoining_J78 h ))) else some ((2 : Int32), h)))) else none
def f_X3_countJoin (h : PH) (a0 : Nat) : Option PH :=
  if okO h a0 2 = true then ((rdI h a0 2 4).bind fun v1 => ((wrF h a0 2 4 (.int ((v1 + (1 : Int32))))).bind fun h2 => some h2)) else none
def f_X5_join_J28 (hh : PH)   : Option (Except (String × PH) (Int32 × PH)) :=
  some (.error ("java/lang/IllegalStateException", hh))
def f_X5_join (h : PH) (a0 : Nat) (a1 : Int32) (a2 : Int32) : Option (Except (String × PH) (Int32 × PH)) :=
  if okO h a0 4 = true then ((f_X5_existing h (a0) (a1)).bind fun r1 => (match r1 with | .error E4 => some (.error (E4, h)) | .ok v2 => ((f_X5_existing h (a0) (a2)).bind fun r5 => (match r5 with | .error E8 => some (.error (E8, h)) | .ok v6 => (if a1 = a2 then (f_X5_join_J28 h ) else ((f_X5_reasonAgainstJoining h (a0) (v2) (v6)).bind fun q11 => (if q11.1 = 0 then ((rdR q11.2 a0 4 2).bind fun v12 => ((rdR q11.2 a0 4 0).bind fun v13 => ((f_X0_save q11.2 (v12) (v13)).bind fun h14 => ((f_X5_draftJoined h14 (a0) (v2) (v6)).bind fun q17 => ((rdR q17.2 a0 4 4).bind fun v18 => ((f_X2_copyFrom q17.2 (v2) (v18)).bind fun h19 => ((rdR h19 a0 4 0).bind fun v20 => ((f_X3_removeRope h19 (v20) (a2)).bind fun h21 => ((rdR h21 a0 4 0).bind fun v22 => ((f_X3_countJoin h21 (v22)).bind fun h23 => ((f_X2_length h23 (v2)).bind fun v24 => some (.ok (v24, h23))))))))))))) else (f_X5_join_J28 q11.2 )))))))) else none
def f_X4_isFull_J17 (h : PH)  (k0 : Int32) : Option Int32 :=
  (if z01 k0 = true then some (k0) else none)
def f_X4_isFull (h : PH) (a0 : Nat) : Option Int32 :=
  if okO h a0 3 = true then ((rdI h a0 3 1).bind fun v2 => ((rdR h a0 3 0).bind fun v3 => ((lnA h v3).bind fun v4 => (if v2 < v4 then (f_X4_isFull_J17 h ((0 : Int32))) else (f_X4_isFull_J17 h ((1 : Int32))))))) else none
def f_X4_add_J39 (hh : PH)   : Option PH :=
  some hh
def f_X4_add (h : PH) (a0 : Nat) (a1 : Int32) : Option PH :=
  if okO h a0 3 = true then ((rdI h a0 3 1).bind fun v1 => (if v1 < 0 then (f_X4_add_J39 h ) else ((rdI h a0 3 1).bind fun v2 => ((rdR h a0 3 0).bind fun v3 => ((lnA h v3).bind fun v4 => (if v4 ≤ v2 then (f_X4_add_J39 h ) else ((rdR h a0 3 0).bind fun v5 => ((rdI h a0 3 1).bind fun v6 => ((stI h v5 v6 a1).bind fun h7 => ((rdI h7 a0 3 1).bind fun v8 => ((wrF h7 a0 3 1 (.int ((v8 + (1 : Int32))))).bind fun h9 => (f_X4_add_J39 h9 )))))))))))) else none
def f_X4_length (h : PH) (a0 : Nat) : Option Int32 :=
  if okO h a0 3 = true then ((rdI h a0 3 1).bind fun v1 => some (v1)) else none
def f_X5_append_J12 (h : PH)   : Option (Except (String × PH) (Int32 × PH)) :=
  some (.error ("java/lang/IllegalArgumentException", h))
def f_X5_append (h : PH) (a0 : Nat) (a1 : Int32) : Option (Except (String × PH) (Int32 × PH)) :=
  if okO h a0 4 = true then (if a1 < (33 : Int32) then (f_X5_append_J12 h ) else (if a1 ≤ (126 : Int32) then ((rdR h a0 4 3).bind fun v1 => ((f_X4_isFull h (v1)).bind fun v2 => (if v2 = 0 then ((rdR h a0 4 3).bind fun v3 => ((f_X4_add h (v3) (a1)).bind fun h4 => ((rdR h4 a0 4 3).bind fun v5 => ((f_X4_length h4 (v5)).bind fun v6 => some (.ok (v6, h4)))))) else some (.error ("java/lang/IllegalStateException", h))))) else (f_X5_append_J12 h ))) else none
def f_X4_empty (h : PH) (a0 : Nat) : Option PH :=
  if okO h a0 3 = true then ((wrF h a0 3 1 (.int ((0 : Int32)))).bind fun h1 => some h1) else none
def f_X5_clearBuffer (h : PH) (a0 : Nat) : Option (Int32 × PH) :=
  if okO h a0 4 = true then ((rdR h a0 4 3).bind fun v1 => ((f_X4_length h (v1)).bind fun v2 => ((rdR h a0 4 3).bind fun v3 => ((f_X4_empty h (v3)).bind fun h4 => some (v2, h4))))) else none
def f_X4_codeAt_J31 (h : PH)  (k0 : Int32) : Option Int32 :=
  some (k0)
def f_X4_codeAt_J30 (h : PH)   : Option Int32 :=
  (f_X4_codeAt_J31 h (((-1) : Int32)))
def f_X4_codeAt (h : PH) (a0 : Nat) (a1 : Int32) : Option Int32 :=
  if okO h a0 3 = true then (if a1 < 0 then (f_X4_codeAt_J30 h ) else ((rdI h a0 3 1).bind fun v1 => (if v1 ≤ a1 then (f_X4_codeAt_J30 h ) else ((rdR h a0 3 0).bind fun v2 => ((lnA h v2).bind fun v3 => (if v3 ≤ a1 then (f_X4_codeAt_J30 h ) else ((rdR h a0 3 0).bind fun v4 => ((ldI h v4 a1).bind fun v5 => (f_X4_codeAt_J31 h (v5)))))))))) else none
def f_X4_isBetween_J15 (h : PH)  (k0 : Int32) : Option Int32 :=
  (if z01 k0 = true then some (k0) else none)
def f_X4_isBetween_J14 (h : PH)   : Option Int32 :=
  (f_X4_isBetween_J15 h ((0 : Int32)))
def f_X4_isBetween (h : PH) (a0 : Int32) (a1 : Int32) (a2 : Int32) : Option Int32 :=
  (if a0 < a1 then (f_X4_isBetween_J14 h ) else (if a2 < a0 then (f_X4_isBetween_J14 h ) else (f_X4_isBetween_J15 h ((1 : Int32)))))
def f_X4_isHue (h : PH) (a0 : Int32) : Option Int32 :=
  ((f_X4_isBetween h (a0) ((97 : Int32)) ((104 : Int32))).bind fun v1 => (if z01 v1 = true then some (v1) else none))
def f_X4_dueBehindFirst (h : PH) (a0 : Int32) : Option Int32 :=
  ((f_X4_isHue h (a0)).bind fun v1 => (if v1 = 0 then (if a0 = 45 then some ((3 : Int32)) else (if a0 = 60 then some ((6 : Int32)) else (if a0 = 114 then some ((1 : Int32)) else some ((7 : Int32))))) else some ((2 : Int32))))
def f_X4_dueBehindLengthDigit_J39 (h : PH)  (k0 : Int32) : Option Int32 :=
  some (k0)
def f_X4_dueBehindLengthDigit (h : PH) (a0 : Int32) : Option Int32 :=
  (if ¬ a0 = (54 : Int32) then ((f_X4_isBetween h (a0) ((49 : Int32)) ((53 : Int32))).bind fun v1 => (if v1 = 0 then ((f_X4_isBetween h (a0) ((55 : Int32)) ((57 : Int32))).bind fun v2 => (if v2 = 0 then (f_X4_dueBehindLengthDigit_J39 h ((7 : Int32))) else (f_X4_dueBehindLengthDigit_J39 h ((6 : Int32))))) else some ((4 : Int32)))) else some ((5 : Int32)))
def f_X4_dueBehindPhaseDigit_J26 (h : PH)  (k0 : Int32) : Option Int32 :=
  some (k0)
def f_X4_dueBehindPhaseDigit (h : PH) (a0 : Int32) : Option Int32 :=
  (if ¬ a0 = (49 : Int32) then ((f_X4_isBetween h (a0) ((48 : Int32)) ((57 : Int32))).bind fun v1 => (if v1 = 0 then (f_X4_dueBehindPhaseDigit_J26 h ((7 : Int32))) else (f_X4_dueBehindPhaseDigit_J26 h ((6 : Int32))))) else some ((4 : Int32)))
def f_X4_dueBehindComma_J12 (h : PH)  (k0 : Int32) : Option Int32 :=
  some (k0)
def f_X4_dueBehindComma (h : PH) (a0 : Int32) : Option Int32 :=
  (if ¬ a0 = (44 : Int32) then (f_X4_dueBehindComma_J12 h ((7 : Int32))) else (f_X4_dueBehindComma_J12 h ((0 : Int32))))
def f_X4_dueBehind_J73 (h : PH)  (k0 : Int32) : Option Int32 :=
  some (k0)
def f_X4_dueBehind_J94 (h : PH)  (k0 : Int32) : Option Int32 :=
  some (k0)
def f_X4_dueBehind_J110 (h : PH)  (k0 : Int32) : Option Int32 :=
  some (k0)
def f_X4_dueBehind (h : PH) (a0 : Int32) (a1 : Int32) : Option Int32 :=
  (if a0 = 0 then ((f_X4_dueBehindFirst h (a1)).bind fun v1 => some (v1)) else (if a0 = 1 then ((f_X4_dueBehindLengthDigit h (a1)).bind fun v2 => some (v2)) else (if a0 = 2 then ((f_X4_dueBehindPhaseDigit h (a1)).bind fun v3 => some (v3)) else (if a0 = 3 then ((f_X4_isHue h (a1)).bind fun v4 => (if v4 = 0 then (f_X4_dueBehind_J73 h ((7 : Int32))) else (f_X4_dueBehind_J73 h ((6 : Int32))))) else (if a0 = 4 then ((f_X4_isBetween h (a1) ((48 : Int32)) ((57 : Int32))).bind fun v5 => (if v5 = 0 then ((f_X4_dueBehindComma h (a1)).bind fun v6 => (f_X4_dueBehind_J94 h (v6))) else (f_X4_dueBehind_J94 h ((6 : Int32))))) else (if a0 = 5 then (if ¬ a1 = (48 : Int32) then ((f_X4_dueBehindComma h (a1)).bind fun v7 => (f_X4_dueBehind_J110 h (v7))) else (f_X4_dueBehind_J110 h ((6 : Int32)))) else (if a0 = 6 then ((f_X4_dueBehindComma h (a1)).bind fun v8 => some (v8)) else some ((7 : Int32)))))))))
def f_X4_firstWrong_J28 (h : PH) (x2 : Int32)  : Option Int32 :=
  some (x2)
def f_X4_firstWrong_J36 (h : PH) (x0 : Nat)  : Option Int32 :=
  ((rdI h x0 3 1).bind fun v1 => some (v1))
def f_X4_firstWrong_L4 (h : PH) (x0 : Nat) : Int32 × Int32 → Option ((Int32 × Int32) ⊕ (((Unit) ⊕ (Int32)))) := fun z4 =>
  ((rdI h x0 3 1).bind fun v3 => (if v3 ≤ (z4.2) then some (.inr (.inl ())) else ((f_X4_codeAt h (x0) ((z4.2))).bind fun v4 => ((f_X4_dueBehind h ((z4.1)) (v4)).bind fun v5 => (if ¬ v5 = (7 : Int32) then some (.inl (v5, ((z4.2) + 1))) else some (.inr (.inr (((z4.2))))))))))
def f_X4_firstWrong (h : PH) (a0 : Nat) : Option Int32 :=
  if okO h a0 3 = true then ((lpn (f_X4_firstWrong_L4 (h) (a0)) LF ((0 : Int32), (0 : Int32))).bind (fun w4 => match w4 with | .inl w4 => (f_X4_firstWrong_J36 h (a0)) | .inr w4 => (f_X4_firstWrong_J28 h (w4)))) else none
def f_X5_firstError (h : PH) (a0 : Nat) : Option Int32 :=
  if okO h a0 4 = true then ((rdR h a0 4 3).bind fun v1 => ((f_X4_firstWrong h (v1)).bind fun v2 => some (v2))) else none
def f_X4_isComplete_J49 (h : PH)  (k0 : Int32) : Option Int32 :=
  (if z01 k0 = true then some (k0) else none)
def f_X4_isComplete_J44 (h : PH)   : Option Int32 :=
  (f_X4_isComplete_J49 h ((1 : Int32)))
def f_X4_isComplete_J28 (h : PH) (x1 : Int32)  : Option Int32 :=
  (if x1 = (4 : Int32) then (f_X4_isComplete_J44 h ) else (if x1 = (5 : Int32) then (f_X4_isComplete_J44 h ) else (if ¬ x1 = (6 : Int32) then (f_X4_isComplete_J49 h ((0 : Int32))) else (f_X4_isComplete_J44 h ))))
def f_X4_isComplete_L4 (h : PH) (x0 : Nat) : Int32 × Int32 → Option ((Int32 × Int32) ⊕ (Int32)) := fun z4 =>
  ((rdI h x0 3 1).bind fun v3 => (if v3 ≤ (z4.2) then some (.inr (((z4.1)))) else ((f_X4_codeAt h (x0) ((z4.2))).bind fun v4 => ((f_X4_dueBehind h ((z4.1)) (v4)).bind fun v5 => some (.inl (v5, ((z4.2) + 1)))))))
def f_X4_isComplete (h : PH) (a0 : Nat) : Option Int32 :=
  if okO h a0 3 = true then ((lpn (f_X4_isComplete_L4 (h) (a0)) LF ((0 : Int32), (0 : Int32))).bind (fun w4 => (f_X4_isComplete_J28 h (w4)))) else none
def f_X4_partEnd_J20 (h : PH) (x2 : Int32)  : Option Int32 :=
  some (x2)
def f_X4_partEnd_J28 (h : PH) (x0 : Nat)  : Option Int32 :=
  ((rdI h x0 3 1).bind fun v1 => some (v1))
def f_X4_partEnd_L2 (h : PH) (x0 : Nat) : Int32 → Option ((Int32) ⊕ (((Unit) ⊕ (Int32)))) := fun z2 =>
  ((rdI h x0 3 1).bind fun v3 => (if v3 ≤ z2 then some (.inr (.inl ())) else ((f_X4_codeAt h (x0) (z2)).bind fun v4 => (if ¬ v4 = (44 : Int32) then some (.inl ((z2 + 1))) else some (.inr (.inr ((z2))))))))
def f_X4_partEnd (h : PH) (a0 : Nat) (a1 : Int32) : Option Int32 :=
  if okO h a0 3 = true then ((lpn (f_X4_partEnd_L2 (h) (a0)) LF (a1)).bind (fun w2 => match w2 with | .inl w2 => (f_X4_partEnd_J28 h (a0)) | .inr w2 => (f_X4_partEnd_J20 h (w2)))) else none
def f_X4_numberIn_J32 (h : PH) (x3 : Int32)  : Option Int32 :=
  some (x3)
def f_X4_numberIn_L5 (h : PH) (x0 : Nat) (x2 : Int32) : Int32 × Int32 → Option ((Int32 × Int32) ⊕ (Int32)) := fun z5 =>
  (if x2 ≤ (z5.2) then some (.inr (((z5.1)))) else ((f_X4_codeAt h (x0) ((z5.2))).bind fun v2 => some (.inl (((((10 : Int32) * (z5.1)) + v2) - (48 : Int32)), ((z5.2) + 1)))))
def f_X4_numberIn (h : PH) (a0 : Nat) (a1 : Int32) (a2 : Int32) : Option Int32 :=
  if okO h a0 3 = true then ((lpn (f_X4_numberIn_L5 (h) (a0) (a2)) LF ((0 : Int32), a1)).bind (fun w5 => (f_X4_numberIn_J32 h (w5)))) else none
def f_X5_playLaying_J27 (h : PH)   : Option (Int32 × PH) :=
  some ((0 : Int32), h)
def f_X5_playLaying (h : PH) (a0 : Nat) (a1 : Nat) (a2 : Int32) (a3 : Int32) : Option (Int32 × PH) :=
  if okO h a0 4 = true then ((rdR h a0 4 0).bind fun v1 => ((f_X3_gapAt h (v1) (a2)).bind fun v2 => (if v2 ≤ a3 then (f_X5_playLaying_J27 h ) else ((f_X2_reasonAgainst h (a1) (a2) (a3) (v2)).bind fun v3 => (if v3 = 0 then ((rdR h a0 4 0).bind fun v4 => ((f_X3_layOn h (v4) (a1) (a2) (a3)).bind fun q7 => some ((1 : Int32), q7.2))) else (f_X5_playLaying_J27 h )))))) else none
def f_X5_playPart_J41 (hh : PH)  (k0 : Int32) : Option (Int32 × PH) :=
  (if z01 k0 = true then some (k0, hh) else none)
def f_X5_playPart_J114 (hh : PH)  (k0 : Int32) : Option (Int32 × PH) :=
  (if z01 k0 = true then some (k0, hh) else none)
def f_X5_playPart (h : PH) (a0 : Nat) (a1 : Int32) (a2 : Int32) : Option (Int32 × PH) :=
  if okO h a0 4 = true then ((rdR h a0 4 3).bind fun v3 => ((f_X4_codeAt h (v3) (a1)).bind fun v4 => (if ¬ v4 = (114 : Int32) then ((rdR h a0 4 0).bind fun v5 => ((rdR h a0 4 0).bind fun v6 => ((f_X3_ropeCount h (v6)).bind fun v7 => ((f_X3_ropeAt h (v5) ((v7 - (1 : Int32)))).bind fun v8 => (match v8 with | none => some ((0 : Int32), h) | some a9 => (if ¬ v4 = (60 : Int32) then (if ¬ v4 = (45 : Int32) then ((rdR h a0 4 3).bind fun v10 => ((f_X4_numberIn h (v10) ((a1 + (1 : Int32))) (a2)).bind fun v11 => ((f_X5_playLaying h (a0) (a9) ((v4 - (97 : Int32))) (v11)).bind fun q14 => (if z01 q14.1 = true then some (q14.1, q14.2) else none)))) else ((rdR h a0 4 3).bind fun v16 => ((f_X4_codeAt h (v16) ((a1 + (1 : Int32)))).bind fun v17 => ((f_X2_remove h (a9) ((v17 - (97 : Int32)))).bind fun q20 => (if q20.1 ≤ 0 then (f_X5_playPart_J114 q20.2 ((0 : Int32))) else (f_X5_playPart_J114 q20.2 ((1 : Int32)))))))) else ((f_X5_turnRound h (a0) (a9)).bind fun q23 => some ((1 : Int32), q23.2)))))))) else ((rdR h a0 4 0).bind fun v24 => ((rdR h a0 4 3).bind fun v25 => ((f_X4_numberIn h (v25) ((a1 + (1 : Int32))) (a2)).bind fun v26 => ((f_X3_addRope h (v24) (v26)).bind fun q29 => (match q29.1 with | none => (f_X5_playPart_J41 q29.2 ((0 : Int32))) | some a30 => (f_X5_playPart_J41 q29.2 ((1 : Int32))))))))))) else none
def f_X5_play_J91 (hh : PH) (x0 : Nat) (x1 : Int32)  : Option (Except (String × PH) (Int32 × PH)) :=
  ((rdR hh x0 4 3).bind fun v1 => ((f_X4_empty hh (v1)).bind fun h2 => some (.ok (x1, h2))))
def f_X5_play_J74 (hh : PH) (x0 : Nat) (x1 : Int32)  : Option (Except (String × PH) (Int32 × PH)) :=
  (f_X5_play_J91 hh (x0) (x1))
def f_X5_play_L37 (x0 : Nat) : Int32 × Int32 × Int32 × PH → Option ((Int32 × Int32 × Int32 × PH) ⊕ (((Int32 × PH) ⊕ (Int32 × PH)))) := fun z37 =>
  (if (60 : Int32) ≤ (z37.2.2.1) then some (.inr (.inl ((z37.1), (z37.2.2.2)))) else ((rdR (z37.2.2.2) x0 4 3).bind fun v9 => ((f_X4_length (z37.2.2.2) (v9)).bind fun v10 => (if v10 ≤ (z37.2.1) then some (.inr (.inl ((z37.1), (z37.2.2.2)))) else ((rdR (z37.2.2.2) x0 4 3).bind fun v11 => ((f_X4_partEnd (z37.2.2.2) (v11) ((z37.2.1))).bind fun v12 => ((f_X5_playPart (z37.2.2.2) (x0) ((z37.2.1)) (v12)).bind fun q15 => (if ¬ q15.1 = 0 then some (.inl (((z37.1) + 1), (v12 + (1 : Int32)), ((z37.2.2.1) + 1), q15.2)) else some (.inr (.inr (((z37.1), q15.2))))))))))))
def f_X5_play (h : PH) (a0 : Nat) : Option (Except (String × PH) (Int32 × PH)) :=
  if okO h a0 4 = true then ((rdR h a0 4 3).bind fun v3 => ((f_X4_isComplete h (v3)).bind fun v4 => (if ¬ v4 = 0 then ((rdR h a0 4 2).bind fun v5 => ((rdR h a0 4 0).bind fun v6 => ((f_X0_save h (v5) (v6)).bind fun h7 => ((lpn (f_X5_play_L37 (a0)) LF ((0 : Int32), (0 : Int32), (0 : Int32), h7)).bind (fun w37 => match w37 with | .inl w37 => (f_X5_play_J91 (w37.2) (a0) (w37.1)) | .inr w37 => (f_X5_play_J74 (w37.2) (a0) (w37.1))))))) else some (.error ("java/lang/IllegalArgumentException", h))))) else none
def f_X0_size (h : PH) (a0 : Nat) : Option Int32 :=
  if okO h a0 0 = true then ((rdI h a0 0 1).bind fun v1 => some (v1)) else none
def f_X0_restoreLatest_J30 (hh : PH)   : Option PH :=
  some hh
def f_X0_restoreLatest (h : PH) (a0 : Nat) (a1 : Nat) : Option PH :=
  if okO h a0 0 = true then ((rdI h a0 0 1).bind fun v1 => ((f_X0_rowAt h (a0) ((v1 - (1 : Int32)))).bind fun v2 => (match v2 with | none => (f_X0_restoreLatest_J30 h ) | some a3 => ((f_X3_copyFrom h (a1) (a3)).bind fun h4 => ((rdI h4 a0 0 1).bind fun v5 => ((wrF h4 a0 0 1 (.int ((v5 - (1 : Int32))))).bind fun h6 => (f_X0_restoreLatest_J30 h6 ))))))) else none
def f_X5_undo (h : PH) (a0 : Nat) : Option (Except (String × PH) (Int32 × PH)) :=
  if okO h a0 4 = true then ((rdR h a0 4 2).bind fun v1 => ((f_X0_size h (v1)).bind fun v2 => (if ¬ v2 = 0 then ((rdR h a0 4 2).bind fun v3 => ((rdR h a0 4 0).bind fun v4 => ((f_X0_restoreLatest h (v3) (v4)).bind fun h5 => ((rdR h5 a0 4 2).bind fun v6 => ((f_X0_size h5 (v6)).bind fun v7 => some (.ok (v7, h5))))))) else some (.error ("java/lang/IllegalStateException", h))))) else none
def f_X5_keep (h : PH) (a0 : Nat) : Option (Int32 × PH) :=
  if okO h a0 4 = true then ((rdR h a0 4 1).bind fun v1 => ((rdR h a0 4 0).bind fun v2 => ((f_X3_copyFrom h (v1) (v2)).bind fun h3 => ((wrF h3 a0 4 5 (.int ((1 : Int32)))).bind fun h4 => ((rdR h4 a0 4 0).bind fun v5 => ((f_X3_ropeCount h4 (v5)).bind fun v6 => some (v6, h4))))))) else none
def f_X5_restore (h : PH) (a0 : Nat) : Option (Except (String × PH) (Int32 × PH)) :=
  if okO h a0 4 = true then ((rdI h a0 4 5).bind fun v1 => (if ¬ v1 = 0 then ((rdR h a0 4 2).bind fun v2 => ((rdR h a0 4 0).bind fun v3 => ((f_X0_save h (v2) (v3)).bind fun h4 => ((rdR h4 a0 4 0).bind fun v5 => ((rdR h4 a0 4 1).bind fun v6 => ((f_X3_copyFrom h4 (v5) (v6)).bind fun h7 => ((rdR h7 a0 4 0).bind fun v8 => ((f_X3_ropeCount h7 (v8)).bind fun v9 => some (.ok (v9, h7)))))))))) else some (.error ("java/lang/IllegalStateException", h)))) else none
def f_X5_place_J18 (h : PH)   : Option (Except String Int32) :=
  some (.error "java/lang/IndexOutOfBoundsException")
def f_X5_place (h : PH) (a0 : Nat) (a1 : Int32) (a2 : Int32) : Option (Except String Int32) :=
  if okO h a0 4 = true then ((f_X5_existing h (a0) (a1)).bind fun r1 => (match r1 with | .error E4 => some (.error E4) | .ok v2 => (if a2 < 0 then (f_X5_place_J18 h ) else ((f_X2_length h (v2)).bind fun v5 => (if a2 < v5 then ((f_X2_colourAt h (v2) (a2)).bind fun v6 => some (.ok (v6))) else (f_X5_place_J18 h )))))) else none
def f_X5_requireWhat_J9 (h : PH)   : Option (Except String Unit) :=
  some (.error "java/lang/IllegalArgumentException")
def f_X5_requireWhat (h : PH) (a0 : Nat) (a1 : Int32) (a2 : Int32) : Option (Except String Unit) :=
  if okO h a0 4 = true then (if a1 < 0 then (f_X5_requireWhat_J9 h ) else (if a1 < a2 then some (.ok ()) else (f_X5_requireWhat_J9 h ))) else none
def f_X2_mostHolesSideBySide_J43 (h : PH) (x1 : Int32)  : Option Int32 :=
  some (x1)
def f_X2_mostHolesSideBySide_J30 (h : PH) (x0 : Nat) (x1 : Int32) (x3 : Int32) (k0 : Int32) : Option ((Int32 × Int32 × Int32) ⊕ (Int32)) :=
  some (.inl ((if x1 < k0 then k0 else x1), k0, (x3 + 1)))
def f_X2_mostHolesSideBySide_L6 (h : PH) (x0 : Nat) : Int32 × Int32 × Int32 → Option ((Int32 × Int32 × Int32) ⊕ (Int32)) := fun z6 =>
  ((rdI h x0 1 2).bind fun v2 => (if v2 ≤ (z6.2.2) then some (.inr (((z6.1)))) else ((f_X2_colourAt h (x0) ((z6.2.2))).bind fun v3 => (if ¬ v3 = ((-1) : Int32) then (f_X2_mostHolesSideBySide_J30 h (x0) ((z6.1)) ((z6.2.2)) ((0 : Int32))) else (f_X2_mostHolesSideBySide_J30 h (x0) ((z6.1)) ((z6.2.2)) (((z6.2.1) + (1 : Int32))))))))
def f_X2_mostHolesSideBySide (h : PH) (a0 : Nat) : Option Int32 :=
  if okO h a0 1 = true then ((lpn (f_X2_mostHolesSideBySide_L6 (h) (a0)) LF ((0 : Int32), (0 : Int32), (0 : Int32))).bind (fun w6 => (f_X2_mostHolesSideBySide_J43 h (w6)))) else none
def f_X1_greatestCommonDivisor_J34 (h : PH) (x2 : Int32)  : Option Int32 :=
  some (x2)
def f_X1_greatestCommonDivisor_L7 (h : PH)  : Int32 × Int32 × Int32 → Option ((Int32 × Int32 × Int32) ⊕ (Int32)) := fun z7 =>
  (if (64 : Int32) ≤ (z7.2.2) then some (.inr (((z7.1)))) else (if (z7.2.1) ≤ 0 then some (.inr (((z7.1)))) else (if ¬ (z7.2.1) = 0 then some (.inl ((z7.2.1), ((z7.1) - (z7.1) / (z7.2.1) * (z7.2.1)), ((z7.2.2) + 1))) else none)))
def f_X1_greatestCommonDivisor (h : PH) (a0 : Int32) (a1 : Int32) : Option Int32 :=
  ((lpn (f_X1_greatestCommonDivisor_L7 (h)) LF (a0, a1, (0 : Int32))).bind (fun w7 => (f_X1_greatestCommonDivisor_J34 h (w7))))
def f_X1_leastCommonMultiple_J19 (h : PH)  (k0 : Int32) : Option Int32 :=
  some (k0)
def f_X1_leastCommonMultiple (h : PH) (a0 : Int32) (a1 : Int32) : Option Int32 :=
  ((f_X1_greatestCommonDivisor h (a0) (a1)).bind fun v1 => (if v1 ≤ 0 then (f_X1_leastCommonMultiple_J19 h ((0 : Int32))) else (if ¬ v1 = 0 then (f_X1_leastCommonMultiple_J19 h (((a0 / v1) * a1))) else none)))
def f_X5_period_J35 (h : PH) (x2 : Int32)  : Option Int32 :=
  some (x2)
def f_X5_period_L4 (h : PH) (x0 : Nat) (x1 : Nat) : Int32 × Int32 → Option ((Int32 × Int32) ⊕ (Int32)) := fun z4 =>
  ((f_X2_hueCount h (x1)).bind fun v2 => (if v2 ≤ (z4.2) then some (.inr (((z4.1)))) else ((rdR h x0 4 0).bind fun v3 => ((f_X2_hueAt h (x1) ((z4.2))).bind fun v4 => ((f_X3_gapAt h (v3) (v4)).bind fun v5 => ((f_X1_leastCommonMultiple h ((z4.1)) (v5)).bind fun v6 => some (.inl (v6, ((z4.2) + 1)))))))))
def f_X5_period (h : PH) (a0 : Nat) (a1 : Nat) : Option Int32 :=
  if okO h a0 4 = true then ((lpn (f_X5_period_L4 (h) (a0) (a1)) LF ((1 : Int32), (0 : Int32))).bind (fun w4 => (f_X5_period_J35 h (w4)))) else none
def f_X5_ropeNumber (h : PH) (a0 : Nat) (a1 : Nat) (a2 : Int32) : Option Int32 :=
  if okO h a0 4 = true then (if a2 = 0 then ((f_X2_length h (a1)).bind fun v1 => some (v1)) else (if a2 = 1 then ((f_X2_hueCount h (a1)).bind fun v2 => some (v2)) else (if a2 = 2 then ((f_X2_placesOf h (a1) (((-1) : Int32))).bind fun v3 => some (v3)) else (if a2 = 3 then ((f_X2_firstFrom h (a1) (((-1) : Int32)) ((0 : Int32))).bind fun v4 => some (v4)) else (if a2 = 4 then ((f_X2_mostHolesSideBySide h (a1)).bind fun v5 => some (v5)) else ((f_X5_period h (a0) (a1)).bind fun v6 => some (v6))))))) else none
def f_X5_ropeOf (h : PH) (a0 : Nat) (a1 : Int32) (a2 : Int32) : Option (Except String Int32) :=
  if okO h a0 4 = true then ((f_X5_existing h (a0) (a1)).bind fun r1 => (match r1 with | .error E4 => some (.error E4) | .ok v2 => ((f_X5_requireWhat h (a0) (a2) ((6 : Int32))).bind fun r5 => (match r5 with | .error E8 => some (.error E8) | .ok v6 => ((f_X5_ropeNumber h (a0) (v2) (a2)).bind fun v9 => some (.ok (v9))))))) else none
def f_X2_hueNumber (h : PH) (a0 : Nat) (a1 : Int32) (a2 : Int32) : Option Int32 :=
  if okO h a0 1 = true then ((f_X2_orderOf h (a0) (a1)).bind fun v1 => (if ¬ v1 = ((-1) : Int32) then (if a2 = 0 then ((f_X2_firstFrom h (a0) (a1) ((0 : Int32))).bind fun v2 => some (v2)) else (if a2 = 1 then ((f_X2_placesOf h (a0) (a1)).bind fun v3 => some (v3)) else (if a2 = 2 then ((f_X2_lastOf h (a0) (a1)).bind fun v4 => some (v4)) else some (v1)))) else some (((-1) : Int32)))) else none
def f_X5_hueOf (h : PH) (a0 : Nat) (a1 : Int32) (a2 : Int32) (a3 : Int32) : Option (Except String Int32) :=
  if okO h a0 4 = true then ((f_X5_existing h (a0) (a1)).bind fun r1 => (match r1 with | .error E4 => some (.error E4) | .ok v2 => ((f_X5_requireHue h (a0) (a2)).bind fun r5 => (match r5 with | .error E8 => some (.error E8) | .ok v6 => ((f_X5_requireWhat h (a0) (a3) ((4 : Int32))).bind fun r9 => (match r9 with | .error E12 => some (.error E12) | .ok v10 => ((f_X2_hueNumber h (v2) (a2) (a3)).bind fun v13 => some (.ok (v13))))))))) else none
def f_X5_gapOf (h : PH) (a0 : Nat) (a1 : Int32) : Option (Except String Int32) :=
  if okO h a0 4 = true then ((f_X5_requireHue h (a0) (a1)).bind fun r1 => (match r1 with | .error E4 => some (.error E4) | .ok v2 => ((rdR h a0 4 0).bind fun v5 => ((f_X3_gapAt h (v5) (a1)).bind fun v6 => some (.ok (v6)))))) else none
def f_X3_places_J39 (h : PH) (x1 : Int32)  : Option Int32 :=
  some (x1)
def f_X3_places_J31 (h : PH) (x0 : Nat) (x2 : Int32) (k0 : Int32) (k1 : Int32) : Option ((Int32 × Int32) ⊕ (Int32)) :=
  some (.inl ((k0 + k1), (x2 + 1)))
def f_X3_places_L4 (h : PH) (x0 : Nat) : Int32 × Int32 → Option ((Int32 × Int32) ⊕ (Int32)) := fun z4 =>
  ((rdI h x0 2 2).bind fun v2 => (if v2 ≤ (z4.2) then some (.inr (((z4.1)))) else ((f_X3_ropeAt h (x0) ((z4.2))).bind fun v3 => (match v3 with | none => (f_X3_places_J31 h (x0) ((z4.2)) ((z4.1)) ((0 : Int32))) | some a4 => ((f_X2_length h (a4)).bind fun v5 => (f_X3_places_J31 h (x0) ((z4.2)) ((z4.1)) (v5)))))))
def f_X3_places (h : PH) (a0 : Nat) : Option Int32 :=
  if okO h a0 2 = true then ((lpn (f_X3_places_L4 (h) (a0)) LF ((0 : Int32), (0 : Int32))).bind (fun w4 => (f_X3_places_J39 h (w4)))) else none
def f_X3_holes_J40 (h : PH) (x1 : Int32)  : Option Int32 :=
  some (x1)
def f_X3_holes_J32 (h : PH) (x0 : Nat) (x2 : Int32) (k0 : Int32) (k1 : Int32) : Option ((Int32 × Int32) ⊕ (Int32)) :=
  some (.inl ((k0 + k1), (x2 + 1)))
def f_X3_holes_L4 (h : PH) (x0 : Nat) : Int32 × Int32 → Option ((Int32 × Int32) ⊕ (Int32)) := fun z4 =>
  ((rdI h x0 2 2).bind fun v2 => (if v2 ≤ (z4.2) then some (.inr (((z4.1)))) else ((f_X3_ropeAt h (x0) ((z4.2))).bind fun v3 => (match v3 with | none => (f_X3_holes_J32 h (x0) ((z4.2)) ((z4.1)) ((0 : Int32))) | some a4 => ((f_X2_placesOf h (a4) (((-1) : Int32))).bind fun v5 => (f_X3_holes_J32 h (x0) ((z4.2)) ((z4.1)) (v5)))))))
def f_X3_holes (h : PH) (a0 : Nat) : Option Int32 :=
  if okO h a0 2 = true then ((lpn (f_X3_holes_L4 (h) (a0)) LF ((0 : Int32), (0 : Int32))).bind (fun w4 => (f_X3_holes_J40 h (w4)))) else none
def f_X3_laidHues_J27 (h : PH) (x1 : Int32)  : Option Int32 :=
  some (x1)
def f_X3_laidHues_J21 (h : PH) (x0 : Nat) (x1 : Int32) (x2 : Int32)  : Option ((Int32 × Int32) ⊕ (Int32)) :=
  some (.inl (x1, (x2 + 1)))
def f_X3_laidHues_L4 (h : PH) (x0 : Nat) : Int32 × Int32 → Option ((Int32 × Int32) ⊕ (Int32)) := fun z4 =>
  (if (8 : Int32) ≤ (z4.2) then some (.inr (((z4.1)))) else ((f_X3_isLaidOnSome h (x0) ((z4.2))).bind fun v2 => (if v2 = 0 then (f_X3_laidHues_J21 h (x0) ((z4.1)) ((z4.2))) else (f_X3_laidHues_J21 h (x0) (((z4.1) + 1)) ((z4.2))))))
def f_X3_laidHues (h : PH) (a0 : Nat) : Option Int32 :=
  if okO h a0 2 = true then ((lpn (f_X3_laidHues_L4 (h) (a0)) LF ((0 : Int32), (0 : Int32))).bind (fun w4 => (f_X3_laidHues_J27 h (w4)))) else none
def f_X3_layings (h : PH) (a0 : Nat) : Option Int32 :=
  if okO h a0 2 = true then ((rdI h a0 2 3).bind fun v1 => some (v1)) else none
def f_X3_joins (h : PH) (a0 : Nat) : Option Int32 :=
  if okO h a0 2 = true then ((rdI h a0 2 4).bind fun v1 => some (v1)) else none
def f_X3_cuts (h : PH) (a0 : Nat) : Option Int32 :=
  if okO h a0 2 = true then ((rdI h a0 2 5).bind fun v1 => some (v1)) else none
def f_X5_counted (h : PH) (a0 : Nat) (a1 : Int32) : Option Int32 :=
  if okO h a0 4 = true then (if a1 = 0 then ((rdR h a0 4 0).bind fun v1 => ((f_X3_ropeCount h (v1)).bind fun v2 => some (v2))) else (if a1 = 1 then ((rdR h a0 4 0).bind fun v3 => ((f_X3_places h (v3)).bind fun v4 => some (v4))) else (if a1 = 2 then ((rdR h a0 4 0).bind fun v5 => ((f_X3_holes h (v5)).bind fun v6 => some (v6))) else (if a1 = 3 then ((rdR h a0 4 0).bind fun v7 => ((f_X3_laidHues h (v7)).bind fun v8 => some (v8))) else (if a1 = 4 then ((rdR h a0 4 0).bind fun v9 => ((f_X3_layings h (v9)).bind fun v10 => some (v10))) else (if a1 = 5 then ((rdR h a0 4 0).bind fun v11 => ((f_X3_joins h (v11)).bind fun v12 => some (v12))) else (if a1 = 6 then ((rdR h a0 4 0).bind fun v13 => ((f_X3_cuts h (v13)).bind fun v14 => some (v14))) else ((rdR h a0 4 2).bind fun v15 => ((f_X0_size h (v15)).bind fun v16 => some (v16)))))))))) else none
def f_X5_count (h : PH) (a0 : Nat) (a1 : Int32) : Option (Except String Int32) :=
  if okO h a0 4 = true then ((f_X5_requireWhat h (a0) (a1) ((8 : Int32))).bind fun r1 => (match r1 with | .error E4 => some (.error E4) | .ok v2 => ((f_X5_counted h (a0) (a1)).bind fun v5 => some (.ok (v5))))) else none
def f_X5_refusal (h : PH) (a0 : Nat) (a1 : Int32) (a2 : Int32) (a3 : Int32) : Option (Except String Int32) :=
  if okO h a0 4 = true then ((f_X5_existing h (a0) (a1)).bind fun r1 => (match r1 with | .error E4 => some (.error E4) | .ok v2 => ((f_X5_requireHue h (a0) (a2)).bind fun r5 => (match r5 with | .error E8 => some (.error E8) | .ok v6 => ((f_X5_requirePhase h (a0) (a2) (a3)).bind fun r9 => (match r9 with | .error E12 => some (.error E12) | .ok v10 => ((rdR h a0 4 0).bind fun v13 => ((f_X3_gapAt h (v13) (a2)).bind fun v14 => ((f_X2_reasonAgainst h (v2) (a2) (a3) (v14)).bind fun v15 => some (.ok (v15))))))))))) else none
def f_X1_meetByRemainders_J48 (h : PH) (x5 : Int32)  : Option Int32 :=
  some (x5)
def f_X1_meetByRemainders_J63 (h : PH)   : Option Int32 :=
  some (((-1) : Int32))
def f_X1_meetByRemainders_J51 (h : PH) (x0 : Int32) (x2 : Int32) (x3 : Int32) (x5 : Int32) (x6 : Int32)  : Option ((Int32 × Int32) ⊕ (((Unit) ⊕ (Int32)))) :=
  some (.inl ((x5 + x0), (x6 + 1)))
def f_X1_meetByRemainders_L26 (h : PH) (x0 : Int32) (x2 : Int32) (x3 : Int32) : Int32 × Int32 → Option ((Int32 × Int32) ⊕ (((Unit) ⊕ (Int32)))) := fun z26 =>
  (if x2 ≤ (z26.2) then some (.inr (.inl ())) else (if (z26.1) < x3 then (f_X1_meetByRemainders_J51 h (x0) (x2) (x3) ((z26.1)) ((z26.2))) else ((f_X1_remainder h ((z26.1)) (x2)).bind fun v4 => (if ¬ v4 = x3 then (f_X1_meetByRemainders_J51 h (x0) (x2) (x3) ((z26.1)) ((z26.2))) else some (.inr (.inr (((z26.1)))))))))
def f_X1_meetByRemainders (h : PH) (a0 : Int32) (a1 : Int32) (a2 : Int32) (a3 : Int32) : Option Int32 :=
  ((f_X1_greatestCommonDivisor h (a0) (a2)).bind fun v1 => ((f_X1_remainder h ((a1 - a3)) (v1)).bind fun v2 => (if v2 = 0 then ((lpn (f_X1_meetByRemainders_L26 (h) (a0) (a2) (a3)) LF (a1, (0 : Int32))).bind (fun w26 => match w26 with | .inl w26 => (f_X1_meetByRemainders_J63 h ) | .inr w26 => (f_X1_meetByRemainders_J48 h (w26)))) else some (((-1) : Int32)))))
def f_X5_meeting (h : PH) (a0 : Nat) (a1 : Int32) (a2 : Int32) (a3 : Int32) (a4 : Int32) : Option (Except String Int32) :=
  if okO h a0 4 = true then ((f_X5_requireHue h (a0) (a1)).bind fun r1 => (match r1 with | .error E4 => some (.error E4) | .ok v2 => ((f_X5_requireHue h (a0) (a3)).bind fun r5 => (match r5 with | .error E8 => some (.error E8) | .ok v6 => ((f_X5_requirePhase h (a0) (a1) (a2)).bind fun r9 => (match r9 with | .error E12 => some (.error E12) | .ok v10 => ((f_X5_requirePhase h (a0) (a3) (a4)).bind fun r13 => (match r13 with | .error E16 => some (.error E16) | .ok v14 => ((rdR h a0 4 0).bind fun v17 => ((f_X3_gapAt h (v17) (a1)).bind fun v18 => ((rdR h a0 4 0).bind fun v19 => ((f_X3_gapAt h (v19) (a3)).bind fun v20 => ((f_X1_meetByRemainders h (v18) (a2) (v20) (a4)).bind fun v21 => some (.ok (v21))))))))))))))) else none
def f_X1_meetByWalking_J40 (h : PH) (x4 : Int32)  : Option Int32 :=
  some (x4)
def f_X1_meetByWalking_J71 (h : PH)   : Option Int32 :=
  some (((-1) : Int32))
def f_X1_meetByWalking_J65 (h : PH) (x0 : Int32) (x2 : Int32) (x4 : Int32) (x5 : Int32) (x6 : Int32)  : Option ((Int32 × Int32 × Int32) ⊕ (((Unit) ⊕ (Int32)))) :=
  some (.inl (x4, x5, (x6 + 1)))
def f_X1_meetByWalking_L9 (h : PH) (x0 : Int32) (x2 : Int32) : Int32 × Int32 × Int32 → Option ((Int32 × Int32 × Int32) ⊕ (((Unit) ⊕ (Int32)))) := fun z9 =>
  (if (800 : Int32) ≤ (z9.2.2) then some (.inr (.inl ())) else (if (800 : Int32) ≤ (z9.1) then some (.inr (.inl ())) else (if (800 : Int32) ≤ (z9.2.1) then some (.inr (.inl ())) else (if ¬ (z9.1) = (z9.2.1) then (if (z9.2.1) ≤ (z9.1) then (f_X1_meetByWalking_J65 h (x0) (x2) ((z9.1)) (((z9.2.1) + x2)) ((z9.2.2))) else (f_X1_meetByWalking_J65 h (x0) (x2) (((z9.1) + x0)) ((z9.2.1)) ((z9.2.2)))) else some (.inr (.inr (((z9.1)))))))))
def f_X1_meetByWalking (h : PH) (a0 : Int32) (a1 : Int32) (a2 : Int32) (a3 : Int32) : Option Int32 :=
  ((lpn (f_X1_meetByWalking_L9 (h) (a0) (a2)) LF (a1, a3, (0 : Int32))).bind (fun w9 => match w9 with | .inl w9 => (f_X1_meetByWalking_J71 h ) | .inr w9 => (f_X1_meetByWalking_J40 h (w9))))
def f_X5_walked (h : PH) (a0 : Nat) (a1 : Int32) (a2 : Int32) (a3 : Int32) (a4 : Int32) : Option (Except String Int32) :=
  if okO h a0 4 = true then ((f_X5_requireHue h (a0) (a1)).bind fun r1 => (match r1 with | .error E4 => some (.error E4) | .ok v2 => ((f_X5_requireHue h (a0) (a3)).bind fun r5 => (match r5 with | .error E8 => some (.error E8) | .ok v6 => ((f_X5_requirePhase h (a0) (a1) (a2)).bind fun r9 => (match r9 with | .error E12 => some (.error E12) | .ok v10 => ((f_X5_requirePhase h (a0) (a3) (a4)).bind fun r13 => (match r13 with | .error E16 => some (.error E16) | .ok v14 => ((rdR h a0 4 0).bind fun v17 => ((f_X3_gapAt h (v17) (a1)).bind fun v18 => ((rdR h a0 4 0).bind fun v19 => ((f_X3_gapAt h (v19) (a3)).bind fun v20 => ((f_X1_meetByWalking h (v18) (a2) (v20) (a4)).bind fun v21 => some (.ok (v21))))))))))))))) else none
def f_X2_fittingPhases_J31 (h : PH) (x3 : Int32)  : Option Int32 :=
  some (x3)
def f_X2_fittingPhases_J25 (h : PH) (x0 : Nat) (x1 : Int32) (x2 : Int32) (x3 : Int32) (x4 : Int32)  : Option ((Int32 × Int32) ⊕ (Int32)) :=
  some (.inl (x3, (x4 + 1)))
def f_X2_fittingPhases_L5 (h : PH) (x0 : Nat) (x1 : Int32) (x2 : Int32) : Int32 × Int32 → Option ((Int32 × Int32) ⊕ (Int32)) := fun z5 =>
  (if x2 ≤ (z5.2) then some (.inr (((z5.1)))) else ((f_X2_reasonAgainst h (x0) (x1) ((z5.2)) (x2)).bind fun v2 => (if ¬ v2 = 0 then (f_X2_fittingPhases_J25 h (x0) (x1) (x2) ((z5.1)) ((z5.2))) else (f_X2_fittingPhases_J25 h (x0) (x1) (x2) (((z5.1) + 1)) ((z5.2))))))
def f_X2_fittingPhases (h : PH) (a0 : Nat) (a1 : Int32) (a2 : Int32) : Option Int32 :=
  if okO h a0 1 = true then ((lpn (f_X2_fittingPhases_L5 (h) (a0) (a1) (a2)) LF ((0 : Int32), (0 : Int32))).bind (fun w5 => (f_X2_fittingPhases_J31 h (w5)))) else none
def f_X2_lowestPhase_J17 (h : PH) (x3 : Int32)  : Option Int32 :=
  some (x3)
def f_X2_lowestPhase_J25 (h : PH)   : Option Int32 :=
  some (((-1) : Int32))
def f_X2_lowestPhase_L2 (h : PH) (x0 : Nat) (x1 : Int32) (x2 : Int32) : Int32 → Option ((Int32) ⊕ (((Unit) ⊕ (Int32)))) := fun z2 =>
  (if x2 ≤ z2 then some (.inr (.inl ())) else ((f_X2_reasonAgainst h (x0) (x1) (z2) (x2)).bind fun v2 => (if ¬ v2 = 0 then some (.inl ((z2 + 1))) else some (.inr (.inr ((z2)))))))
def f_X2_lowestPhase (h : PH) (a0 : Nat) (a1 : Int32) (a2 : Int32) : Option Int32 :=
  if okO h a0 1 = true then ((lpn (f_X2_lowestPhase_L2 (h) (a0) (a1) (a2)) LF ((0 : Int32))).bind (fun w2 => match w2 with | .inl w2 => (f_X2_lowestPhase_J25 h ) | .inr w2 => (f_X2_lowestPhase_J17 h (w2)))) else none
def f_X2_placesFrom_J34 (h : PH) (x3 : Int32)  : Option Int32 :=
  some (x3)
def f_X2_placesFrom_L12 (h : PH) (x0 : Nat) (x4 : Int32) : Int32 × Int32 → Option ((Int32 × Int32) ⊕ (Int32)) := fun z12 =>
  ((rdI h x0 1 2).bind fun v2 => (if v2 ≤ (z12.2) then some (.inr (((z12.1)))) else some (.inl (((z12.1) + 1), ((z12.2) + x4)))))
def f_X2_placesFrom (h : PH) (a0 : Nat) (a1 : Int32) (a2 : Int32) : Option Int32 :=
  if okO h a0 1 = true then ((lpn (f_X2_placesFrom_L12 (h) (a0) ((if (1 : Int32) < a2 then a2 else (1 : Int32)))) LF ((0 : Int32), a1)).bind (fun w12 => (f_X2_placesFrom_J34 h (w12)))) else none
def f_X2_fillingPhase_J54 (h : PH) (x3 : Int32)  : Option Int32 :=
  some (x3)
def f_X2_fillingPhase_J48 (h : PH) (x0 : Nat) (x1 : Int32) (x2 : Int32) (x3 : Int32) (x4 : Int32) (x5 : Int32)  : Option ((Int32 × Int32 × Int32) ⊕ (Int32)) :=
  some (.inl (x3, x4, (x5 + 1)))
def f_X2_fillingPhase_L8 (h : PH) (x0 : Nat) (x1 : Int32) (x2 : Int32) : Int32 × Int32 × Int32 → Option ((Int32 × Int32 × Int32) ⊕ (Int32)) := fun z8 =>
  (if x2 ≤ (z8.2.2) then some (.inr (((z8.1)))) else ((f_X2_placesFrom h (x0) ((z8.2.2)) (x2)).bind fun v2 => (if v2 ≤ (z8.2.1) then (f_X2_fillingPhase_J48 h (x0) (x1) (x2) ((z8.1)) ((z8.2.1)) ((z8.2.2))) else ((f_X2_reasonAgainst h (x0) (x1) ((z8.2.2)) (x2)).bind fun v3 => (if ¬ v3 = 0 then (f_X2_fillingPhase_J48 h (x0) (x1) (x2) ((z8.1)) ((z8.2.1)) ((z8.2.2))) else (f_X2_fillingPhase_J48 h (x0) (x1) (x2) ((z8.2.2)) (v2) ((z8.2.2))))))))
def f_X2_fillingPhase (h : PH) (a0 : Nat) (a1 : Int32) (a2 : Int32) : Option Int32 :=
  if okO h a0 1 = true then ((lpn (f_X2_fillingPhase_L8 (h) (a0) (a1) (a2)) LF (((-1) : Int32), (0 : Int32), (0 : Int32))).bind (fun w8 => (f_X2_fillingPhase_J54 h (w8)))) else none
def f_X2_phaseNumber (h : PH) (a0 : Nat) (a1 : Int32) (a2 : Int32) (a3 : Int32) : Option Int32 :=
  if okO h a0 1 = true then (if a3 = 0 then ((f_X2_fittingPhases h (a0) (a1) (a2)).bind fun v1 => some (v1)) else (if a3 = 1 then ((f_X2_lowestPhase h (a0) (a1) (a2)).bind fun v2 => some (v2)) else ((f_X2_fillingPhase h (a0) (a1) (a2)).bind fun v3 => some (v3)))) else none
def f_X5_phases (h : PH) (a0 : Nat) (a1 : Int32) (a2 : Int32) (a3 : Int32) : Option (Except String Int32) :=
  if okO h a0 4 = true then ((f_X5_existing h (a0) (a1)).bind fun r1 => (match r1 with | .error E4 => some (.error E4) | .ok v2 => ((f_X5_requireHue h (a0) (a2)).bind fun r5 => (match r5 with | .error E8 => some (.error E8) | .ok v6 => ((f_X5_requireWhat h (a0) (a3) ((3 : Int32))).bind fun r9 => (match r9 with | .error E12 => some (.error E12) | .ok v10 => ((rdR h a0 4 0).bind fun v13 => ((f_X3_gapAt h (v13) (a2)).bind fun v14 => ((f_X2_phaseNumber h (v2) (a2) (v14) (a3)).bind fun v15 => some (.ok (v15))))))))))) else none
def f_X5_fillingHue_J73 (h : PH) (x2 : Int32)  : Option Int32 :=
  some (x2)
def f_X5_fillingHue_J67 (h : PH) (x0 : Nat) (x1 : Nat) (x2 : Int32) (x3 : Int32) (x4 : Int32)  : Option ((Int32 × Int32 × Int32) ⊕ (Int32)) :=
  some (.inl (x2, x3, (x4 + 1)))
def f_X5_fillingHue_J53 (h : PH) (x0 : Nat) (x1 : Nat) (x2 : Int32) (x3 : Int32) (x4 : Int32) (k0 : Int32) : Option ((Int32 × Int32 × Int32) ⊕ (Int32)) :=
  (if k0 ≤ x3 then (f_X5_fillingHue_J67 h (x0) (x1) (x2) (x3) (x4)) else (f_X5_fillingHue_J67 h (x0) (x1) (x4) (k0) (x4)))
def f_X5_fillingHue_L7 (h : PH) (x0 : Nat) (x1 : Nat) : Int32 × Int32 × Int32 → Option ((Int32 × Int32 × Int32) ⊕ (Int32)) := fun z7 =>
  (if (8 : Int32) ≤ (z7.2.2) then some (.inr (((z7.1)))) else ((rdR h x0 4 0).bind fun v2 => ((f_X3_gapAt h (v2) ((z7.2.2))).bind fun v3 => ((f_X2_fillingPhase h (x1) ((z7.2.2)) (v3)).bind fun v4 => (if ¬ v4 = ((-1) : Int32) then ((f_X2_placesFrom h (x1) (v4) (v3)).bind fun v5 => (f_X5_fillingHue_J53 h (x0) (x1) ((z7.1)) ((z7.2.1)) ((z7.2.2)) (v5))) else (f_X5_fillingHue_J53 h (x0) (x1) ((z7.1)) ((z7.2.1)) ((z7.2.2)) ((0 : Int32))))))))
def f_X5_fillingHue (h : PH) (a0 : Nat) (a1 : Nat) : Option Int32 :=
  if okO h a0 4 = true then ((lpn (f_X5_fillingHue_L7 (h) (a0) (a1)) LF (((-1) : Int32), (0 : Int32), (0 : Int32))).bind (fun w7 => (f_X5_fillingHue_J73 h (w7)))) else none
def f_X5_bestHue (h : PH) (a0 : Nat) (a1 : Int32) : Option (Except String Int32) :=
  if okO h a0 4 = true then ((f_X5_existing h (a0) (a1)).bind fun r1 => (match r1 with | .error E4 => some (.error E4) | .ok v2 => ((f_X5_fillingHue h (a0) (v2)).bind fun v5 => some (.ok (v5))))) else none
def f_X5_joining_J29 (hh : PH)  (k0 : Int32) : Option (Except (String × PH) (Int32 × PH)) :=
  some (.ok (k0, hh))
def f_X5_joining (h : PH) (a0 : Nat) (a1 : Int32) (a2 : Int32) : Option (Except (String × PH) (Int32 × PH)) :=
  if okO h a0 4 = true then ((f_X5_existing h (a0) (a1)).bind fun r1 => (match r1 with | .error E4 => some (.error (E4, h)) | .ok v2 => ((f_X5_existing h (a0) (a2)).bind fun r5 => (match r5 with | .error E8 => some (.error (E8, h)) | .ok v6 => (if ¬ a1 = a2 then ((f_X5_reasonAgainstJoining h (a0) (v2) (v6)).bind fun q11 => (f_X5_joining_J29 q11.2 (q11.1))) else (f_X5_joining_J29 h ((1 : Int32)))))))) else none
def f_X5_greatest (h : PH) (a0 : Nat) (a1 : Int32) : Option (Except String Int32) :=
  if okO h a0 4 = true then ((f_X5_existing h (a0) (a1)).bind fun r1 => (match r1 with | .error E4 => some (.error E4) | .ok v2 => ((f_X5_greatestLength h (a0) (v2)).bind fun v5 => some (.ok (v5))))) else none
def f_X5_fullness_J31 (h : PH)  (k0 : UInt64) : Option UInt64 :=
  some (k0)
def f_X5_fullness (h : PH) (a0 : Nat) : Option UInt64 :=
  if okO h a0 4 = true then ((rdR h a0 4 0).bind fun v1 => ((f_X3_places h (v1)).bind fun v2 => ((rdR h a0 4 0).bind fun v3 => ((f_X3_holes h (v3)).bind fun v4 => (if v2 ≤ 0 then (f_X5_fullness_J31 h (FP.dconst1)) else (if nn64 (FP.ddiv (FP.i2d (v2 - v4)) (FP.i2d v2)) = true then (f_X5_fullness_J31 h ((FP.ddiv (FP.i2d (v2 - v4)) (FP.i2d v2)))) else none)))))) else none
def f_X5_mixed (h : PH) (a0 : Int64) (a2 : Int64) : Option Int64 :=
  some ((((31 : Int64) * a0) + a2))
def f_X5_hueMixed_J74 (h : PH) (x5 : Int64)  : Option Int64 :=
  some (x5)
def f_X5_hueMixed_L37 (h : PH) (x0 : Nat) (x3 : Nat) (x4 : Int32) : Int64 × Int32 → Option ((Int64 × Int32) ⊕ (Int64)) := fun z37 =>
  (if (3 : Int32) ≤ (z37.2) then some (.inr (((z37.1)))) else ((rdR h x0 4 0).bind fun v2 => ((f_X3_gapAt h (v2) (x4)).bind fun v3 => ((f_X2_phaseNumber h (x3) (x4) (v3) ((z37.2))).bind fun v4 => ((f_X5_mixed h ((z37.1)) ((v4).toInt64)).bind fun v5 => some (.inl (v5, ((z37.2) + 1))))))))
def f_X5_hueMixed_J34 (h : PH) (x0 : Nat) (x3 : Nat) (x4 : Int32) (x5 : Int64)  : Option Int64 :=
  ((lpn (f_X5_hueMixed_L37 (h) (x0) (x3) (x4)) LF (x5, (0 : Int32))).bind (fun w37 => (f_X5_hueMixed_J74 h (w37))))
def f_X5_hueMixed_L6 (h : PH) (x0 : Nat) (x3 : Nat) (x4 : Int32) : Int64 × Int32 → Option ((Int64 × Int32) ⊕ (Int64)) := fun z6 =>
  (if (4 : Int32) ≤ (z6.2) then some (.inr (((z6.1)))) else ((f_X2_hueNumber h (x3) (x4) ((z6.2))).bind fun v7 => ((f_X5_mixed h ((z6.1)) ((v7).toInt64)).bind fun v8 => some (.inl (v8, ((z6.2) + 1))))))
def f_X5_hueMixed (h : PH) (a0 : Nat) (a1 : Int64) (a3 : Nat) (a4 : Int32) : Option Int64 :=
  if okO h a0 4 = true then ((lpn (f_X5_hueMixed_L6 (h) (a0) (a3) (a4)) LF (a1, (0 : Int32))).bind (fun w6 => (f_X5_hueMixed_J34 h (a0) (a3) (a4) (w6)))) else none
def f_X5_ropeMixed_J30 (h : PH) (x1 : Int64)  : Option (Int64 × PH) :=
  some (x1, h)
def f_X5_ropeMixed_J176 (hh : PH)  (k0 : Int64) (k1 : Int64) : Option (Int64 × PH) :=
  ((f_X5_mixed hh (k0) (k1)).bind fun v1 => some (v1, hh))
def f_X5_ropeMixed_J129 (h : PH) (x0 : Nat) (x3 : Int32) (x4 : Nat) (x5 : Nat) (x6 : Int64)  : Option (Int64 × PH) :=
  ((f_X5_fillingHue h (x0) (x4)).bind fun v2 => ((f_X5_mixed h (x6) ((v2).toInt64)).bind fun v3 => ((f_X5_greatestLength h (x0) (x4)).bind fun v4 => ((f_X5_mixed h (v3) ((v4).toInt64)).bind fun v5 => (if ¬ x3 = 0 then ((f_X5_reasonAgainstJoining h (x0) (x4) (x5)).bind fun q8 => (f_X5_ropeMixed_J176 q8.2 (v5) ((q8.1).toInt64))) else (f_X5_ropeMixed_J176 h (v5) ((1 : Int64))))))))
def f_X5_ropeMixed_L104 (hh : PH) (x0 : Nat) (x3 : Int32) (x4 : Nat) (x5 : Nat) : Int64 × Int32 → Option ((Int64 × Int32) ⊕ (Int64)) := fun z104 =>
  (if (8 : Int32) ≤ (z104.2) then some (.inr (((z104.1)))) else ((f_X5_hueMixed hh (x0) ((z104.1)) (x4) ((z104.2))).bind fun v10 => some (.inl (v10, ((z104.2) + 1)))))
def f_X5_ropeMixed_J101 (h : PH) (x0 : Nat) (x3 : Int32) (x4 : Nat) (x5 : Nat) (x6 : Int64)  : Option (Int64 × PH) :=
  ((lpn (f_X5_ropeMixed_L104 (h) (x0) (x3) (x4) (x5)) LF (x6, (0 : Int32))).bind (fun w104 => (f_X5_ropeMixed_J129 h (x0) (x3) (x4) (x5) (w104))))
def f_X5_ropeMixed_L70 (hh : PH) (x0 : Nat) (x3 : Int32) (x4 : Nat) (x5 : Nat) : Int64 × Int32 → Option ((Int64 × Int32) ⊕ (Int64)) := fun z70 =>
  ((f_X2_length hh (x4)).bind fun v12 => (if v12 ≤ (z70.2) then some (.inr (((z70.1)))) else ((f_X2_colourAt hh (x4) ((z70.2))).bind fun v13 => ((f_X5_mixed hh ((z70.1)) ((v13).toInt64)).bind fun v14 => some (.inl (v14, ((z70.2) + 1)))))))
def f_X5_ropeMixed_J67 (h : PH) (x0 : Nat) (x3 : Int32) (x4 : Nat) (x5 : Nat) (x6 : Int64)  : Option (Int64 × PH) :=
  ((lpn (f_X5_ropeMixed_L70 (h) (x0) (x3) (x4) (x5)) LF (x6, (0 : Int32))).bind (fun w70 => (f_X5_ropeMixed_J101 h (x0) (x3) (x4) (x5) (w70))))
def f_X5_ropeMixed_L38 (hh : PH) (x0 : Nat) (x3 : Int32) (x4 : Nat) (x5 : Nat) : Int64 × Int32 → Option ((Int64 × Int32) ⊕ (Int64)) := fun z38 =>
  (if (6 : Int32) ≤ (z38.2) then some (.inr (((z38.1)))) else ((f_X5_ropeNumber hh (x0) (x4) ((z38.2))).bind fun v22 => ((f_X5_mixed hh ((z38.1)) ((v22).toInt64)).bind fun v23 => some (.inl (v23, ((z38.2) + 1))))))
def f_X5_ropeMixed (h : PH) (a0 : Nat) (a1 : Int64) (a3 : Int32) : Option (Int64 × PH) :=
  if okO h a0 4 = true then ((rdR h a0 4 0).bind fun v15 => ((f_X3_ropeAt h (v15) (a3)).bind fun v16 => ((rdR h a0 4 0).bind fun v17 => ((f_X3_ropeAt h (v17) ((0 : Int32))).bind fun v18 => (match v16 with | none => (f_X5_ropeMixed_J30 h (a1)) | some a19 => (match v18 with | none => (f_X5_ropeMixed_J30 h (a1)) | some a20 => ((lpn (f_X5_ropeMixed_L38 (h) (a0) (a3) (a19) (a20)) LF (a1, (0 : Int32))).bind (fun w38 => (f_X5_ropeMixed_J67 h (a0) (a3) (a19) (a20) (w38)))))))))) else none
def f_X1_bitsOfShare_J41 (h : PH) (x2 : UInt64) (x4 : Int64)  : Option Int64 :=
  (if 0 ≤ (Op.cmpValue (FP.dcmp x2 FP.dconst1) .g) then (if nn64 (FP.dsub x2 FP.dconst1) = true then (if nn64 (FP.dmul (FP.dsub x2 FP.dconst1) (4841369599423283200 : UInt64)) = true then some (((x4 <<< (((52 : Int32)).toInt64 &&& 63)) + (FP.d2l (FP.dmul (FP.dsub x2 FP.dconst1) (4841369599423283200 : UInt64))))) else none) else none) else some ((0 : Int64)))
def f_X1_bitsOfShare_L10 (h : PH)  : UInt64 × Int64 × Int32 → Option ((UInt64 × Int64 × Int32) ⊕ (UInt64 × Int64)) := fun z10 =>
  (if (64 : Int32) ≤ (z10.2.2) then some (.inr (((z10.1), (z10.2.1)))) else (if 0 ≤ (Op.cmpValue (FP.dcmp (z10.1) FP.dconst1) .g) then some (.inr (((z10.1), (z10.2.1)))) else (if nn64 (FP.dmul (z10.1) (4611686018427387904 : UInt64)) = true then some (.inl ((FP.dmul (z10.1) (4611686018427387904 : UInt64)), ((z10.2.1) - (1 : Int64)), ((z10.2.2) + 1))) else none)))
def f_X1_bitsOfShare (h : PH) (a0 : UInt64) : Option Int64 :=
  ((lpn (f_X1_bitsOfShare_L10 (h)) LF (a0, (1023 : Int64), (0 : Int32))).bind (fun w10 => (f_X1_bitsOfShare_J41 h (w10.1) (w10.2))))
def f_X5_digest_J182 (hh : PH) (x1 : Int64)  : Option (Int64 × PH) :=
  some (x1, hh)
def f_X5_digest_L151 (hh : PH) (x0 : Nat) : Int64 × Int32 → Option ((Int64 × Int32) ⊕ (Int64)) := fun z151 =>
  ((rdR hh x0 4 3).bind fun v8 => ((f_X4_length hh (v8)).bind fun v9 => (if v9 ≤ (z151.2) then some (.inr (((z151.1)))) else ((rdR hh x0 4 3).bind fun v10 => ((f_X4_codeAt hh (v10) ((z151.2))).bind fun v11 => ((f_X5_mixed hh ((z151.1)) ((v11).toInt64)).bind fun v12 => some (.inl (v12, ((z151.2) + 1)))))))))
def f_X5_digest_J124 (hh : PH) (x0 : Nat) (x1 : Int64)  : Option (Int64 × PH) :=
  ((f_X5_fullness hh (x0)).bind fun v1 => ((f_X1_bitsOfShare hh (v1)).bind fun v2 => ((f_X5_mixed hh (x1) (v2)).bind fun v3 => ((rdR hh x0 4 3).bind fun v4 => ((f_X4_length hh (v4)).bind fun v5 => ((f_X5_mixed hh (v3) ((v5).toInt64)).bind fun v6 => ((lpn (f_X5_digest_L151 (hh) (x0)) LF (v6, (0 : Int32))).bind (fun w151 => (f_X5_digest_J182 hh (w151))))))))))
def f_X5_digest_L85 (hh : PH) (x0 : Nat) : Int64 × Int32 → Option ((Int64 × Int32) ⊕ (Int64)) := fun z85 =>
  (if (8 : Int32) ≤ (z85.2) then some (.inr (((z85.1)))) else ((rdR hh x0 4 0).bind fun v14 => ((f_X3_gapAt hh (v14) ((0 : Int32))).bind fun v15 => ((rdR hh x0 4 0).bind fun v16 => ((f_X3_gapAt hh (v16) ((z85.2))).bind fun v17 => ((f_X1_meetByRemainders hh (v15) ((1 : Int32)) (v17) ((0 : Int32))).bind fun v18 => ((f_X5_mixed hh ((z85.1)) ((v18).toInt64)).bind fun v19 => some (.inl (v19, ((z85.2) + 1))))))))))
def f_X5_digest_J83 (hh : PH) (x0 : Nat) (x1 : Int64)  : Option (Int64 × PH) :=
  ((lpn (f_X5_digest_L85 (hh) (x0)) LF (x1, (0 : Int32))).bind (fun w85 => (f_X5_digest_J124 hh (x0) (w85))))
def f_X5_digest_L59 (x0 : Nat) : Int64 × Int32 × PH → Option ((Int64 × Int32 × PH) ⊕ (Int64 × PH)) := fun z59 =>
  ((rdR (z59.2.2) x0 4 0).bind fun v21 => ((f_X3_ropeCount (z59.2.2) (v21)).bind fun v22 => (if v22 ≤ (z59.2.1) then some (.inr (((z59.1), (z59.2.2)))) else ((f_X5_ropeMixed (z59.2.2) (x0) ((z59.1)) ((z59.2.1))).bind fun q25 => some (.inl (q25.1, ((z59.2.1) + 1), q25.2))))))
def f_X5_digest_J57 (h : PH) (x0 : Nat) (x1 : Int64)  : Option (Int64 × PH) :=
  ((lpn (f_X5_digest_L59 (x0)) LF (x1, (0 : Int32), h)).bind (fun w59 => (f_X5_digest_J83 (w59.2) (x0) (w59.1))))
def f_X5_digest_L31 (hh : PH) (x0 : Nat) : Int64 × Int32 → Option ((Int64 × Int32) ⊕ (Int64)) := fun z31 =>
  (if (8 : Int32) ≤ (z31.2) then some (.inr (((z31.1)))) else ((rdR hh x0 4 0).bind fun v27 => ((f_X3_gapAt hh (v27) ((z31.2))).bind fun v28 => ((f_X5_mixed hh ((z31.1)) ((v28).toInt64)).bind fun v29 => some (.inl (v29, ((z31.2) + 1)))))))
def f_X5_digest_J29 (h : PH) (x0 : Nat) (x1 : Int64)  : Option (Int64 × PH) :=
  ((lpn (f_X5_digest_L31 (h) (x0)) LF (x1, (0 : Int32))).bind (fun w31 => (f_X5_digest_J57 h (x0) (w31))))
def f_X5_digest_L6 (hh : PH) (x0 : Nat) : Int64 × Int32 → Option ((Int64 × Int32) ⊕ (Int64)) := fun z6 =>
  (if (8 : Int32) ≤ (z6.2) then some (.inr (((z6.1)))) else ((f_X5_counted hh (x0) ((z6.2))).bind fun v31 => ((f_X5_mixed hh ((z6.1)) ((v31).toInt64)).bind fun v32 => some (.inl (v32, ((z6.2) + 1))))))
def f_X5_digest (h : PH) (a0 : Nat) : Option (Int64 × PH) :=
  if okO h a0 4 = true then ((lpn (f_X5_digest_L6 (h) (a0)) LF ((3643 : Int64), (0 : Int32))).bind (fun w6 => (f_X5_digest_J29 h (a0) (w6)))) else none
def f_X6_thrown (h : PH) (a0 : Nat) : Option Int32 :=
  if okO h a0 5 = true then ((rdI h a0 5 0).bind fun v1 => some (v1)) else none
def f_X6_in_J15 (h : PH)  (k0 : Int32) : Option Int32 :=
  (if z01 k0 = true then some (k0) else none)
def f_X6_in_J14 (h : PH)   : Option Int32 :=
  (f_X6_in_J15 h ((0 : Int32)))
def f_X6_in (h : PH) (a0 : Int32) (a1 : Int32) (a2 : Int32) : Option Int32 :=
  (if a0 < a1 then (f_X6_in_J14 h ) else (if a2 < a0 then (f_X6_in_J14 h ) else (f_X6_in_J15 h ((1 : Int32)))))
def f_X6_holds_J14 (hh : PH)  (k0 : Int32) : Option (Int32 × PH) :=
  (if z01 k0 = true then some (k0, hh) else none)
def f_X6_holds (h : PH) (a0 : Nat) (a1 : Int32) : Option (Int32 × PH) :=
  if okO h a0 5 = true then ((wrF h a0 5 0 (.int (a1))).bind fun h2 => (if ¬ a1 = 0 then (f_X6_holds_J14 h2 ((0 : Int32))) else (f_X6_holds_J14 h2 ((1 : Int32))))) else none
def f_X6_isHue (h : PH) (a0 : Int32) : Option Int32 :=
  ((f_X6_in h (a0) ((0 : Int32)) ((7 : Int32))).bind fun v1 => (if z01 v1 = true then some (v1) else none))
def f_X6_isRope (h : PH) (a0 : Nat) (a1 : Int32) : Option Int32 :=
  if okO h a0 5 = true then ((rdR h a0 5 1).bind fun v1 => ((ldI h v1 (8 : Int32)).bind fun v2 => ((f_X6_in h (a1) ((0 : Int32)) ((v2 - (1 : Int32)))).bind fun v3 => (if z01 v3 = true then some (v3) else none)))) else none
def f_X6_isPhase (h : PH) (a0 : Nat) (a1 : Int32) (a2 : Int32) : Option Int32 :=
  if okO h a0 5 = true then ((rdR h a0 5 1).bind fun v1 => ((ldI h v1 ((0 : Int32) + a1)).bind fun v2 => ((f_X6_in h (a2) ((0 : Int32)) ((v2 - (1 : Int32)))).bind fun v3 => (if z01 v3 = true then some (v3) else none)))) else none
def f_X6_of (h : PH) (a0 : Int32) (a1 : Int32) : Option Int32 :=
  some ((((12 : Int32) + ((18 : Int32) * a0)) + a1))
def f_X6_phaseOf (h : PH) (a0 : Nat) (a1 : Int32) (a2 : Int32) : Option Int32 :=
  if okO h a0 5 = true then ((rdR h a0 5 1).bind fun v1 => ((f_X6_of h (a1) (((10 : Int32) + a2))).bind fun v2 => ((ldI h v1 v2).bind fun v3 => some (v3)))) else none
def f_X6_isLaid_J14 (h : PH)  (k0 : Int32) : Option Int32 :=
  (if z01 k0 = true then some (k0) else none)
def f_X6_isLaid (h : PH) (a0 : Nat) (a1 : Int32) (a2 : Int32) : Option Int32 :=
  if okO h a0 5 = true then ((f_X6_phaseOf h (a0) (a1) (a2)).bind fun v2 => (if v2 < 0 then (f_X6_isLaid_J14 h ((0 : Int32))) else (f_X6_isLaid_J14 h ((1 : Int32))))) else none
def f_X6_save_J83 (hh : PH) (x0 : Nat)  : Option PH :=
  ((rdI hh x0 5 6).bind fun v1 => ((wrF hh x0 5 6 (.int ((v1 + (1 : Int32))))).bind fun h2 => some h2))
def f_X6_save_L51 (x0 : Nat) : Int32 × PH → Option ((Int32 × PH) ⊕ (PH)) := fun z51 =>
  (if (84 : Int32) ≤ (z51.1) then some (.inr (((z51.2)))) else ((rdR (z51.2) x0 5 5).bind fun v4 => ((rdI (z51.2) x0 5 6).bind fun v5 => ((rdR (z51.2) x0 5 1).bind fun v6 => ((ldI (z51.2) v6 (z51.1)).bind fun v7 => ((stI (z51.2) v4 (((84 : Int32) * v5) + (z51.1)) v7).bind fun h8 => some (.inl (((z51.1) + 1), h8))))))))
def f_X6_save_J49 (hh : PH) (x0 : Nat)  : Option PH :=
  ((lpn (f_X6_save_L51 (x0)) LF ((0 : Int32), hh)).bind (fun w51 => (f_X6_save_J83 w51 (x0))))
def f_X6_save_J39 (hh : PH) (x0 : Nat)  : Option PH :=
  ((rdI hh x0 5 6).bind fun v9 => ((wrF hh x0 5 6 (.int ((v9 - (1 : Int32))))).bind fun h10 => (f_X6_save_J49 h10 (x0))))
def f_X6_save_L11 (x0 : Nat) : Int32 × PH → Option ((Int32 × PH) ⊕ (PH)) := fun z11 =>
  (if (420 : Int32) ≤ (z11.1) then some (.inr (((z11.2)))) else ((rdR (z11.2) x0 5 5).bind fun v13 => ((rdR (z11.2) x0 5 5).bind fun v14 => ((ldI (z11.2) v14 ((84 : Int32) + (z11.1))).bind fun v15 => ((stI (z11.2) v13 (z11.1) v15).bind fun h16 => some (.inl (((z11.1) + 1), h16)))))))
def f_X6_save (h : PH) (a0 : Nat) : Option PH :=
  if okO h a0 5 = true then ((rdI h a0 5 6).bind fun v11 => (if ¬ v11 = (6 : Int32) then (f_X6_save_J49 h (a0)) else ((lpn (f_X6_save_L11 (a0)) LF ((0 : Int32), h)).bind (fun w11 => (f_X6_save_J39 w11 (a0)))))) else none
def f_X6_putAside_J26 (hh : PH)   : Option PH :=
  some hh
def f_X6_putAside_L2 (x0 : Nat) : Int32 × PH → Option ((Int32 × PH) ⊕ (PH)) := fun z2 =>
  (if (84 : Int32) ≤ (z2.1) then some (.inr (((z2.2)))) else ((rdR (z2.2) x0 5 2).bind fun v2 => ((rdR (z2.2) x0 5 1).bind fun v3 => ((ldI (z2.2) v3 (z2.1)).bind fun v4 => ((stI (z2.2) v2 (z2.1) v4).bind fun h5 => some (.inl (((z2.1) + 1), h5)))))))
def f_X6_putAside (h : PH) (a0 : Nat) : Option PH :=
  if okO h a0 5 = true then ((lpn (f_X6_putAside_L2 (a0)) LF ((0 : Int32), h)).bind (fun w2 => (f_X6_putAside_J26 w2 ))) else none
def f_X6_putBack_J26 (hh : PH)   : Option PH :=
  some hh
def f_X6_putBack_L2 (x0 : Nat) : Int32 × PH → Option ((Int32 × PH) ⊕ (PH)) := fun z2 =>
  (if (84 : Int32) ≤ (z2.1) then some (.inr (((z2.2)))) else ((rdR (z2.2) x0 5 1).bind fun v2 => ((rdR (z2.2) x0 5 2).bind fun v3 => ((ldI (z2.2) v3 (z2.1)).bind fun v4 => ((stI (z2.2) v2 (z2.1) v4).bind fun h5 => some (.inl (((z2.1) + 1), h5)))))))
def f_X6_putBack (h : PH) (a0 : Nat) : Option PH :=
  if okO h a0 5 = true then ((lpn (f_X6_putBack_L2 (a0)) LF ((0 : Int32), h)).bind (fun w2 => (f_X6_putBack_J26 w2 ))) else none
def f_X6_takes_J40 (h : PH)  (k0 : Int32) : Option Int32 :=
  (if z01 k0 = true then some (k0) else none)
def f_X6_takes_J39 (h : PH)   : Option Int32 :=
  (f_X6_takes_J40 h ((0 : Int32)))
def f_X6_takes (h : PH) (a0 : Nat) (a1 : Int32) (a2 : Int32) (a3 : Int32) : Option Int32 :=
  if okO h a0 5 = true then ((f_X6_phaseOf h (a0) (a1) (a2)).bind fun v2 => (if v2 < 0 then (f_X6_takes_J39 h ) else (if a3 < v2 then (f_X6_takes_J39 h ) else ((rdR h a0 5 1).bind fun v3 => ((ldI h v3 ((0 : Int32) + a2)).bind fun v4 => (if ¬ v4 = 0 then (if ¬ ((a3 - v2) - (a3 - v2) / v4 * v4) = 0 then (f_X6_takes_J39 h ) else (f_X6_takes_J40 h ((1 : Int32)))) else none)))))) else none
def f_X6_hueAt_J36 (h : PH) (x3 : Int32)  : Option Int32 :=
  some (x3)
def f_X6_hueAt_J29 (h : PH) (x0 : Nat) (x1 : Int32) (x2 : Int32) (x4 : Int32) (k0 : Int32) : Option ((Int32 × Int32) ⊕ (Int32)) :=
  some (.inl (k0, (x4 + 1)))
def f_X6_hueAt_L5 (h : PH) (x0 : Nat) (x1 : Int32) (x2 : Int32) : Int32 × Int32 → Option ((Int32 × Int32) ⊕ (Int32)) := fun z5 =>
  (if (8 : Int32) ≤ (z5.2) then some (.inr (((z5.1)))) else ((f_X6_takes h (x0) (x1) ((z5.2)) (x2)).bind fun v2 => (if v2 = 0 then (f_X6_hueAt_J29 h (x0) (x1) (x2) ((z5.2)) ((z5.1))) else (f_X6_hueAt_J29 h (x0) (x1) (x2) ((z5.2)) ((z5.2))))))
def f_X6_hueAt (h : PH) (a0 : Nat) (a1 : Int32) (a2 : Int32) : Option Int32 :=
  if okO h a0 5 = true then ((lpn (f_X6_hueAt_L5 (h) (a0) (a1) (a2)) LF (((-1) : Int32), (0 : Int32))).bind (fun w5 => (f_X6_hueAt_J36 h (w5)))) else none
def f_X6_takers_J37 (h : PH) (x3 : Int32)  : Option Int32 :=
  some (x3)
def f_X6_takers_J29 (h : PH) (x0 : Nat) (x1 : Int32) (x2 : Int32) (x4 : Int32) (k0 : Int32) (k1 : Int32) : Option ((Int32 × Int32) ⊕ (Int32)) :=
  some (.inl ((k0 + k1), (x4 + 1)))
def f_X6_takers_L5 (h : PH) (x0 : Nat) (x1 : Int32) (x2 : Int32) : Int32 × Int32 → Option ((Int32 × Int32) ⊕ (Int32)) := fun z5 =>
  (if (8 : Int32) ≤ (z5.2) then some (.inr (((z5.1)))) else ((f_X6_takes h (x0) (x1) ((z5.2)) (x2)).bind fun v2 => (if v2 = 0 then (f_X6_takers_J29 h (x0) (x1) (x2) ((z5.2)) ((z5.1)) ((0 : Int32))) else (f_X6_takers_J29 h (x0) (x1) (x2) ((z5.2)) ((z5.1)) ((1 : Int32))))))
def f_X6_takers (h : PH) (a0 : Nat) (a1 : Int32) (a2 : Int32) : Option Int32 :=
  if okO h a0 5 = true then ((lpn (f_X6_takers_L5 (h) (a0) (a1) (a2)) LF ((0 : Int32), (0 : Int32))).bind (fun w5 => (f_X6_takers_J37 h (w5)))) else none
def f_X6_clash_J24 (h : PH) (x2 : Int32)  : Option Int32 :=
  some (x2)
def f_X6_clash_L2 (h : PH) (x0 : Nat) (x1 : Int32) : Int32 → Option ((Int32) ⊕ (Int32)) := fun z2 =>
  (if (60 : Int32) ≤ z2 then some (.inr ((z2))) else ((f_X6_takers h (x0) (x1) (z2)).bind fun v2 => (if (2 : Int32) ≤ v2 then some (.inr ((z2))) else some (.inl ((z2 + 1))))))
def f_X6_clash (h : PH) (a0 : Nat) (a1 : Int32) : Option Int32 :=
  if okO h a0 5 = true then ((lpn (f_X6_clash_L2 (h) (a0) (a1)) LF ((0 : Int32))).bind (fun w2 => (f_X6_clash_J24 h (w2)))) else none
def f_X6_placesOf_J45 (h : PH) (x3 : Int32)  : Option Int32 :=
  some (x3)
def f_X6_placesOf_J37 (h : PH) (x0 : Nat) (x1 : Int32) (x2 : Int32) (x4 : Int32) (k0 : Int32) (k1 : Int32) : Option ((Int32 × Int32) ⊕ (Int32)) :=
  some (.inl ((k0 + k1), (x4 + 1)))
def f_X6_placesOf_L5 (h : PH) (x0 : Nat) (x1 : Int32) (x2 : Int32) : Int32 × Int32 → Option ((Int32 × Int32) ⊕ (Int32)) := fun z5 =>
  ((rdR h x0 5 1).bind fun v2 => ((f_X6_of h (x1) ((0 : Int32))).bind fun v3 => ((ldI h v2 v3).bind fun v4 => (if v4 ≤ (z5.2) then some (.inr (((z5.1)))) else ((f_X6_takes h (x0) (x1) (x2) ((z5.2))).bind fun v5 => (if v5 = 0 then (f_X6_placesOf_J37 h (x0) (x1) (x2) ((z5.2)) ((z5.1)) ((0 : Int32))) else (f_X6_placesOf_J37 h (x0) (x1) (x2) ((z5.2)) ((z5.1)) ((1 : Int32)))))))))
def f_X6_placesOf (h : PH) (a0 : Nat) (a1 : Int32) (a2 : Int32) : Option Int32 :=
  if okO h a0 5 = true then ((lpn (f_X6_placesOf_L5 (h) (a0) (a1) (a2)) LF ((0 : Int32), (0 : Int32))).bind (fun w5 => (f_X6_placesOf_J45 h (w5)))) else none
def f_X6_lastOf_J44 (h : PH) (x3 : Int32)  : Option Int32 :=
  some (x3)
def f_X6_lastOf_J37 (h : PH) (x0 : Nat) (x1 : Int32) (x2 : Int32) (x4 : Int32) (k0 : Int32) : Option ((Int32 × Int32) ⊕ (Int32)) :=
  some (.inl (k0, (x4 + 1)))
def f_X6_lastOf_L5 (h : PH) (x0 : Nat) (x1 : Int32) (x2 : Int32) : Int32 × Int32 → Option ((Int32 × Int32) ⊕ (Int32)) := fun z5 =>
  ((rdR h x0 5 1).bind fun v2 => ((f_X6_of h (x1) ((0 : Int32))).bind fun v3 => ((ldI h v2 v3).bind fun v4 => (if v4 ≤ (z5.2) then some (.inr (((z5.1)))) else ((f_X6_takes h (x0) (x1) (x2) ((z5.2))).bind fun v5 => (if v5 = 0 then (f_X6_lastOf_J37 h (x0) (x1) (x2) ((z5.2)) ((z5.1))) else (f_X6_lastOf_J37 h (x0) (x1) (x2) ((z5.2)) ((z5.2)))))))))
def f_X6_lastOf (h : PH) (a0 : Nat) (a1 : Int32) (a2 : Int32) : Option Int32 :=
  if okO h a0 5 = true then ((lpn (f_X6_lastOf_L5 (h) (a0) (a1) (a2)) LF (((-1) : Int32), (0 : Int32))).bind (fun w5 => (f_X6_lastOf_J44 h (w5)))) else none
def f_X6_clears_J63 (hh : PH)   : Option PH :=
  some hh
def f_X6_clears_L24 (x0 : Nat) (x1 : Int32) : Int32 × PH → Option ((Int32 × PH) ⊕ (PH)) := fun z24 =>
  (if (8 : Int32) ≤ (z24.1) then some (.inr (((z24.2)))) else ((rdR (z24.2) x0 5 1).bind fun v8 => ((f_X6_of (z24.2) (x1) (((2 : Int32) + (z24.1)))).bind fun v9 => ((stI (z24.2) v8 v9 (0 : Int32)).bind fun h10 => ((rdR h10 x0 5 1).bind fun v11 => ((f_X6_of h10 (x1) (((10 : Int32) + (z24.1)))).bind fun v12 => ((stI h10 v11 v12 ((-1) : Int32)).bind fun h13 => some (.inl (((z24.1) + 1), h13)))))))))
def f_X6_clears (h : PH) (a0 : Nat) (a1 : Int32) (a2 : Int32) : Option PH :=
  if okO h a0 5 = true then ((rdR h a0 5 1).bind fun v1 => ((f_X6_of h (a1) ((0 : Int32))).bind fun v2 => ((stI h v1 v2 a2).bind fun h3 => ((rdR h3 a0 5 1).bind fun v4 => ((f_X6_of h3 (a1) ((1 : Int32))).bind fun v5 => ((stI h3 v4 v5 (0 : Int32)).bind fun h6 => ((lpn (f_X6_clears_L24 (a0) (a1)) LF ((0 : Int32), h6)).bind (fun w24 => (f_X6_clears_J63 w24 ))))))))) else none
def f_X6_lays (h : PH) (a0 : Nat) (a1 : Int32) (a2 : Int32) (a3 : Int32) : Option PH :=
  if okO h a0 5 = true then ((rdR h a0 5 1).bind fun v1 => ((rdR h a0 5 1).bind fun v2 => ((f_X6_of h (a1) ((1 : Int32))).bind fun v3 => ((ldI h v2 v3).bind fun v4 => ((f_X6_of h (a1) (((2 : Int32) + v4))).bind fun v5 => ((stI h v1 v5 a2).bind fun h6 => ((rdR h6 a0 5 1).bind fun v7 => ((f_X6_of h6 (a1) ((1 : Int32))).bind fun v8 => ((ldI h6 v7 v8).bind fun v9 => ((stI h6 v7 v8 (v9 + (1 : Int32))).bind fun h10 => ((rdR h10 a0 5 1).bind fun v11 => ((f_X6_of h10 (a1) (((10 : Int32) + a2))).bind fun v12 => ((stI h10 v11 v12 a3).bind fun h13 => some h13))))))))))))) else none
def f_X6_remembers_J30 (hh : PH)   : Option PH :=
  some hh
def f_X6_remembers_L2 (x0 : Nat) (x1 : Int32) : Int32 × PH → Option ((Int32 × PH) ⊕ (PH)) := fun z2 =>
  (if (18 : Int32) ≤ (z2.1) then some (.inr (((z2.2)))) else ((rdR (z2.2) x0 5 9).bind fun v2 => ((rdR (z2.2) x0 5 1).bind fun v3 => ((f_X6_of (z2.2) (x1) ((z2.1))).bind fun v4 => ((ldI (z2.2) v3 v4).bind fun v5 => ((stI (z2.2) v2 (z2.1) v5).bind fun h6 => some (.inl (((z2.1) + 1), h6))))))))
def f_X6_remembers (h : PH) (a0 : Nat) (a1 : Int32) : Option PH :=
  if okO h a0 5 = true then ((lpn (f_X6_remembers_L2 (a0) (a1)) LF ((0 : Int32), h)).bind (fun w2 => (f_X6_remembers_J30 w2 ))) else none
def f_X6_laysFrom_J88 (hh : PH)   : Option PH :=
  some hh
def f_X6_laysFrom_J82 (hh : PH) (x0 : Nat) (x1 : Int32) (x2 : Int32) (x3 : Int32)  : Option ((Int32 × PH) ⊕ (PH)) :=
  some (.inl ((x3 + 1), hh))
def f_X6_laysFrom_J58 (hh : PH) (x0 : Nat) (x1 : Int32) (x2 : Int32) (x3 : Int32) (x4 : Int32) (x5 : Int32)  : Option ((Int32 × PH) ⊕ (PH)) :=
  ((rdR hh x0 5 1).bind fun v2 => ((f_X6_of hh (x1) ((0 : Int32))).bind fun v3 => ((ldI hh v2 v3).bind fun v4 => (if v4 ≤ x5 then (f_X6_laysFrom_J82 hh (x0) (x1) (x2) (x3)) else ((f_X6_lays hh (x0) (x1) (x4) (x5)).bind fun h5 => (f_X6_laysFrom_J82 h5 (x0) (x1) (x2) (x3)))))))
def f_X6_laysFrom_L36 (hh : PH) (x0 : Nat) (x1 : Int32) (x2 : Int32) (x3 : Int32) (x4 : Int32) : Int32 → Option ((Int32) ⊕ (Int32)) := fun z36 =>
  (if 0 ≤ z36 then some (.inr ((z36))) else ((rdR hh x0 5 1).bind fun v13 => ((ldI hh v13 ((0 : Int32) + x4)).bind fun v14 => some (.inl ((z36 + v14))))))
def f_X6_laysFrom_L2 (x0 : Nat) (x1 : Int32) (x2 : Int32) : Int32 × PH → Option ((Int32 × PH) ⊕ (PH)) := fun z2 =>
  ((rdR (z2.2) x0 5 9).bind fun v6 => ((ldI (z2.2) v6 (1 : Int32)).bind fun v7 => (if v7 ≤ (z2.1) then some (.inr (((z2.2)))) else ((rdR (z2.2) x0 5 9).bind fun v8 => ((ldI (z2.2) v8 ((2 : Int32) + (z2.1))).bind fun v9 => ((rdR (z2.2) x0 5 9).bind fun v10 => ((ldI (z2.2) v10 ((10 : Int32) + v9)).bind fun v11 => ((lpn (f_X6_laysFrom_L36 ((z2.2)) (x0) (x1) (x2) ((z2.1)) (v9)) LF ((v11 - x2))).bind (fun w36 => (f_X6_laysFrom_J58 (z2.2) (x0) (x1) (x2) ((z2.1)) (v9) (w36)))))))))))
def f_X6_laysFrom (h : PH) (a0 : Nat) (a1 : Int32) (a2 : Int32) : Option PH :=
  if okO h a0 5 = true then ((lpn (f_X6_laysFrom_L2 (a0) (a1) (a2)) LF ((0 : Int32), h)).bind (fun w2 => (f_X6_laysFrom_J88 w2 ))) else none
def f_X6_drops_J84 (hh : PH)   : Option PH :=
  some hh
def f_X6_drops_L55 (x0 : Nat) : Int32 × PH → Option ((Int32 × PH) ⊕ (PH)) := fun z55 =>
  (if (18 : Int32) ≤ (z55.1) then some (.inr (((z55.2)))) else ((rdR (z55.2) x0 5 1).bind fun v2 => ((rdR (z55.2) x0 5 1).bind fun v3 => ((ldI (z55.2) v3 (8 : Int32)).bind fun v4 => ((f_X6_of (z55.2) (v4) ((z55.1))).bind fun v5 => ((stI (z55.2) v2 v5 (0 : Int32)).bind fun h6 => some (.inl (((z55.1) + 1), h6))))))))
def f_X6_drops_J53 (hh : PH) (x0 : Nat)  : Option PH :=
  ((lpn (f_X6_drops_L55 (x0)) LF ((0 : Int32), hh)).bind (fun w55 => (f_X6_drops_J84 w55 )))
def f_X6_drops_L17 (x0 : Nat) : Int32 × PH → Option ((Int32 × PH) ⊕ (PH)) := fun z17 =>
  ((rdR (z17.2) x0 5 1).bind fun v12 => ((ldI (z17.2) v12 (8 : Int32)).bind fun v13 => ((f_X6_of (z17.2) (v13) ((0 : Int32))).bind fun v14 => (if v14 ≤ (z17.1) then some (.inr (((z17.2)))) else ((rdR (z17.2) x0 5 1).bind fun v15 => ((rdR (z17.2) x0 5 1).bind fun v16 => ((ldI (z17.2) v16 ((z17.1) + (18 : Int32))).bind fun v17 => ((stI (z17.2) v15 (z17.1) v17).bind fun h18 => some (.inl (((z17.1) + 1), h18))))))))))
def f_X6_drops (h : PH) (a0 : Nat) (a1 : Int32) : Option PH :=
  if okO h a0 5 = true then ((rdR h a0 5 1).bind fun v7 => ((ldI h v7 (8 : Int32)).bind fun v8 => ((stI h v7 (8 : Int32) (v8 - (1 : Int32))).bind fun h9 => ((f_X6_of h9 (a1) ((0 : Int32))).bind fun v10 => ((lpn (f_X6_drops_L17 (a0)) LF (v10, h9)).bind (fun w17 => (f_X6_drops_J53 w17 (a0)))))))) else none
def f_X6_turns_J60 (hh : PH)   : Option PH :=
  some hh
def f_X6_turns_L7 (x0 : Nat) (x1 : Int32) : Int32 × PH → Option ((Int32 × PH) ⊕ (PH)) := fun z7 =>
  ((rdR (z7.2) x0 5 9).bind fun v3 => ((ldI (z7.2) v3 (1 : Int32)).bind fun v4 => (if v4 ≤ (z7.1) then some (.inr (((z7.2)))) else ((rdR (z7.2) x0 5 9).bind fun v5 => ((ldI (z7.2) v5 ((2 : Int32) + (z7.1))).bind fun v6 => ((rdR (z7.2) x0 5 1).bind fun v7 => ((f_X6_of (z7.2) (x1) (((10 : Int32) + v6))).bind fun v8 => ((rdR (z7.2) x0 5 9).bind fun v9 => ((ldI (z7.2) v9 (0 : Int32)).bind fun v10 => ((f_X6_lastOf (z7.2) (x0) (x1) (v6)).bind fun v11 => ((stI (z7.2) v7 v8 ((v10 - (1 : Int32)) - v11)).bind fun h12 => some (.inl (((z7.1) + 1), h12)))))))))))))
def f_X6_turns (h : PH) (a0 : Nat) (a1 : Int32) : Option PH :=
  if okO h a0 5 = true then ((f_X6_remembers h (a0) (a1)).bind fun h1 => ((lpn (f_X6_turns_L7 (a0) (a1)) LF ((0 : Int32), h1)).bind (fun w7 => (f_X6_turns_J60 w7 )))) else none
def f_X6_unlikeTurned_J60 (h : PH) (x2 : Int32)  : Option Int32 :=
  some (x2)
def f_X6_unlikeTurned_J52 (h : PH) (x0 : Nat) (x1 : Int32) (x3 : Int32) (k0 : Int32) (k1 : Int32) : Option ((Int32 × Int32) ⊕ (Int32)) :=
  some (.inl ((k0 + k1), (x3 + 1)))
def f_X6_unlikeTurned_L4 (h : PH) (x0 : Nat) (x1 : Int32) : Int32 × Int32 → Option ((Int32 × Int32) ⊕ (Int32)) := fun z4 =>
  ((rdR h x0 5 1).bind fun v2 => ((f_X6_of h (x1) ((0 : Int32))).bind fun v3 => ((ldI h v2 v3).bind fun v4 => (if v4 ≤ (z4.2) then some (.inr (((z4.1)))) else ((f_X6_hueAt h (x0) (x1) ((z4.2))).bind fun v5 => ((rdR h x0 5 1).bind fun v6 => ((f_X6_of h (x1) ((0 : Int32))).bind fun v7 => ((ldI h v6 v7).bind fun v8 => ((f_X6_hueAt h (x0) (x1) (((v8 - (1 : Int32)) - (z4.2)))).bind fun v9 => (if v5 = v9 then (f_X6_unlikeTurned_J52 h (x0) (x1) ((z4.2)) ((z4.1)) ((0 : Int32))) else (f_X6_unlikeTurned_J52 h (x0) (x1) ((z4.2)) ((z4.1)) ((1 : Int32)))))))))))))
def f_X6_unlikeTurned (h : PH) (a0 : Nat) (a1 : Int32) : Option Int32 :=
  if okO h a0 5 = true then ((lpn (f_X6_unlikeTurned_L4 (h) (a0) (a1)) LF ((0 : Int32), (0 : Int32))).bind (fun w4 => (f_X6_unlikeTurned_J60 h (w4)))) else none
def f_X6_takesOff_J75 (hh : PH)   : Option PH :=
  some hh
def f_X6_takesOff_J69 (hh : PH) (x0 : Nat) (x1 : Int32) (x2 : Int32) (x3 : Int32)  : Option ((Int32 × PH) ⊕ (PH)) :=
  some (.inl ((x3 + 1), hh))
def f_X6_takesOff_L18 (x0 : Nat) (x1 : Int32) (x2 : Int32) : Int32 × PH → Option ((Int32 × PH) ⊕ (PH)) := fun z18 =>
  ((rdR (z18.2) x0 5 9).bind fun v6 => ((ldI (z18.2) v6 (1 : Int32)).bind fun v7 => (if v7 ≤ (z18.1) then some (.inr (((z18.2)))) else ((rdR (z18.2) x0 5 9).bind fun v8 => ((ldI (z18.2) v8 ((2 : Int32) + (z18.1))).bind fun v9 => (if v9 = x2 then (f_X6_takesOff_J69 (z18.2) (x0) (x1) (x2) ((z18.1))) else ((rdR (z18.2) x0 5 9).bind fun v10 => ((ldI (z18.2) v10 ((2 : Int32) + (z18.1))).bind fun v11 => ((rdR (z18.2) x0 5 9).bind fun v12 => ((rdR (z18.2) x0 5 9).bind fun v13 => ((ldI (z18.2) v13 ((2 : Int32) + (z18.1))).bind fun v14 => ((ldI (z18.2) v12 ((10 : Int32) + v14)).bind fun v15 => ((f_X6_lays (z18.2) (x0) (x1) (v11) (v15)).bind fun h16 => (f_X6_takesOff_J69 h16 (x0) (x1) (x2) ((z18.1))))))))))))))))
def f_X6_takesOff (h : PH) (a0 : Nat) (a1 : Int32) (a2 : Int32) : Option PH :=
  if okO h a0 5 = true then ((f_X6_remembers h (a0) (a1)).bind fun h1 => ((rdR h1 a0 5 9).bind fun v2 => ((ldI h1 v2 (0 : Int32)).bind fun v3 => ((f_X6_clears h1 (a0) (a1) (v3)).bind fun h4 => ((lpn (f_X6_takesOff_L18 (a0) (a1) (a2)) LF ((0 : Int32), h4)).bind (fun w18 => (f_X6_takesOff_J75 w18 ))))))) else none
def f_X6_isLaidAnywhere_J40 (h : PH) (x2 : Int32)  : Option Int32 :=
  (if z01 x2 = true then some (x2) else none)
def f_X6_isLaidAnywhere_J33 (h : PH) (x0 : Nat) (x1 : Int32) (x3 : Int32) (k0 : Int32) : Option ((Int32 × Int32) ⊕ (Int32)) :=
  some (.inl (k0, (x3 + 1)))
def f_X6_isLaidAnywhere_J28 (h : PH) (x0 : Nat) (x1 : Int32) (x3 : Int32)  : Option ((Int32 × Int32) ⊕ (Int32)) :=
  (f_X6_isLaidAnywhere_J33 h (x0) (x1) (x3) ((1 : Int32)))
def f_X6_isLaidAnywhere_L4 (h : PH) (x0 : Nat) (x1 : Int32) : Int32 × Int32 → Option ((Int32 × Int32) ⊕ (Int32)) := fun z4 =>
  ((rdR h x0 5 1).bind fun v3 => ((ldI h v3 (8 : Int32)).bind fun v4 => (if v4 ≤ (z4.2) then some (.inr (((z4.1)))) else (if ¬ (z4.1) = 0 then (f_X6_isLaidAnywhere_J28 h (x0) (x1) ((z4.2))) else ((f_X6_isLaid h (x0) ((z4.2)) (x1)).bind fun v5 => (if v5 = 0 then (f_X6_isLaidAnywhere_J33 h (x0) (x1) ((z4.2)) ((0 : Int32))) else (f_X6_isLaidAnywhere_J28 h (x0) (x1) ((z4.2)))))))))
def f_X6_isLaidAnywhere (h : PH) (a0 : Nat) (a1 : Int32) : Option Int32 :=
  if okO h a0 5 = true then ((lpn (f_X6_isLaidAnywhere_L4 (h) (a0) (a1)) LF ((0 : Int32), (0 : Int32))).bind (fun w4 => (f_X6_isLaidAnywhere_J40 h (w4)))) else none
def f_X6_gap_J39 (h : PH) (x0 : Nat) (x1 : Int32) (x2 : Int32) (k0 : Nat) (k1 : Int32) : Option (Int32 × PH) :=
  ((f_X6_holds h (k0) (k1)).bind fun q3 => (if ¬ q3.1 = 0 then ((f_X6_save q3.2 (x0)).bind fun h4 => ((rdR h4 x0 5 1).bind fun v5 => ((ldI h4 v5 ((0 : Int32) + x1)).bind fun v6 => ((rdR h4 x0 5 1).bind fun v7 => ((stI h4 v7 ((0 : Int32) + x1) x2).bind fun h8 => some (v6, h8)))))) else some ((0 : Int32), q3.2)))
def f_X6_gap (h : PH) (a0 : Nat) (a1 : Int32) (a2 : Int32) : Option (Int32 × PH) :=
  if okO h a0 5 = true then ((f_X6_isHue h (a1)).bind fun v9 => (if ¬ v9 = 0 then ((f_X6_in h (a2) ((2 : Int32)) ((20 : Int32))).bind fun v10 => (if ¬ v10 = 0 then ((f_X6_isLaidAnywhere h (a0) (a1)).bind fun v11 => (if v11 = 0 then (f_X6_gap_J39 h (a0) (a1) (a2) (a0) ((0 : Int32))) else (f_X6_gap_J39 h (a0) (a1) (a2) (a0) ((3 : Int32))))) else (f_X6_gap_J39 h (a0) (a1) (a2) (a0) ((2 : Int32))))) else (f_X6_gap_J39 h (a0) (a1) (a2) (a0) ((1 : Int32))))) else none
def f_X6_adds (h : PH) (a0 : Nat) (a1 : Int32) : Option PH :=
  if okO h a0 5 = true then ((rdR h a0 5 1).bind fun v1 => ((ldI h v1 (8 : Int32)).bind fun v2 => ((f_X6_clears h (a0) (v2) (a1)).bind fun h3 => ((rdR h3 a0 5 1).bind fun v4 => ((ldI h3 v4 (8 : Int32)).bind fun v5 => ((stI h3 v4 (8 : Int32) (v5 + (1 : Int32))).bind fun h6 => some h6)))))) else none
def f_X6_rope_J31 (h : PH) (x0 : Nat) (x1 : Int32) (k0 : Nat) (k1 : Int32) : Option (Int32 × PH) :=
  ((f_X6_holds h (k0) (k1)).bind fun q3 => (if ¬ q3.1 = 0 then ((f_X6_save q3.2 (x0)).bind fun h4 => ((f_X6_adds h4 (x0) (x1)).bind fun h5 => ((rdR h5 x0 5 1).bind fun v6 => ((ldI h5 v6 (8 : Int32)).bind fun v7 => some ((v7 - (1 : Int32)), h5))))) else some ((0 : Int32), q3.2)))
def f_X6_rope (h : PH) (a0 : Nat) (a1 : Int32) : Option (Int32 × PH) :=
  if okO h a0 5 = true then ((f_X6_in h (a1) ((1 : Int32)) ((60 : Int32))).bind fun v8 => (if ¬ v8 = 0 then ((rdR h a0 5 1).bind fun v9 => ((ldI h v9 (8 : Int32)).bind fun v10 => (if ¬ v10 = (4 : Int32) then (f_X6_rope_J31 h (a0) (a1) (a0) ((0 : Int32))) else (f_X6_rope_J31 h (a0) (a1) (a0) ((2 : Int32)))))) else (f_X6_rope_J31 h (a0) (a1) (a0) ((1 : Int32))))) else none
def f_X6_drop_J14 (h : PH) (x0 : Nat) (x1 : Int32) (k0 : Nat) (k1 : Int32) : Option (Int32 × PH) :=
  ((f_X6_holds h (k0) (k1)).bind fun q3 => (if ¬ q3.1 = 0 then ((f_X6_save q3.2 (x0)).bind fun h4 => ((f_X6_drops h4 (x0) (x1)).bind fun h5 => ((rdR h5 x0 5 1).bind fun v6 => ((ldI h5 v6 (8 : Int32)).bind fun v7 => some (v7, h5))))) else some ((0 : Int32), q3.2)))
def f_X6_drop (h : PH) (a0 : Nat) (a1 : Int32) : Option (Int32 × PH) :=
  if okO h a0 5 = true then ((f_X6_isRope h (a0) (a1)).bind fun v8 => (if v8 = 0 then (f_X6_drop_J14 h (a0) (a1) (a0) ((1 : Int32))) else (f_X6_drop_J14 h (a0) (a1) (a0) ((0 : Int32))))) else none
def f_X6_why_J97 (h : PH)  (k0 : Int32) : Option Int32 :=
  some (k0)
def f_X6_why_J87 (h : PH) (x4 : Int32)  : Option Int32 :=
  (if x4 = 0 then (f_X6_why_J97 h ((0 : Int32))) else (f_X6_why_J97 h ((3 : Int32))))
def f_X6_why_J69 (h : PH) (x0 : Nat) (x1 : Int32) (x2 : Int32) (x5 : Int32) (k0 : Int32) : Option ((Int32 × Int32) ⊕ (Int32)) :=
  ((rdR h x0 5 1).bind fun v6 => ((ldI h v6 ((0 : Int32) + x2)).bind fun v7 => some (.inl (k0, (x5 + v7)))))
def f_X6_why_J64 (h : PH) (x0 : Nat) (x1 : Int32) (x2 : Int32) (x5 : Int32)  : Option ((Int32 × Int32) ⊕ (Int32)) :=
  (f_X6_why_J69 h (x0) (x1) (x2) (x5) ((1 : Int32)))
def f_X6_why_L33 (h : PH) (x0 : Nat) (x1 : Int32) (x2 : Int32) : Int32 × Int32 → Option ((Int32 × Int32) ⊕ (Int32)) := fun z33 =>
  ((rdR h x0 5 1).bind fun v8 => ((f_X6_of h (x1) ((0 : Int32))).bind fun v9 => ((ldI h v8 v9).bind fun v10 => (if v10 ≤ (z33.2) then some (.inr (((z33.1)))) else (if ¬ (z33.1) = 0 then (f_X6_why_J64 h (x0) (x1) (x2) ((z33.2))) else ((f_X6_hueAt h (x0) (x1) ((z33.2))).bind fun v11 => (if v11 = ((-1) : Int32) then (f_X6_why_J69 h (x0) (x1) (x2) ((z33.2)) ((0 : Int32))) else (f_X6_why_J64 h (x0) (x1) (x2) ((z33.2))))))))))
def f_X6_why (h : PH) (a0 : Nat) (a1 : Int32) (a2 : Int32) (a3 : Int32) : Option Int32 :=
  if okO h a0 5 = true then ((f_X6_isLaid h (a0) (a1) (a2)).bind fun v1 => (if v1 = 0 then ((rdR h a0 5 1).bind fun v2 => ((f_X6_of h (a1) ((0 : Int32))).bind fun v3 => ((ldI h v2 v3).bind fun v4 => (if a3 < v4 then ((lpn (f_X6_why_L33 (h) (a0) (a1) (a2)) LF ((0 : Int32), a3)).bind (fun w33 => (f_X6_why_J87 h (w33)))) else some ((2 : Int32)))))) else some ((1 : Int32)))) else none
def f_X6_areThere_J20 (h : PH)  (k0 : Int32) : Option Int32 :=
  (if z01 k0 = true then some (k0) else none)
def f_X6_areThere_J19 (h : PH)   : Option Int32 :=
  (f_X6_areThere_J20 h ((0 : Int32)))
def f_X6_areThere (h : PH) (a0 : Nat) (a1 : Int32) (a2 : Int32) : Option Int32 :=
  if okO h a0 5 = true then ((f_X6_isRope h (a0) (a1)).bind fun v2 => (if v2 = 0 then (f_X6_areThere_J19 h ) else ((f_X6_isHue h (a2)).bind fun v3 => (if v3 = 0 then (f_X6_areThere_J19 h ) else (f_X6_areThere_J20 h ((1 : Int32))))))) else none
def f_X6_lay_J42 (h : PH) (x0 : Nat) (x1 : Int32) (x2 : Int32) (x3 : Int32) (k0 : Nat) (k1 : Int32) : Option (Int32 × PH) :=
  ((f_X6_holds h (k0) (k1)).bind fun q3 => (if ¬ q3.1 = 0 then ((f_X6_save q3.2 (x0)).bind fun h4 => ((f_X6_lays h4 (x0) (x1) (x2) (x3)).bind fun h5 => ((rdR h5 x0 5 1).bind fun v6 => ((ldI h5 v6 (9 : Int32)).bind fun v7 => ((stI h5 v6 (9 : Int32) (v7 + (1 : Int32))).bind fun h8 => ((f_X6_placesOf h8 (x0) (x1) (x2)).bind fun v9 => some (v9, h8))))))) else some ((0 : Int32), q3.2)))
def f_X6_lay (h : PH) (a0 : Nat) (a1 : Int32) (a2 : Int32) (a3 : Int32) : Option (Int32 × PH) :=
  if okO h a0 5 = true then ((f_X6_areThere h (a0) (a1) (a2)).bind fun v10 => (if ¬ v10 = 0 then ((f_X6_isPhase h (a0) (a2) (a3)).bind fun v11 => (if ¬ v11 = 0 then ((f_X6_why h (a0) (a1) (a2) (a3)).bind fun v12 => (if v12 ≤ 0 then (f_X6_lay_J42 h (a0) (a1) (a2) (a3) (a0) ((0 : Int32))) else (f_X6_lay_J42 h (a0) (a1) (a2) (a3) (a0) ((3 : Int32))))) else (f_X6_lay_J42 h (a0) (a1) (a2) (a3) (a0) ((2 : Int32))))) else (f_X6_lay_J42 h (a0) (a1) (a2) (a3) (a0) ((1 : Int32))))) else none
def f_X6_take_J28 (h : PH) (x0 : Nat) (x1 : Int32) (x2 : Int32) (k0 : Nat) (k1 : Int32) : Option (Int32 × PH) :=
  ((f_X6_holds h (k0) (k1)).bind fun q3 => (if ¬ q3.1 = 0 then ((f_X6_save q3.2 (x0)).bind fun h4 => ((f_X6_placesOf h4 (x0) (x1) (x2)).bind fun v5 => ((f_X6_takesOff h4 (x0) (x1) (x2)).bind fun h6 => some (v5, h6)))) else some ((0 : Int32), q3.2)))
def f_X6_take (h : PH) (a0 : Nat) (a1 : Int32) (a2 : Int32) : Option (Int32 × PH) :=
  if okO h a0 5 = true then ((f_X6_areThere h (a0) (a1) (a2)).bind fun v7 => (if ¬ v7 = 0 then ((f_X6_isLaid h (a0) (a1) (a2)).bind fun v8 => (if ¬ v8 = 0 then (f_X6_take_J28 h (a0) (a1) (a2) (a0) ((0 : Int32))) else (f_X6_take_J28 h (a0) (a1) (a2) (a0) ((2 : Int32))))) else (f_X6_take_J28 h (a0) (a1) (a2) (a0) ((1 : Int32))))) else none
def f_X6_stretch_J41 (h : PH) (x0 : Nat) (x1 : Int32) (x2 : Int32) (k0 : Nat) (k1 : Int32) : Option (Int32 × PH) :=
  ((f_X6_holds h (k0) (k1)).bind fun q3 => (if ¬ q3.1 = 0 then ((f_X6_save q3.2 (x0)).bind fun h4 => ((f_X6_remembers h4 (x0) (x1)).bind fun h5 => ((f_X6_clears h5 (x0) (x1) (x2)).bind fun h6 => ((f_X6_laysFrom h6 (x0) (x1) ((0 : Int32))).bind fun h7 => ((rdR h7 x0 5 9).bind fun v8 => ((ldI h7 v8 (1 : Int32)).bind fun v9 => ((rdR h7 x0 5 1).bind fun v10 => ((f_X6_of h7 (x1) ((1 : Int32))).bind fun v11 => ((ldI h7 v10 v11).bind fun v12 => some ((v9 - v12), h7)))))))))) else some ((0 : Int32), q3.2)))
def f_X6_stretch (h : PH) (a0 : Nat) (a1 : Int32) (a2 : Int32) : Option (Int32 × PH) :=
  if okO h a0 5 = true then ((f_X6_isRope h (a0) (a1)).bind fun v13 => (if ¬ v13 = 0 then ((f_X6_in h (a2) ((1 : Int32)) ((60 : Int32))).bind fun v14 => (if ¬ v14 = 0 then ((f_X6_clash h (a0) (a1)).bind fun v15 => (if a2 ≤ v15 then (f_X6_stretch_J41 h (a0) (a1) (a2) (a0) ((0 : Int32))) else (f_X6_stretch_J41 h (a0) (a1) (a2) (a0) ((3 : Int32))))) else (f_X6_stretch_J41 h (a0) (a1) (a2) (a0) ((2 : Int32))))) else (f_X6_stretch_J41 h (a0) (a1) (a2) (a0) ((1 : Int32))))) else none
def f_X6_cut_J55 (h : PH) (x0 : Nat) (x1 : Int32) (x2 : Int32) (k0 : Nat) (k1 : Int32) : Option (Int32 × PH) :=
  ((f_X6_holds h (k0) (k1)).bind fun q3 => (if ¬ q3.1 = 0 then ((f_X6_save q3.2 (x0)).bind fun h4 => ((f_X6_remembers h4 (x0) (x1)).bind fun h5 => ((rdR h5 x0 5 9).bind fun v6 => ((ldI h5 v6 (0 : Int32)).bind fun v7 => ((f_X6_adds h5 (x0) ((v7 - x2))).bind fun h8 => ((rdR h8 x0 5 1).bind fun v9 => ((ldI h8 v9 (8 : Int32)).bind fun v10 => ((f_X6_laysFrom h8 (x0) ((v10 - (1 : Int32))) (x2)).bind fun h11 => ((f_X6_clears h11 (x0) (x1) (x2)).bind fun h12 => ((f_X6_laysFrom h12 (x0) (x1) ((0 : Int32))).bind fun h13 => ((rdR h13 x0 5 1).bind fun v14 => ((ldI h13 v14 (11 : Int32)).bind fun v15 => ((stI h13 v14 (11 : Int32) (v15 + (1 : Int32))).bind fun h16 => ((rdR h16 x0 5 1).bind fun v17 => ((ldI h16 v17 (8 : Int32)).bind fun v18 => some ((v18 - (1 : Int32)), h16)))))))))))))))) else some ((0 : Int32), q3.2)))
def f_X6_cut (h : PH) (a0 : Nat) (a1 : Int32) (a2 : Int32) : Option (Int32 × PH) :=
  if okO h a0 5 = true then ((f_X6_isRope h (a0) (a1)).bind fun v19 => (if ¬ v19 = 0 then ((rdR h a0 5 1).bind fun v20 => ((f_X6_of h (a1) ((0 : Int32))).bind fun v21 => ((ldI h v20 v21).bind fun v22 => ((f_X6_in h (a2) ((1 : Int32)) ((v22 - (1 : Int32)))).bind fun v23 => (if ¬ v23 = 0 then ((rdR h a0 5 1).bind fun v24 => ((ldI h v24 (8 : Int32)).bind fun v25 => (if ¬ v25 = (4 : Int32) then (f_X6_cut_J55 h (a0) (a1) (a2) (a0) ((0 : Int32))) else (f_X6_cut_J55 h (a0) (a1) (a2) (a0) ((3 : Int32)))))) else (f_X6_cut_J55 h (a0) (a1) (a2) (a0) ((2 : Int32)))))))) else (f_X6_cut_J55 h (a0) (a1) (a2) (a0) ((1 : Int32))))) else none
def f_X6_turn_J14 (h : PH) (x0 : Nat) (x1 : Int32) (k0 : Nat) (k1 : Int32) : Option (Int32 × PH) :=
  ((f_X6_holds h (k0) (k1)).bind fun q3 => (if ¬ q3.1 = 0 then ((f_X6_save q3.2 (x0)).bind fun h4 => ((f_X6_unlikeTurned h4 (x0) (x1)).bind fun v5 => ((f_X6_turns h4 (x0) (x1)).bind fun h6 => some (v5, h6)))) else some ((0 : Int32), q3.2)))
def f_X6_turn (h : PH) (a0 : Nat) (a1 : Int32) : Option (Int32 × PH) :=
  if okO h a0 5 = true then ((f_X6_isRope h (a0) (a1)).bind fun v7 => (if v7 = 0 then (f_X6_turn_J14 h (a0) (a1) (a0) ((1 : Int32))) else (f_X6_turn_J14 h (a0) (a1) (a0) ((0 : Int32))))) else none
def f_X6_phaseBehind (h : PH) (a0 : Nat) (a1 : Int32) (a2 : Int32) (a3 : Int32) : Option Int32 :=
  if okO h a0 5 = true then ((rdR h a0 5 1).bind fun v1 => ((f_X6_of h (a1) ((0 : Int32))).bind fun v2 => ((ldI h v1 v2).bind fun v3 => ((f_X6_phaseOf h (a0) (a2) (a3)).bind fun v4 => ((rdR h a0 5 1).bind fun v5 => ((ldI h v5 ((0 : Int32) + a3)).bind fun v6 => (if ¬ v6 = 0 then some (((v3 + v4) - (v3 + v4) / v6 * v6)) else none))))))) else none
def f_X6_joinsWith_J61 (hh : PH) (x0 : Nat) (x1 : Int32) (x2 : Int32)  : Option PH :=
  ((rdR hh x0 5 1).bind fun v1 => ((f_X6_of hh (x1) ((0 : Int32))).bind fun v2 => ((ldI hh v1 v2).bind fun v3 => ((rdR hh x0 5 1).bind fun v4 => ((f_X6_of hh (x2) ((0 : Int32))).bind fun v5 => ((ldI hh v4 v5).bind fun v6 => ((stI hh v1 v2 (v3 + v6)).bind fun h7 => some h7)))))))
def f_X6_joinsWith_J55 (hh : PH) (x0 : Nat) (x1 : Int32) (x2 : Int32) (x3 : Int32)  : Option ((Int32 × PH) ⊕ (PH)) :=
  some (.inl ((x3 + 1), hh))
def f_X6_joinsWith_L2 (x0 : Nat) (x1 : Int32) (x2 : Int32) : Int32 × PH → Option ((Int32 × PH) ⊕ (PH)) := fun z2 =>
  ((rdR (z2.2) x0 5 1).bind fun v9 => ((f_X6_of (z2.2) (x2) ((1 : Int32))).bind fun v10 => ((ldI (z2.2) v9 v10).bind fun v11 => (if v11 ≤ (z2.1) then some (.inr (((z2.2)))) else ((rdR (z2.2) x0 5 1).bind fun v12 => ((f_X6_of (z2.2) (x2) (((2 : Int32) + (z2.1)))).bind fun v13 => ((ldI (z2.2) v12 v13).bind fun v14 => ((f_X6_isLaid (z2.2) (x0) (x1) (v14)).bind fun v15 => (if ¬ v15 = 0 then (f_X6_joinsWith_J55 (z2.2) (x0) (x1) (x2) ((z2.1))) else ((f_X6_phaseBehind (z2.2) (x0) (x1) (x2) (v14)).bind fun v16 => ((f_X6_lays (z2.2) (x0) (x1) (v14) (v16)).bind fun h17 => (f_X6_joinsWith_J55 h17 (x0) (x1) (x2) ((z2.1))))))))))))))
def f_X6_joinsWith (h : PH) (a0 : Nat) (a1 : Int32) (a2 : Int32) : Option PH :=
  if okO h a0 5 = true then ((lpn (f_X6_joinsWith_L2 (a0) (a1) (a2)) LF ((0 : Int32), h)).bind (fun w2 => (f_X6_joinsWith_J61 w2 (a0) (a1) (a2)))) else none
def f_X6_whyNotJoined_J43 (h : PH)  (k0 : Int32) : Option (Int32 × PH) :=
  some (k0, h)
def f_X6_whyNotJoined_J33 (h : PH) (x1 : Int32) (x2 : Int32)  : Option (Int32 × PH) :=
  (if ¬ x1 = x2 then (f_X6_whyNotJoined_J43 h ((2 : Int32))) else (f_X6_whyNotJoined_J43 h ((1 : Int32))))
def f_X6_whyNotJoined_J160 (hh : PH)  (k0 : Int32) : Option (Int32 × PH) :=
  some (k0, hh)
def f_X6_whyNotJoined_J144 (hh : PH) (x0 : Nat) (k0 : Int32) : Option (Int32 × PH) :=
  ((f_X6_putBack hh (x0)).bind fun h1 => (if k0 = 0 then (f_X6_whyNotJoined_J160 h1 ((0 : Int32))) else (f_X6_whyNotJoined_J160 h1 ((4 : Int32)))))
def f_X6_whyNotJoined_J113 (h : PH) (x0 : Nat) (x1 : Int32) (x2 : Int32) (x3 : Int32) (x4 : Int32)  : Option (Int32 × PH) :=
  (if ¬ x4 = 0 then ((f_X6_putAside h (x0)).bind fun h2 => ((f_X6_joinsWith h2 (x0) (x1) (x2)).bind fun h3 => ((f_X6_clash h3 (x0) (x1)).bind fun v4 => (if x3 ≤ v4 then (f_X6_whyNotJoined_J144 h3 (x0) ((0 : Int32))) else (f_X6_whyNotJoined_J144 h3 (x0) ((1 : Int32))))))) else some ((3 : Int32), h))
def f_X6_whyNotJoined_J105 (h : PH) (x0 : Nat) (x1 : Int32) (x2 : Int32) (x3 : Int32) (x5 : Int32) (k0 : Int32) : Option ((Int32 × Int32) ⊕ (Int32)) :=
  some (.inl (k0, (x5 + 1)))
def f_X6_whyNotJoined_J100 (h : PH) (x0 : Nat) (x1 : Int32) (x2 : Int32) (x3 : Int32) (x5 : Int32)  : Option ((Int32 × Int32) ⊕ (Int32)) :=
  (f_X6_whyNotJoined_J105 h (x0) (x1) (x2) (x3) (x5) ((1 : Int32)))
def f_X6_whyNotJoined_J104 (h : PH) (x0 : Nat) (x1 : Int32) (x2 : Int32) (x3 : Int32) (x5 : Int32)  : Option ((Int32 × Int32) ⊕ (Int32)) :=
  (f_X6_whyNotJoined_J105 h (x0) (x1) (x2) (x3) (x5) ((0 : Int32)))
def f_X6_whyNotJoined_L50 (hh : PH) (x0 : Nat) (x1 : Int32) (x2 : Int32) (x3 : Int32) : Int32 × Int32 → Option ((Int32 × Int32) ⊕ (Int32)) := fun z50 =>
  (if (8 : Int32) ≤ (z50.2) then some (.inr (((z50.1)))) else (if (z50.1) = 0 then (f_X6_whyNotJoined_J104 hh (x0) (x1) (x2) (x3) ((z50.2))) else ((f_X6_isLaid hh (x0) (x1) ((z50.2))).bind fun v12 => (if v12 = 0 then (f_X6_whyNotJoined_J100 hh (x0) (x1) (x2) (x3) ((z50.2))) else ((f_X6_isLaid hh (x0) (x2) ((z50.2))).bind fun v13 => (if v13 = 0 then (f_X6_whyNotJoined_J100 hh (x0) (x1) (x2) (x3) ((z50.2))) else ((f_X6_phaseOf hh (x0) (x1) ((z50.2))).bind fun v14 => ((f_X6_phaseBehind hh (x0) (x1) (x2) ((z50.2))).bind fun v15 => (if ¬ v14 = v15 then (f_X6_whyNotJoined_J104 hh (x0) (x1) (x2) (x3) ((z50.2))) else (f_X6_whyNotJoined_J100 hh (x0) (x1) (x2) (x3) ((z50.2))))))))))))
def f_X6_whyNotJoined (h : PH) (a0 : Nat) (a1 : Int32) (a2 : Int32) : Option (Int32 × PH) :=
  if okO h a0 5 = true then ((rdR h a0 5 1).bind fun v5 => ((f_X6_of h (a1) ((0 : Int32))).bind fun v6 => ((ldI h v5 v6).bind fun v7 => ((rdR h a0 5 1).bind fun v8 => ((f_X6_of h (a2) ((0 : Int32))).bind fun v9 => ((ldI h v8 v9).bind fun v10 => (if a1 = a2 then (f_X6_whyNotJoined_J33 h (a1) (a2)) else (if (v7 + v10) ≤ (60 : Int32) then ((lpn (f_X6_whyNotJoined_L50 (h) (a0) (a1) (a2) ((v7 + v10))) LF ((1 : Int32), (0 : Int32))).bind (fun w50 => (f_X6_whyNotJoined_J113 h (a0) (a1) (a2) ((v7 + v10)) (w50)))) else (f_X6_whyNotJoined_J33 h (a1) (a2)))))))))) else none
def f_X6_join_J35 (hh : PH) (x0 : Nat) (x1 : Int32) (x2 : Int32) (k0 : Nat) (k1 : Int32) : Option (Int32 × PH) :=
  ((f_X6_holds hh (k0) (k1)).bind fun q3 => (if ¬ q3.1 = 0 then ((f_X6_save q3.2 (x0)).bind fun h4 => ((f_X6_joinsWith h4 (x0) (x1) (x2)).bind fun h5 => ((rdR h5 x0 5 1).bind fun v6 => ((f_X6_of h5 (x1) ((0 : Int32))).bind fun v7 => ((ldI h5 v6 v7).bind fun v8 => ((f_X6_drops h5 (x0) (x2)).bind fun h9 => ((rdR h9 x0 5 1).bind fun v10 => ((ldI h9 v10 (10 : Int32)).bind fun v11 => ((stI h9 v10 (10 : Int32) (v11 + (1 : Int32))).bind fun h12 => some (v8, h12)))))))))) else some ((0 : Int32), q3.2)))
def f_X6_join_J17 (h : PH) (x0 : Nat) (x1 : Int32) (x2 : Int32) (k0 : Nat) : Option (Int32 × PH) :=
  (f_X6_join_J35 h (x0) (x1) (x2) (k0) ((1 : Int32)))
def f_X6_join (h : PH) (a0 : Nat) (a1 : Int32) (a2 : Int32) : Option (Int32 × PH) :=
  if okO h a0 5 = true then ((f_X6_isRope h (a0) (a1)).bind fun v13 => (if v13 = 0 then (f_X6_join_J17 h (a0) (a1) (a2) (a0)) else ((f_X6_isRope h (a0) (a2)).bind fun v14 => (if ¬ v14 = 0 then ((f_X6_whyNotJoined h (a0) (a1) (a2)).bind fun q17 => (if q17.1 ≤ 0 then (f_X6_join_J35 q17.2 (a0) (a1) (a2) (a0) ((0 : Int32))) else (f_X6_join_J35 q17.2 (a0) (a1) (a2) (a0) ((2 : Int32))))) else (f_X6_join_J17 h (a0) (a1) (a2) (a0)))))) else none
def f_X6_append_J30 (h : PH) (x0 : Nat) (x1 : Int32) (k0 : Nat) (k1 : Int32) : Option (Int32 × PH) :=
  ((f_X6_holds h (k0) (k1)).bind fun q3 => (if ¬ q3.1 = 0 then ((rdR q3.2 x0 5 7).bind fun v4 => ((rdI q3.2 x0 5 8).bind fun v5 => ((stI q3.2 v4 v5 x1).bind fun h6 => ((rdI h6 x0 5 8).bind fun v7 => ((wrF h6 x0 5 8 (.int ((v7 + (1 : Int32))))).bind fun h8 => ((rdI h8 x0 5 8).bind fun v9 => some (v9, h8))))))) else some ((0 : Int32), q3.2)))
def f_X6_append (h : PH) (a0 : Nat) (a1 : Int32) : Option (Int32 × PH) :=
  if okO h a0 5 = true then ((f_X6_in h (a1) ((33 : Int32)) ((126 : Int32))).bind fun v10 => (if ¬ v10 = 0 then ((rdI h a0 5 8).bind fun v11 => (if ¬ v11 = (60 : Int32) then (f_X6_append_J30 h (a0) (a1) (a0) ((0 : Int32))) else (f_X6_append_J30 h (a0) (a1) (a0) ((2 : Int32))))) else (f_X6_append_J30 h (a0) (a1) (a0) ((1 : Int32))))) else none
def f_X6_clearBuffer (h : PH) (a0 : Nat) : Option (Int32 × PH) :=
  if okO h a0 5 = true then ((wrF h a0 5 0 (.int ((0 : Int32)))).bind fun h1 => ((rdI h1 a0 5 8).bind fun v2 => ((wrF h1 a0 5 8 (.int ((0 : Int32)))).bind fun h3 => some (v2, h3)))) else none
def f_X6_isNext_J40 (h : PH)  (k0 : Int32) : Option Int32 :=
  (if z01 k0 = true then some (k0) else none)
def f_X6_isNext_J39 (h : PH)   : Option Int32 :=
  (f_X6_isNext_J40 h ((0 : Int32)))
def f_X6_isNext (h : PH) (a0 : Nat) (a1 : Int32) (a2 : Int32) : Option Int32 :=
  if okO h a0 5 = true then ((rdI h a0 5 11).bind fun v2 => (if ¬ v2 = 0 then (f_X6_isNext_J39 h ) else ((rdI h a0 5 10).bind fun v3 => ((rdI h a0 5 8).bind fun v4 => (if v4 ≤ v3 then (f_X6_isNext_J39 h ) else ((rdR h a0 5 7).bind fun v5 => ((rdI h a0 5 10).bind fun v6 => ((ldI h v5 v6).bind fun v7 => ((f_X6_in h (v7) (a1) (a2)).bind fun v8 => (if v8 = 0 then (f_X6_isNext_J39 h ) else (f_X6_isNext_J40 h ((1 : Int32))))))))))))) else none
def f_X6_reads_J67 (hh : PH) (x1 : Int32) (x3 : Int32) (k0 : Nat) (k1 : Int32) (k2 : Int32) : Option (Int32 × PH) :=
  ((wrF hh k0 5 10 (.int ((k1 + k2)))).bind fun h1 => some ((x3 - x1), h1))
def f_X6_reads_J47 (h : PH) (x0 : Nat) (x1 : Int32) (x3 : Int32) (k0 : Nat) (k1 : Int32) : Option (Int32 × PH) :=
  (if z01 k1 = true then ((wrF h k0 5 11 (.int (k1))).bind fun h2 => ((rdI h2 x0 5 10).bind fun v4 => ((rdI h2 x0 5 11).bind fun v5 => (if v5 = 0 then (f_X6_reads_J67 h2 (x1) (x3) (x0) (v4) ((1 : Int32))) else (f_X6_reads_J67 h2 (x1) (x3) (x0) (v4) ((0 : Int32))))))) else none)
def f_X6_reads_J42 (h : PH) (x0 : Nat) (x1 : Int32) (x3 : Int32) (k0 : Nat) : Option (Int32 × PH) :=
  (f_X6_reads_J47 h (x0) (x1) (x3) (k0) ((1 : Int32)))
def f_X6_reads_J24 (h : PH) (x0 : Nat) (x1 : Int32) (x2 : Int32) (k0 : Int32) : Option (Int32 × PH) :=
  ((rdI h x0 5 11).bind fun v6 => (if ¬ v6 = 0 then (f_X6_reads_J42 h (x0) (x1) (k0) (x0)) else ((f_X6_in h (k0) (x1) (x2)).bind fun v7 => (if ¬ v7 = 0 then (f_X6_reads_J47 h (x0) (x1) (k0) (x0) ((0 : Int32))) else (f_X6_reads_J42 h (x0) (x1) (k0) (x0))))))
def f_X6_reads (h : PH) (a0 : Nat) (a1 : Int32) (a2 : Int32) : Option (Int32 × PH) :=
  if okO h a0 5 = true then ((rdI h a0 5 10).bind fun v8 => ((rdI h a0 5 8).bind fun v9 => (if v9 ≤ v8 then (f_X6_reads_J24 h (a0) (a1) (a2) ((0 : Int32))) else ((rdR h a0 5 7).bind fun v10 => ((rdI h a0 5 10).bind fun v11 => ((ldI h v10 v11).bind fun v12 => (f_X6_reads_J24 h (a0) (a1) (a2) (v12)))))))) else none
def f_X6_readsNumber_J94 (hh : PH) (x3 : Int32)  : Option (Int32 × PH) :=
  some (x3, hh)
def f_X6_readsNumber_J90 (hh : PH) (x0 : Nat) (x2 : Int32) (x4 : Int32) (k0 : Int32) : Option ((Int32 × Int32 × PH) ⊕ (Int32 × PH)) :=
  some (.inl (k0, x4, hh))
def f_X6_readsNumber_J66 (hh : PH) (x0 : Nat) (x2 : Int32) (x3 : Int32) (k0 : Int32) : Option ((Int32 × Int32 × PH) ⊕ (Int32 × PH)) :=
  (if k0 = 0 then (f_X6_readsNumber_J90 hh (x0) (x2) (k0) (x3)) else ((f_X6_reads hh (x0) ((48 : Int32)) ((57 : Int32))).bind fun q4 => (f_X6_readsNumber_J90 q4.2 (x0) (x2) (k0) ((((10 : Int32) * x3) + q4.1)))))
def f_X6_readsNumber_J65 (hh : PH) (x0 : Nat) (x2 : Int32) (x3 : Int32)  : Option ((Int32 × Int32 × PH) ⊕ (Int32 × PH)) :=
  (f_X6_readsNumber_J66 hh (x0) (x2) (x3) ((0 : Int32)))
def f_X6_readsNumber_L24 (x0 : Nat) (x2 : Int32) : Int32 × Int32 × PH → Option ((Int32 × Int32 × PH) ⊕ (Int32 × PH)) := fun z24 =>
  (if (z24.2.1) = 0 then some (.inr (((z24.1), (z24.2.2)))) else ((f_X6_isNext (z24.2.2) (x0) ((48 : Int32)) ((57 : Int32))).bind fun v5 => (if v5 = 0 then (f_X6_readsNumber_J65 (z24.2.2) (x0) (x2) ((z24.1))) else ((rdR (z24.2.2) x0 5 7).bind fun v6 => ((rdI (z24.2.2) x0 5 10).bind fun v7 => ((ldI (z24.2.2) v6 v7).bind fun v8 => (if x2 < ((((10 : Int32) * (z24.1)) + v8) - (48 : Int32)) then (f_X6_readsNumber_J65 (z24.2.2) (x0) (x2) ((z24.1))) else (f_X6_readsNumber_J66 (z24.2.2) (x0) (x2) ((z24.1)) ((1 : Int32))))))))))
def f_X6_readsNumber_J22 (hh : PH) (x0 : Nat) (x2 : Int32) (x3 : Int32) (k0 : Int32) : Option (Int32 × PH) :=
  ((lpn (f_X6_readsNumber_L24 (x0) (x2)) LF (x3, k0, hh)).bind (fun w24 => (f_X6_readsNumber_J94 (w24.2) (w24.1))))
def f_X6_readsNumber (h : PH) (a0 : Nat) (a1 : Int32) (a2 : Int32) : Option (Int32 × PH) :=
  if okO h a0 5 = true then ((f_X6_reads h (a0) (((48 : Int32) + a1)) ((57 : Int32))).bind fun q11 => (if (a1 + q11.1) ≤ 0 then (f_X6_readsNumber_J22 q11.2 (a0) (a2) ((a1 + q11.1)) ((0 : Int32))) else (f_X6_readsNumber_J22 q11.2 (a0) (a2) ((a1 + q11.1)) ((1 : Int32))))) else none
def f_X6_readsPart_J174 (hh : PH)  (k0 : Nat) (k1 : Int32) : Option PH :=
  ((wrF hh k0 5 14 (.int (k1))).bind fun h1 => some h1)
def f_X6_readsPart_J150 (hh : PH) (x0 : Nat) (k0 : Nat) (k1 : Int32) : Option PH :=
  ((wrF hh k0 5 13 (.int (k1))).bind fun h2 => ((rdI h2 x0 5 12).bind fun v3 => (if ¬ v3 = (97 : Int32) then (f_X6_readsPart_J174 h2 (x0) ((0 : Int32))) else ((f_X6_readsNumber h2 (x0) ((0 : Int32)) ((19 : Int32))).bind fun q6 => (f_X6_readsPart_J174 q6.2 (x0) (q6.1))))))
def f_X6_readsPart_J109 (hh : PH) (x0 : Nat) (x1 : Int32) (k0 : Nat) (k1 : Int32) : Option PH :=
  ((wrF hh k0 5 12 (.int (k1))).bind fun h7 => (if ¬ x1 = (114 : Int32) then (if ¬ x1 = (45 : Int32) then (f_X6_readsPart_J150 h7 (x0) (x0) ((x1 - (97 : Int32)))) else ((f_X6_reads h7 (x0) ((97 : Int32)) ((104 : Int32))).bind fun q10 => (f_X6_readsPart_J150 q10.2 (x0) (x0) (q10.1)))) else ((f_X6_readsNumber h7 (x0) ((1 : Int32)) ((60 : Int32))).bind fun q13 => (f_X6_readsPart_J150 q13.2 (x0) (x0) (q13.1)))))
def f_X6_readsPart_J87 (hh : PH) (x0 : Nat) (x1 : Int32) (k0 : Nat) (k1 : Int32) (k2 : Int32) : Option PH :=
  ((wrF hh k0 5 10 (.int ((k1 + k2)))).bind fun h14 => ((f_X6_in h14 (x1) ((97 : Int32)) ((104 : Int32))).bind fun v15 => (if v15 = 0 then (f_X6_readsPart_J109 h14 (x0) (x1) (x0) (x1)) else (f_X6_readsPart_J109 h14 (x0) (x1) (x0) ((97 : Int32))))))
def f_X6_readsPart_J67 (h : PH) (x0 : Nat) (x1 : Int32) (k0 : Nat) (k1 : Int32) : Option PH :=
  (if z01 k1 = true then ((wrF h k0 5 11 (.int (k1))).bind fun h16 => ((rdI h16 x0 5 10).bind fun v18 => ((rdI h16 x0 5 11).bind fun v19 => (if v19 = 0 then (f_X6_readsPart_J87 h16 (x0) (x1) (x0) (v18) ((1 : Int32))) else (f_X6_readsPart_J87 h16 (x0) (x1) (x0) (v18) ((0 : Int32))))))) else none)
def f_X6_readsPart_J62 (h : PH) (x0 : Nat) (x1 : Int32) (k0 : Nat) : Option PH :=
  (f_X6_readsPart_J67 h (x0) (x1) (k0) ((1 : Int32)))
def f_X6_readsPart_J66 (h : PH) (x0 : Nat) (x1 : Int32) (k0 : Nat) : Option PH :=
  (f_X6_readsPart_J67 h (x0) (x1) (k0) ((0 : Int32)))
def f_X6_readsPart_J24 (h : PH) (x0 : Nat) (k0 : Int32) : Option PH :=
  ((rdI h x0 5 11).bind fun v20 => (if ¬ v20 = 0 then (f_X6_readsPart_J62 h (x0) (k0) (x0)) else (if k0 = (114 : Int32) then (f_X6_readsPart_J66 h (x0) (k0) (x0)) else (if k0 = (45 : Int32) then (f_X6_readsPart_J66 h (x0) (k0) (x0)) else (if k0 = (60 : Int32) then (f_X6_readsPart_J66 h (x0) (k0) (x0)) else ((f_X6_in h (k0) ((97 : Int32)) ((104 : Int32))).bind fun v21 => (if ¬ v21 = 0 then (f_X6_readsPart_J66 h (x0) (k0) (x0)) else (f_X6_readsPart_J62 h (x0) (k0) (x0)))))))))
def f_X6_readsPart (h : PH) (a0 : Nat) : Option PH :=
  if okO h a0 5 = true then ((rdI h a0 5 10).bind fun v22 => ((rdI h a0 5 8).bind fun v23 => (if v23 ≤ v22 then (f_X6_readsPart_J24 h (a0) ((0 : Int32))) else ((rdR h a0 5 7).bind fun v24 => ((rdI h a0 5 10).bind fun v25 => ((ldI h v24 v25).bind fun v26 => (f_X6_readsPart_J24 h (a0) (v26)))))))) else none
def f_X6_does_J37 (h : PH)   : Option (Int32 × PH) :=
  some ((0 : Int32), h)
def f_X6_does_J117 (h : PH)   : Option (Int32 × PH) :=
  some ((0 : Int32), h)
def f_X6_does_J39 (h : PH) (x0 : Nat) (x1 : Int32)  : Option (Int32 × PH) :=
  ((rdI h x0 5 12).bind fun v1 => (if v1 = 45 then ((rdI h x0 5 13).bind fun v2 => ((f_X6_isLaid h (x0) (x1) (v2)).bind fun v3 => (if ¬ v3 = 0 then ((rdI h x0 5 13).bind fun v4 => ((f_X6_takesOff h (x0) (x1) (v4)).bind fun h5 => some ((1 : Int32), h5))) else some ((0 : Int32), h)))) else (if v1 = 97 then ((rdI h x0 5 13).bind fun v6 => ((rdI h x0 5 14).bind fun v7 => ((f_X6_isPhase h (x0) (v6) (v7)).bind fun v8 => (if v8 = 0 then (f_X6_does_J117 h ) else ((rdI h x0 5 13).bind fun v9 => ((rdI h x0 5 14).bind fun v10 => ((f_X6_why h (x0) (x1) (v9) (v10)).bind fun v11 => (if v11 ≤ 0 then ((rdI h x0 5 13).bind fun v12 => ((rdI h x0 5 14).bind fun v13 => ((f_X6_lays h (x0) (x1) (v12) (v13)).bind fun h14 => ((rdR h14 x0 5 1).bind fun v15 => ((ldI h14 v15 (9 : Int32)).bind fun v16 => ((stI h14 v15 (9 : Int32) (v16 + (1 : Int32))).bind fun h17 => some ((1 : Int32), h17))))))) else (f_X6_does_J117 h ))))))))) else (if v1 = 114 then ((rdI h x0 5 13).bind fun v18 => ((f_X6_adds h (x0) (v18)).bind fun h19 => some ((1 : Int32), h19))) else ((f_X6_turns h (x0) (x1)).bind fun h20 => some ((1 : Int32), h20))))))
def f_X6_does (h : PH) (a0 : Nat) : Option (Int32 × PH) :=
  if okO h a0 5 = true then ((rdR h a0 5 1).bind fun v21 => ((ldI h v21 (8 : Int32)).bind fun v22 => ((rdI h a0 5 12).bind fun v23 => (if ¬ v23 = (114 : Int32) then (if 0 ≤ (v22 - (1 : Int32)) then (f_X6_does_J39 h (a0) ((v22 - (1 : Int32)))) else (f_X6_does_J37 h )) else ((rdR h a0 5 1).bind fun v24 => ((ldI h v24 (8 : Int32)).bind fun v25 => (if ¬ v25 = (4 : Int32) then (f_X6_does_J39 h (a0) ((v22 - (1 : Int32)))) else (f_X6_does_J37 h )))))))) else none
def f_X6_goes_J112 (hh : PH) (x2 : Int32)  : Option (Int32 × PH) :=
  some (x2, hh)
def f_X6_goes_J109 (hh : PH) (x0 : Nat) (x1 : Int32) (x2 : Int32) (x3 : Int32)  : Option ((Int32 × Int32 × PH) ⊕ (Int32 × PH)) :=
  some (.inl (x2, x3, hh))
def f_X6_goes_J108 (hh : PH) (x0 : Nat) (x1 : Int32) (x2 : Int32) (k0 : Int32) : Option ((Int32 × Int32 × PH) ⊕ (Int32 × PH)) :=
  (f_X6_goes_J109 hh (x0) (x1) (x2) (k0))
def f_X6_goes_J81 (hh : PH) (x0 : Nat) (x1 : Int32) (x2 : Int32) (k0 : Int32) : Option ((Int32 × Int32 × PH) ⊕ (Int32 × PH)) :=
  (if k0 = 0 then (f_X6_goes_J109 hh (x0) (x1) (x2) (k0)) else ((f_X6_reads hh (x0) ((44 : Int32)) ((44 : Int32))).bind fun q6 => ((rdI q6.2 x0 5 11).bind fun v7 => (if ¬ v7 = 0 then (f_X6_goes_J108 q6.2 (x0) (x1) (x2) ((0 : Int32))) else (f_X6_goes_J108 q6.2 (x0) (x1) (x2) ((1 : Int32)))))))
def f_X6_goes_J80 (hh : PH) (x0 : Nat) (x1 : Int32) (x2 : Int32)  : Option ((Int32 × Int32 × PH) ⊕ (Int32 × PH)) :=
  (f_X6_goes_J81 hh (x0) (x1) (x2) ((0 : Int32)))
def f_X6_goes_J51 (hh : PH) (x0 : Nat) (x1 : Int32) (x4 : Int32) (k0 : Int32) (k1 : Int32) : Option ((Int32 × Int32 × PH) ⊕ (Int32 × PH)) :=
  (if x4 = 0 then (f_X6_goes_J80 hh (x0) (x1) ((k0 + k1))) else ((rdI hh x0 5 11).bind fun v8 => (if ¬ v8 = 0 then (f_X6_goes_J80 hh (x0) (x1) ((k0 + k1))) else ((rdI hh x0 5 10).bind fun v9 => ((rdI hh x0 5 8).bind fun v10 => (if v10 ≤ v9 then (f_X6_goes_J80 hh (x0) (x1) ((k0 + k1))) else (f_X6_goes_J81 hh (x0) (x1) ((k0 + k1)) ((1 : Int32)))))))))
def f_X6_goes_J38 (hh : PH) (x0 : Nat) (x1 : Int32) (x2 : Int32) (k0 : Int32) : Option ((Int32 × Int32 × PH) ⊕ (Int32 × PH)) :=
  (if k0 = 0 then (f_X6_goes_J51 hh (x0) (x1) (k0) (x2) ((0 : Int32))) else (f_X6_goes_J51 hh (x0) (x1) (k0) (x2) ((1 : Int32))))
def f_X6_goes_J33 (hh : PH) (x0 : Nat) (x1 : Int32) (x2 : Int32)  : Option ((Int32 × Int32 × PH) ⊕ (Int32 × PH)) :=
  (f_X6_goes_J38 hh (x0) (x1) (x2) ((1 : Int32)))
def f_X6_goes_L14 (x0 : Nat) (x1 : Int32) : Int32 × Int32 × PH → Option ((Int32 × Int32 × PH) ⊕ (Int32 × PH)) := fun z14 =>
  (if (z14.2.1) = 0 then some (.inr (((z14.1), (z14.2.2)))) else ((f_X6_readsPart (z14.2.2) (x0)).bind fun h11 => (if x1 = 0 then (f_X6_goes_J33 h11 (x0) (x1) ((z14.1))) else ((f_X6_does h11 (x0)).bind fun q14 => (if q14.1 = 0 then (f_X6_goes_J38 q14.2 (x0) (x1) ((z14.1)) ((0 : Int32))) else (f_X6_goes_J33 q14.2 (x0) (x1) ((z14.1))))))))
def f_X6_goes (h : PH) (a0 : Nat) (a1 : Int32) : Option (Int32 × PH) :=
  if okO h a0 5 = true then ((wrF h a0 5 10 (.int ((0 : Int32)))).bind fun h1 => ((wrF h1 a0 5 11 (.int ((0 : Int32)))).bind fun h2 => ((lpn (f_X6_goes_L14 (a0) (a1)) LF ((0 : Int32), (1 : Int32), h2)).bind (fun w14 => (f_X6_goes_J112 (w14.2) (w14.1)))))) else none
def f_X6_firstError_J29 (hh : PH)  (k0 : Int32) : Option (Int32 × PH) :=
  some (k0, hh)
def f_X6_firstError (h : PH) (a0 : Nat) : Option (Int32 × PH) :=
  if okO h a0 5 = true then ((wrF h a0 5 0 (.int ((0 : Int32)))).bind fun h1 => ((f_X6_goes h1 (a0) ((0 : Int32))).bind fun q4 => ((rdI q4.2 a0 5 11).bind fun v5 => (if v5 = 0 then ((rdI q4.2 a0 5 8).bind fun v6 => (f_X6_firstError_J29 q4.2 (v6))) else ((rdI q4.2 a0 5 10).bind fun v7 => (f_X6_firstError_J29 q4.2 (v7))))))) else none
def f_X6_play_J19 (hh : PH) (x0 : Nat) (k0 : Nat) (k1 : Int32) : Option (Int32 × PH) :=
  ((f_X6_holds hh (k0) (k1)).bind fun q3 => (if ¬ q3.1 = 0 then ((f_X6_save q3.2 (x0)).bind fun h4 => ((f_X6_goes h4 (x0) ((1 : Int32))).bind fun q7 => ((wrF q7.2 x0 5 8 (.int ((0 : Int32)))).bind fun h8 => some (q7.1, h8)))) else some ((0 : Int32), q3.2)))
def f_X6_play (h : PH) (a0 : Nat) : Option (Int32 × PH) :=
  if okO h a0 5 = true then ((f_X6_goes h (a0) ((0 : Int32))).bind fun q11 => ((rdI q11.2 a0 5 11).bind fun v12 => (if v12 = 0 then (f_X6_play_J19 q11.2 (a0) (a0) ((0 : Int32))) else (f_X6_play_J19 q11.2 (a0) (a0) ((1 : Int32)))))) else none
def f_X6_undo_J65 (hh : PH) (x0 : Nat)  : Option (Int32 × PH) :=
  ((rdI hh x0 5 6).bind fun v1 => some (v1, hh))
def f_X6_undo_L33 (x0 : Nat) : Int32 × PH → Option ((Int32 × PH) ⊕ (PH)) := fun z33 =>
  (if (84 : Int32) ≤ (z33.1) then some (.inr (((z33.2)))) else ((rdR (z33.2) x0 5 1).bind fun v8 => ((rdR (z33.2) x0 5 5).bind fun v9 => ((rdI (z33.2) x0 5 6).bind fun v10 => ((ldI (z33.2) v9 (((84 : Int32) * v10) + (z33.1))).bind fun v11 => ((stI (z33.2) v8 (z33.1) v11).bind fun h12 => some (.inl (((z33.1) + 1), h12))))))))
def f_X6_undo_J13 (h : PH) (x0 : Nat) (k0 : Nat) (k1 : Int32) : Option (Int32 × PH) :=
  ((f_X6_holds h (k0) (k1)).bind fun q4 => (if ¬ q4.1 = 0 then ((rdI q4.2 x0 5 6).bind fun v5 => ((wrF q4.2 x0 5 6 (.int ((v5 - (1 : Int32))))).bind fun h6 => ((lpn (f_X6_undo_L33 (x0)) LF ((0 : Int32), h6)).bind (fun w33 => (f_X6_undo_J65 w33 (x0)))))) else some ((0 : Int32), q4.2)))
def f_X6_undo (h : PH) (a0 : Nat) : Option (Int32 × PH) :=
  if okO h a0 5 = true then ((rdI h a0 5 6).bind fun v13 => (if v13 ≤ 0 then (f_X6_undo_J13 h (a0) (a0) ((1 : Int32))) else (f_X6_undo_J13 h (a0) (a0) ((0 : Int32))))) else none
def f_X6_keep_J31 (hh : PH) (x0 : Nat)  : Option (Int32 × PH) :=
  ((wrF hh x0 5 4 (.int ((1 : Int32)))).bind fun h1 => ((rdR h1 x0 5 1).bind fun v2 => ((ldI h1 v2 (8 : Int32)).bind fun v3 => some (v3, h1))))
def f_X6_keep_L7 (x0 : Nat) : Int32 × PH → Option ((Int32 × PH) ⊕ (PH)) := fun z7 =>
  (if (84 : Int32) ≤ (z7.1) then some (.inr (((z7.2)))) else ((rdR (z7.2) x0 5 3).bind fun v6 => ((rdR (z7.2) x0 5 1).bind fun v7 => ((ldI (z7.2) v7 (z7.1)).bind fun v8 => ((stI (z7.2) v6 (z7.1) v8).bind fun h9 => some (.inl (((z7.1) + 1), h9)))))))
def f_X6_keep (h : PH) (a0 : Nat) : Option (Int32 × PH) :=
  if okO h a0 5 = true then ((wrF h a0 5 0 (.int ((0 : Int32)))).bind fun h4 => ((lpn (f_X6_keep_L7 (a0)) LF ((0 : Int32), h4)).bind (fun w7 => (f_X6_keep_J31 w7 (a0))))) else none
def f_X6_restore_J51 (hh : PH) (x0 : Nat)  : Option (Int32 × PH) :=
  ((rdR hh x0 5 1).bind fun v1 => ((ldI hh v1 (8 : Int32)).bind fun v2 => some (v2, hh)))
def f_X6_restore_L27 (x0 : Nat) : Int32 × PH → Option ((Int32 × PH) ⊕ (PH)) := fun z27 =>
  (if (84 : Int32) ≤ (z27.1) then some (.inr (((z27.2)))) else ((rdR (z27.2) x0 5 1).bind fun v8 => ((rdR (z27.2) x0 5 3).bind fun v9 => ((ldI (z27.2) v9 (z27.1)).bind fun v10 => ((stI (z27.2) v8 (z27.1) v10).bind fun h11 => some (.inl (((z27.1) + 1), h11)))))))
def f_X6_restore_J13 (h : PH) (x0 : Nat) (k0 : Nat) (k1 : Int32) : Option (Int32 × PH) :=
  ((f_X6_holds h (k0) (k1)).bind fun q5 => (if ¬ q5.1 = 0 then ((f_X6_save q5.2 (x0)).bind fun h6 => ((lpn (f_X6_restore_L27 (x0)) LF ((0 : Int32), h6)).bind (fun w27 => (f_X6_restore_J51 w27 (x0))))) else some ((0 : Int32), q5.2)))
def f_X6_restore (h : PH) (a0 : Nat) : Option (Int32 × PH) :=
  if okO h a0 5 = true then ((rdI h a0 5 4).bind fun v12 => (if v12 = 0 then (f_X6_restore_J13 h (a0) (a0) ((1 : Int32))) else (f_X6_restore_J13 h (a0) (a0) ((0 : Int32))))) else none
def f_X6_place_J50 (hh : PH)  (k0 : Int32) : Option (Int32 × PH) :=
  some (k0, hh)
def f_X6_place_J34 (h : PH) (x0 : Nat) (x1 : Int32) (x2 : Int32) (k0 : Nat) (k1 : Int32) : Option (Int32 × PH) :=
  ((f_X6_holds h (k0) (k1)).bind fun q3 => (if q3.1 = 0 then (f_X6_place_J50 q3.2 ((0 : Int32))) else ((f_X6_hueAt q3.2 (x0) (x1) (x2)).bind fun v4 => (f_X6_place_J50 q3.2 (v4)))))
def f_X6_place_J33 (h : PH) (x0 : Nat) (x1 : Int32) (x2 : Int32) (k0 : Nat) : Option (Int32 × PH) :=
  (f_X6_place_J34 h (x0) (x1) (x2) (k0) ((1 : Int32)))
def f_X6_place (h : PH) (a0 : Nat) (a1 : Int32) (a2 : Int32) : Option (Int32 × PH) :=
  if okO h a0 5 = true then ((f_X6_isRope h (a0) (a1)).bind fun v5 => (if v5 = 0 then (f_X6_place_J33 h (a0) (a1) (a2) (a0)) else ((rdR h a0 5 1).bind fun v6 => ((f_X6_of h (a1) ((0 : Int32))).bind fun v7 => ((ldI h v6 v7).bind fun v8 => ((f_X6_in h (a2) ((0 : Int32)) ((v8 - (1 : Int32)))).bind fun v9 => (if v9 = 0 then (f_X6_place_J33 h (a0) (a1) (a2) (a0)) else (f_X6_place_J34 h (a0) (a1) (a2) (a0) ((0 : Int32)))))))))) else none
def f_X6_holes_J42 (h : PH) (x2 : Int32)  : Option Int32 :=
  some (x2)
def f_X6_holes_J34 (h : PH) (x0 : Nat) (x1 : Int32) (x3 : Int32) (k0 : Int32) (k1 : Int32) : Option ((Int32 × Int32) ⊕ (Int32)) :=
  some (.inl ((k0 + k1), (x3 + 1)))
def f_X6_holes_L4 (h : PH) (x0 : Nat) (x1 : Int32) : Int32 × Int32 → Option ((Int32 × Int32) ⊕ (Int32)) := fun z4 =>
  ((rdR h x0 5 1).bind fun v2 => ((f_X6_of h (x1) ((0 : Int32))).bind fun v3 => ((ldI h v2 v3).bind fun v4 => (if v4 ≤ (z4.2) then some (.inr (((z4.1)))) else ((f_X6_hueAt h (x0) (x1) ((z4.2))).bind fun v5 => (if ¬ v5 = ((-1) : Int32) then (f_X6_holes_J34 h (x0) (x1) ((z4.2)) ((z4.1)) ((0 : Int32))) else (f_X6_holes_J34 h (x0) (x1) ((z4.2)) ((z4.1)) ((1 : Int32)))))))))
def f_X6_holes (h : PH) (a0 : Nat) (a1 : Int32) : Option Int32 :=
  if okO h a0 5 = true then ((lpn (f_X6_holes_L4 (h) (a0) (a1)) LF ((0 : Int32), (0 : Int32))).bind (fun w4 => (f_X6_holes_J42 h (w4)))) else none
def f_X6_firstHole_J41 (h : PH) (x2 : Int32)  : Option Int32 :=
  some (x2)
def f_X6_firstHole_J34 (h : PH) (x0 : Nat) (x1 : Int32) (x3 : Int32) (k0 : Int32) : Option ((Int32 × Int32) ⊕ (Int32)) :=
  some (.inl (k0, (x3 + (-1))))
def f_X6_firstHole_L15 (h : PH) (x0 : Nat) (x1 : Int32) : Int32 × Int32 → Option ((Int32 × Int32) ⊕ (Int32)) := fun z15 =>
  (if (z15.2) < 0 then some (.inr (((z15.1)))) else ((f_X6_hueAt h (x0) (x1) ((z15.2))).bind fun v5 => (if ¬ v5 = ((-1) : Int32) then (f_X6_firstHole_J34 h (x0) (x1) ((z15.2)) ((z15.1))) else (f_X6_firstHole_J34 h (x0) (x1) ((z15.2)) ((z15.2))))))
def f_X6_firstHole (h : PH) (a0 : Nat) (a1 : Int32) : Option Int32 :=
  if okO h a0 5 = true then ((rdR h a0 5 1).bind fun v1 => ((f_X6_of h (a1) ((0 : Int32))).bind fun v2 => ((ldI h v1 v2).bind fun v3 => ((lpn (f_X6_firstHole_L15 (h) (a0) (a1)) LF (((-1) : Int32), (v3 - (1 : Int32)))).bind (fun w15 => (f_X6_firstHole_J41 h (w15))))))) else none
def f_X6_holesSideBySide_J58 (h : PH) (x2 : Int32)  : Option Int32 :=
  some (x2)
def f_X6_holesSideBySide_J51 (h : PH) (x0 : Nat) (x1 : Int32) (x3 : Int32) (x4 : Int32) (k0 : Int32) : Option ((Int32 × Int32 × Int32) ⊕ (Int32)) :=
  some (.inl (k0, x3, (x4 + 1)))
def f_X6_holesSideBySide_J40 (h : PH) (x0 : Nat) (x1 : Int32) (x2 : Int32) (x4 : Int32) (k0 : Int32) : Option ((Int32 × Int32 × Int32) ⊕ (Int32)) :=
  (if k0 ≤ x2 then (f_X6_holesSideBySide_J51 h (x0) (x1) (k0) (x4) (x2)) else (f_X6_holesSideBySide_J51 h (x0) (x1) (k0) (x4) (k0)))
def f_X6_holesSideBySide_L7 (h : PH) (x0 : Nat) (x1 : Int32) : Int32 × Int32 × Int32 → Option ((Int32 × Int32 × Int32) ⊕ (Int32)) := fun z7 =>
  ((rdR h x0 5 1).bind fun v2 => ((f_X6_of h (x1) ((0 : Int32))).bind fun v3 => ((ldI h v2 v3).bind fun v4 => (if v4 ≤ (z7.2.2) then some (.inr (((z7.1)))) else ((f_X6_hueAt h (x0) (x1) ((z7.2.2))).bind fun v5 => (if ¬ v5 = ((-1) : Int32) then (f_X6_holesSideBySide_J40 h (x0) (x1) ((z7.1)) ((z7.2.2)) ((0 : Int32))) else (f_X6_holesSideBySide_J40 h (x0) (x1) ((z7.1)) ((z7.2.2)) (((z7.2.1) + (1 : Int32))))))))))
def f_X6_holesSideBySide (h : PH) (a0 : Nat) (a1 : Int32) : Option Int32 :=
  if okO h a0 5 = true then ((lpn (f_X6_holesSideBySide_L7 (h) (a0) (a1)) LF ((0 : Int32), (0 : Int32), (0 : Int32))).bind (fun w7 => (f_X6_holesSideBySide_J58 h (w7)))) else none
def f_X6_divisor_J21 (h : PH) (x2 : Int32)  : Option Int32 :=
  some (x2)
def f_X6_divisor_L4 (h : PH)  : Int32 × Int32 → Option ((Int32 × Int32) ⊕ (Int32)) := fun z4 =>
  (if (z4.2) ≤ 0 then some (.inr (((z4.1)))) else (if ¬ (z4.2) = 0 then some (.inl ((z4.2), ((z4.1) - (z4.1) / (z4.2) * (z4.2)))) else none))
def f_X6_divisor (h : PH) (a0 : Int32) (a1 : Int32) : Option Int32 :=
  ((lpn (f_X6_divisor_L4 (h)) LF (a0, a1)).bind (fun w4 => (f_X6_divisor_J21 h (w4))))
def f_X6_period_J53 (h : PH) (x2 : Int32)  : Option Int32 :=
  some (x2)
def f_X6_period_J46 (h : PH) (x0 : Nat) (x1 : Int32) (x3 : Int32) (k0 : Int32) : Option ((Int32 × Int32) ⊕ (Int32)) :=
  some (.inl (k0, (x3 + 1)))
def f_X6_period_L4 (h : PH) (x0 : Nat) (x1 : Int32) : Int32 × Int32 → Option ((Int32 × Int32) ⊕ (Int32)) := fun z4 =>
  (if (8 : Int32) ≤ (z4.2) then some (.inr (((z4.1)))) else ((f_X6_isLaid h (x0) (x1) ((z4.2))).bind fun v2 => (if v2 = 0 then (f_X6_period_J46 h (x0) (x1) ((z4.2)) ((z4.1))) else ((rdR h x0 5 1).bind fun v3 => ((ldI h v3 ((0 : Int32) + (z4.2))).bind fun v4 => ((f_X6_divisor h ((z4.1)) (v4)).bind fun v5 => (if ¬ v5 = 0 then ((rdR h x0 5 1).bind fun v7 => ((ldI h v7 ((0 : Int32) + (z4.2))).bind fun v8 => (f_X6_period_J46 h (x0) (x1) ((z4.2)) ((((z4.1) / v5) * v8))))) else none)))))))
def f_X6_period (h : PH) (a0 : Nat) (a1 : Int32) : Option Int32 :=
  if okO h a0 5 = true then ((lpn (f_X6_period_L4 (h) (a0) (a1)) LF ((1 : Int32), (0 : Int32))).bind (fun w4 => (f_X6_period_J53 h (w4)))) else none
def f_X6_toldOfRope (h : PH) (a0 : Nat) (a1 : Int32) (a2 : Int32) : Option Int32 :=
  if okO h a0 5 = true then (if a2 = 0 then ((rdR h a0 5 1).bind fun v1 => ((f_X6_of h (a1) (a2)).bind fun v2 => ((ldI h v1 v2).bind fun v3 => some (v3)))) else (if a2 = 1 then ((rdR h a0 5 1).bind fun v4 => ((f_X6_of h (a1) (a2)).bind fun v5 => ((ldI h v4 v5).bind fun v6 => some (v6)))) else (if a2 = 2 then ((f_X6_holes h (a0) (a1)).bind fun v7 => some (v7)) else (if a2 = 3 then ((f_X6_firstHole h (a0) (a1)).bind fun v8 => some (v8)) else (if a2 = 4 then ((f_X6_holesSideBySide h (a0) (a1)).bind fun v9 => some (v9)) else ((f_X6_period h (a0) (a1)).bind fun v10 => some (v10))))))) else none
def f_X6_ropeOf_J43 (hh : PH)  (k0 : Int32) : Option (Int32 × PH) :=
  some (k0, hh)
def f_X6_ropeOf_J27 (h : PH) (x0 : Nat) (x1 : Int32) (x2 : Int32) (k0 : Nat) (k1 : Int32) : Option (Int32 × PH) :=
  ((f_X6_holds h (k0) (k1)).bind fun q3 => (if q3.1 = 0 then (f_X6_ropeOf_J43 q3.2 ((0 : Int32))) else ((f_X6_toldOfRope q3.2 (x0) (x1) (x2)).bind fun v4 => (f_X6_ropeOf_J43 q3.2 (v4)))))
def f_X6_ropeOf (h : PH) (a0 : Nat) (a1 : Int32) (a2 : Int32) : Option (Int32 × PH) :=
  if okO h a0 5 = true then ((f_X6_isRope h (a0) (a1)).bind fun v5 => (if ¬ v5 = 0 then ((f_X6_in h (a2) ((0 : Int32)) ((5 : Int32))).bind fun v6 => (if ¬ v6 = 0 then (f_X6_ropeOf_J27 h (a0) (a1) (a2) (a0) ((0 : Int32))) else (f_X6_ropeOf_J27 h (a0) (a1) (a2) (a0) ((2 : Int32))))) else (f_X6_ropeOf_J27 h (a0) (a1) (a2) (a0) ((1 : Int32))))) else none
def f_X6_orderOf_J50 (h : PH) (x3 : Int32)  : Option Int32 :=
  some (x3)
def f_X6_orderOf_J43 (h : PH) (x0 : Nat) (x1 : Int32) (x2 : Int32) (x4 : Int32) (k0 : Int32) : Option ((Int32 × Int32) ⊕ (Int32)) :=
  some (.inl (k0, (x4 + 1)))
def f_X6_orderOf_L5 (h : PH) (x0 : Nat) (x1 : Int32) (x2 : Int32) : Int32 × Int32 → Option ((Int32 × Int32) ⊕ (Int32)) := fun z5 =>
  ((rdR h x0 5 1).bind fun v2 => ((f_X6_of h (x1) ((1 : Int32))).bind fun v3 => ((ldI h v2 v3).bind fun v4 => (if v4 ≤ (z5.2) then some (.inr (((z5.1)))) else ((rdR h x0 5 1).bind fun v5 => ((f_X6_of h (x1) (((2 : Int32) + (z5.2)))).bind fun v6 => ((ldI h v5 v6).bind fun v7 => (if ¬ v7 = x2 then (f_X6_orderOf_J43 h (x0) (x1) (x2) ((z5.2)) ((z5.1))) else (f_X6_orderOf_J43 h (x0) (x1) (x2) ((z5.2)) ((z5.2)))))))))))
def f_X6_orderOf (h : PH) (a0 : Nat) (a1 : Int32) (a2 : Int32) : Option Int32 :=
  if okO h a0 5 = true then ((lpn (f_X6_orderOf_L5 (h) (a0) (a1) (a2)) LF (((-1) : Int32), (0 : Int32))).bind (fun w5 => (f_X6_orderOf_J50 h (w5)))) else none
def f_X6_toldOfHue_J58 (h : PH)  (k0 : Int32) : Option Int32 :=
  some (k0)
def f_X6_toldOfHue (h : PH) (a0 : Nat) (a1 : Int32) (a2 : Int32) (a3 : Int32) : Option Int32 :=
  if okO h a0 5 = true then ((f_X6_isLaid h (a0) (a1) (a2)).bind fun v1 => (if ¬ v1 = 0 then (if ¬ a3 = 0 then (if ¬ a3 = (1 : Int32) then (if ¬ a3 = (2 : Int32) then ((f_X6_orderOf h (a0) (a1) (a2)).bind fun v2 => (f_X6_toldOfHue_J58 h (v2))) else ((f_X6_lastOf h (a0) (a1) (a2)).bind fun v3 => (f_X6_toldOfHue_J58 h (v3)))) else ((f_X6_placesOf h (a0) (a1) (a2)).bind fun v4 => (f_X6_toldOfHue_J58 h (v4)))) else ((f_X6_phaseOf h (a0) (a1) (a2)).bind fun v5 => (f_X6_toldOfHue_J58 h (v5)))) else some (((-1) : Int32)))) else none
def f_X6_hueOf_J45 (hh : PH)  (k0 : Int32) : Option (Int32 × PH) :=
  some (k0, hh)
def f_X6_hueOf_J28 (h : PH) (x0 : Nat) (x1 : Int32) (x2 : Int32) (x3 : Int32) (k0 : Nat) (k1 : Int32) : Option (Int32 × PH) :=
  ((f_X6_holds h (k0) (k1)).bind fun q3 => (if q3.1 = 0 then (f_X6_hueOf_J45 q3.2 ((0 : Int32))) else ((f_X6_toldOfHue q3.2 (x0) (x1) (x2) (x3)).bind fun v4 => (f_X6_hueOf_J45 q3.2 (v4)))))
def f_X6_hueOf (h : PH) (a0 : Nat) (a1 : Int32) (a2 : Int32) (a3 : Int32) : Option (Int32 × PH) :=
  if okO h a0 5 = true then ((f_X6_areThere h (a0) (a1) (a2)).bind fun v5 => (if ¬ v5 = 0 then ((f_X6_in h (a3) ((0 : Int32)) ((3 : Int32))).bind fun v6 => (if ¬ v6 = 0 then (f_X6_hueOf_J28 h (a0) (a1) (a2) (a3) (a0) ((0 : Int32))) else (f_X6_hueOf_J28 h (a0) (a1) (a2) (a3) (a0) ((2 : Int32))))) else (f_X6_hueOf_J28 h (a0) (a1) (a2) (a3) (a0) ((1 : Int32))))) else none
def f_X6_gapOf_J31 (hh : PH)  (k0 : Int32) : Option (Int32 × PH) :=
  some (k0, hh)
def f_X6_gapOf_J13 (h : PH) (x0 : Nat) (x1 : Int32) (k0 : Nat) (k1 : Int32) : Option (Int32 × PH) :=
  ((f_X6_holds h (k0) (k1)).bind fun q3 => (if q3.1 = 0 then (f_X6_gapOf_J31 q3.2 ((0 : Int32))) else ((rdR q3.2 x0 5 1).bind fun v4 => ((ldI q3.2 v4 ((0 : Int32) + x1)).bind fun v5 => (f_X6_gapOf_J31 q3.2 (v5))))))
def f_X6_gapOf (h : PH) (a0 : Nat) (a1 : Int32) : Option (Int32 × PH) :=
  if okO h a0 5 = true then ((f_X6_isHue h (a1)).bind fun v6 => (if v6 = 0 then (f_X6_gapOf_J13 h (a0) (a1) (a0) ((1 : Int32))) else (f_X6_gapOf_J13 h (a0) (a1) (a0) ((0 : Int32))))) else none
def f_X6_sum_J46 (h : PH) (x2 : Int32)  : Option Int32 :=
  some (x2)
def f_X6_sum_J38 (h : PH) (x0 : Nat) (x1 : Int32) (x3 : Int32) (k0 : Int32) (k1 : Int32) : Option ((Int32 × Int32) ⊕ (Int32)) :=
  some (.inl ((k0 + k1), (x3 + 1)))
def f_X6_sum_L4 (h : PH) (x0 : Nat) (x1 : Int32) : Int32 × Int32 → Option ((Int32 × Int32) ⊕ (Int32)) := fun z4 =>
  ((rdR h x0 5 1).bind fun v2 => ((ldI h v2 (8 : Int32)).bind fun v3 => (if v3 ≤ (z4.2) then some (.inr (((z4.1)))) else (if x1 = 0 then ((rdR h x0 5 1).bind fun v4 => ((f_X6_of h ((z4.2)) ((0 : Int32))).bind fun v5 => ((ldI h v4 v5).bind fun v6 => (f_X6_sum_J38 h (x0) (x1) ((z4.2)) ((z4.1)) (v6))))) else ((f_X6_holes h (x0) ((z4.2))).bind fun v7 => (f_X6_sum_J38 h (x0) (x1) ((z4.2)) ((z4.1)) (v7)))))))
def f_X6_sum (h : PH) (a0 : Nat) (a1 : Int32) : Option Int32 :=
  if okO h a0 5 = true then ((lpn (f_X6_sum_L4 (h) (a0) (a1)) LF ((0 : Int32), (0 : Int32))).bind (fun w4 => (f_X6_sum_J46 h (w4)))) else none
def f_X6_huesLaid_J32 (h : PH) (x1 : Int32)  : Option Int32 :=
  some (x1)
def f_X6_huesLaid_J24 (h : PH) (x0 : Nat) (x2 : Int32) (k0 : Int32) (k1 : Int32) : Option ((Int32 × Int32) ⊕ (Int32)) :=
  some (.inl ((k0 + k1), (x2 + 1)))
def f_X6_huesLaid_L4 (h : PH) (x0 : Nat) : Int32 × Int32 → Option ((Int32 × Int32) ⊕ (Int32)) := fun z4 =>
  (if (8 : Int32) ≤ (z4.2) then some (.inr (((z4.1)))) else ((f_X6_isLaidAnywhere h (x0) ((z4.2))).bind fun v2 => (if v2 = 0 then (f_X6_huesLaid_J24 h (x0) ((z4.2)) ((z4.1)) ((0 : Int32))) else (f_X6_huesLaid_J24 h (x0) ((z4.2)) ((z4.1)) ((1 : Int32))))))
def f_X6_huesLaid (h : PH) (a0 : Nat) : Option Int32 :=
  if okO h a0 5 = true then ((lpn (f_X6_huesLaid_L4 (h) (a0)) LF ((0 : Int32), (0 : Int32))).bind (fun w4 => (f_X6_huesLaid_J32 h (w4)))) else none
def f_X6_counted_J63 (h : PH)  (k0 : Nat) (k1 : Int32) : Option Int32 :=
  ((f_X6_sum h (k0) (k1)).bind fun v1 => some (v1))
def f_X6_counted (h : PH) (a0 : Nat) (a1 : Int32) : Option Int32 :=
  if okO h a0 5 = true then (if a1 = 0 then ((rdR h a0 5 1).bind fun v2 => ((ldI h v2 (8 : Int32)).bind fun v3 => some (v3))) else (if a1 = 1 then (if ¬ a1 = (2 : Int32) then (f_X6_counted_J63 h (a0) ((0 : Int32))) else (f_X6_counted_J63 h (a0) ((1 : Int32)))) else (if a1 = 2 then (if ¬ a1 = (2 : Int32) then (f_X6_counted_J63 h (a0) ((0 : Int32))) else (f_X6_counted_J63 h (a0) ((1 : Int32)))) else (if a1 = 3 then ((f_X6_huesLaid h (a0)).bind fun v4 => some (v4)) else (if a1 = 4 then ((rdR h a0 5 1).bind fun v5 => ((ldI h v5 (((9 : Int32) + a1) - (4 : Int32))).bind fun v6 => some (v6))) else (if a1 = 5 then ((rdR h a0 5 1).bind fun v7 => ((ldI h v7 (((9 : Int32) + a1) - (4 : Int32))).bind fun v8 => some (v8))) else (if a1 = 6 then ((rdR h a0 5 1).bind fun v9 => ((ldI h v9 (((9 : Int32) + a1) - (4 : Int32))).bind fun v10 => some (v10))) else ((rdI h a0 5 6).bind fun v11 => some (v11))))))))) else none
def f_X6_count_J31 (hh : PH)  (k0 : Int32) : Option (Int32 × PH) :=
  some (k0, hh)
def f_X6_count_J16 (h : PH) (x0 : Nat) (x1 : Int32) (k0 : Nat) (k1 : Int32) : Option (Int32 × PH) :=
  ((f_X6_holds h (k0) (k1)).bind fun q3 => (if q3.1 = 0 then (f_X6_count_J31 q3.2 ((0 : Int32))) else ((f_X6_counted q3.2 (x0) (x1)).bind fun v4 => (f_X6_count_J31 q3.2 (v4)))))
def f_X6_count (h : PH) (a0 : Nat) (a1 : Int32) : Option (Int32 × PH) :=
  if okO h a0 5 = true then ((f_X6_in h (a1) ((0 : Int32)) ((7 : Int32))).bind fun v5 => (if v5 = 0 then (f_X6_count_J16 h (a0) (a1) (a0) ((1 : Int32))) else (f_X6_count_J16 h (a0) (a1) (a0) ((0 : Int32))))) else none
def f_X6_refusal_J45 (hh : PH)  (k0 : Int32) : Option (Int32 × PH) :=
  some (k0, hh)
def f_X6_refusal_J28 (h : PH) (x0 : Nat) (x1 : Int32) (x2 : Int32) (x3 : Int32) (k0 : Nat) (k1 : Int32) : Option (Int32 × PH) :=
  ((f_X6_holds h (k0) (k1)).bind fun q3 => (if q3.1 = 0 then (f_X6_refusal_J45 q3.2 ((0 : Int32))) else ((f_X6_why q3.2 (x0) (x1) (x2) (x3)).bind fun v4 => (f_X6_refusal_J45 q3.2 (v4)))))
def f_X6_refusal (h : PH) (a0 : Nat) (a1 : Int32) (a2 : Int32) (a3 : Int32) : Option (Int32 × PH) :=
  if okO h a0 5 = true then ((f_X6_areThere h (a0) (a1) (a2)).bind fun v5 => (if ¬ v5 = 0 then ((f_X6_isPhase h (a0) (a2) (a3)).bind fun v6 => (if ¬ v6 = 0 then (f_X6_refusal_J28 h (a0) (a1) (a2) (a3) (a0) ((0 : Int32))) else (f_X6_refusal_J28 h (a0) (a1) (a2) (a3) (a0) ((2 : Int32))))) else (f_X6_refusal_J28 h (a0) (a1) (a2) (a3) (a0) ((1 : Int32))))) else none
def f_X6_meet_J55 (h : PH) (x5 : Int32)  : Option Int32 :=
  some (x5)
def f_X6_meet_J64 (h : PH)   : Option Int32 :=
  some (((-1) : Int32))
def f_X6_meet_J58 (h : PH) (x0 : Nat) (x1 : Int32) (x2 : Int32) (x3 : Int32) (x4 : Int32) (x5 : Int32)  : Option ((Int32) ⊕ (((Unit) ⊕ (Int32)))) :=
  some (.inl ((x5 + 1)))
def f_X6_meet_L14 (h : PH) (x0 : Nat) (x1 : Int32) (x2 : Int32) (x3 : Int32) (x4 : Int32) : Int32 → Option ((Int32) ⊕ (((Unit) ⊕ (Int32)))) := fun z14 =>
  (if (800 : Int32) ≤ z14 then some (.inr (.inl ())) else ((rdR h x0 5 1).bind fun v2 => ((ldI h v2 ((0 : Int32) + x1)).bind fun v3 => (if ¬ v3 = 0 then (if ¬ ((z14 - x2) - (z14 - x2) / v3 * v3) = 0 then (f_X6_meet_J58 h (x0) (x1) (x2) (x3) (x4) (z14)) else ((rdR h x0 5 1).bind fun v5 => ((ldI h v5 ((0 : Int32) + x3)).bind fun v6 => (if ¬ v6 = 0 then (if ¬ ((z14 - x4) - (z14 - x4) / v6 * v6) = 0 then (f_X6_meet_J58 h (x0) (x1) (x2) (x3) (x4) (z14)) else some (.inr (.inr ((z14))))) else none)))) else none))))
def f_X6_meet_J12 (h : PH) (x0 : Nat) (x1 : Int32) (x2 : Int32) (x3 : Int32) (x4 : Int32) (k0 : Int32) : Option Int32 :=
  ((lpn (f_X6_meet_L14 (h) (x0) (x1) (x2) (x3) (x4)) LF (k0)).bind (fun w14 => match w14 with | .inl w14 => (f_X6_meet_J64 h ) | .inr w14 => (f_X6_meet_J55 h (w14))))
def f_X6_meet (h : PH) (a0 : Nat) (a1 : Int32) (a2 : Int32) (a3 : Int32) (a4 : Int32) : Option Int32 :=
  if okO h a0 5 = true then (if a2 ≤ a4 then (f_X6_meet_J12 h (a0) (a1) (a2) (a3) (a4) (a4)) else (f_X6_meet_J12 h (a0) (a1) (a2) (a3) (a4) (a2))) else none
def f_X6_canMeet_J55 (h : PH)  (k0 : Nat) (k1 : Int32) : Option (Int32 × PH) :=
  ((f_X6_holds h (k0) (k1)).bind fun q3 => (if z01 q3.1 = true then some (q3.1, q3.2) else none))
def f_X6_canMeet_J50 (h : PH)  (k0 : Nat) : Option (Int32 × PH) :=
  (f_X6_canMeet_J55 h (k0) ((2 : Int32)))
def f_X6_canMeet_J19 (h : PH) (x0 : Nat) (x1 : Int32) (x2 : Int32) (x3 : Int32) (x4 : Int32) (k0 : Int32) : Option (Int32 × PH) :=
  (if ¬ k0 = 0 then ((f_X6_isPhase h (x0) (x1) (x2)).bind fun v5 => (if v5 = 0 then (f_X6_canMeet_J50 h (x0)) else ((f_X6_isPhase h (x0) (x3) (x4)).bind fun v6 => (if ¬ v6 = 0 then (f_X6_canMeet_J55 h (x0) ((0 : Int32))) else (f_X6_canMeet_J50 h (x0)))))) else (f_X6_canMeet_J55 h (x0) ((1 : Int32))))
def f_X6_canMeet_J18 (h : PH) (x0 : Nat) (x1 : Int32) (x2 : Int32) (x3 : Int32) (x4 : Int32)  : Option (Int32 × PH) :=
  (f_X6_canMeet_J19 h (x0) (x1) (x2) (x3) (x4) ((0 : Int32)))
def f_X6_canMeet (h : PH) (a0 : Nat) (a1 : Int32) (a2 : Int32) (a3 : Int32) (a4 : Int32) : Option (Int32 × PH) :=
  if okO h a0 5 = true then ((f_X6_isHue h (a1)).bind fun v7 => (if v7 = 0 then (f_X6_canMeet_J18 h (a0) (a1) (a2) (a3) (a4)) else ((f_X6_isHue h (a3)).bind fun v8 => (if v8 = 0 then (f_X6_canMeet_J18 h (a0) (a1) (a2) (a3) (a4)) else (f_X6_canMeet_J19 h (a0) (a1) (a2) (a3) (a4) ((1 : Int32))))))) else none
def f_X6_meeting_J25 (hh : PH)  (k0 : Int32) : Option (Int32 × PH) :=
  some (k0, hh)
def f_X6_meeting (h : PH) (a0 : Nat) (a1 : Int32) (a2 : Int32) (a3 : Int32) (a4 : Int32) : Option (Int32 × PH) :=
  if okO h a0 5 = true then ((f_X6_canMeet h (a0) (a1) (a2) (a3) (a4)).bind fun q3 => (if q3.1 = 0 then (f_X6_meeting_J25 q3.2 ((0 : Int32))) else ((f_X6_meet q3.2 (a0) (a1) (a2) (a3) (a4)).bind fun v4 => (f_X6_meeting_J25 q3.2 (v4))))) else none
def f_X6_walked_J25 (hh : PH)  (k0 : Int32) : Option (Int32 × PH) :=
  some (k0, hh)
def f_X6_walked (h : PH) (a0 : Nat) (a1 : Int32) (a2 : Int32) (a3 : Int32) (a4 : Int32) : Option (Int32 × PH) :=
  if okO h a0 5 = true then ((f_X6_canMeet h (a0) (a1) (a2) (a3) (a4)).bind fun q3 => (if q3.1 = 0 then (f_X6_walked_J25 q3.2 ((0 : Int32))) else ((f_X6_meet q3.2 (a0) (a1) (a2) (a3) (a4)).bind fun v4 => (f_X6_walked_J25 q3.2 (v4))))) else none
def f_X6_wouldTake (h : PH) (a0 : Nat) (a1 : Int32) (a2 : Int32) (a3 : Int32) : Option Int32 :=
  if okO h a0 5 = true then ((rdR h a0 5 1).bind fun v1 => ((f_X6_of h (a1) ((0 : Int32))).bind fun v2 => ((ldI h v1 v2).bind fun v3 => ((rdR h a0 5 1).bind fun v4 => ((ldI h v4 ((0 : Int32) + a2)).bind fun v5 => ((rdR h a0 5 1).bind fun v6 => ((ldI h v6 ((0 : Int32) + a2)).bind fun v7 => (if ¬ v7 = 0 then some (((((v3 - a3) + v5) - (1 : Int32)) / v7)) else none)))))))) else none
def f_X6_toldOfPhases_J139 (h : PH)  (k0 : Int32) : Option Int32 :=
  some (k0)
def f_X6_toldOfPhases_J118 (h : PH) (x3 : Int32) (x4 : Int32) (x5 : Int32) (x6 : Int32)  : Option Int32 :=
  (if ¬ x3 = 0 then (if ¬ x3 = (1 : Int32) then (f_X6_toldOfPhases_J139 h (x6)) else (f_X6_toldOfPhases_J139 h (x5))) else (f_X6_toldOfPhases_J139 h (x4)))
def f_X6_toldOfPhases_J110 (h : PH) (x0 : Nat) (x1 : Int32) (x2 : Int32) (x3 : Int32) (x4 : Int32) (x5 : Int32) (x7 : Int32) (k0 : Int32) : Option ((Int32 × Int32 × Int32 × Int32) ⊕ (Int32 × Int32 × Int32)) :=
  some (.inl (x4, x5, k0, (x7 + (-1))))
def f_X6_toldOfPhases_J103 (h : PH) (x0 : Nat) (x1 : Int32) (x2 : Int32) (x3 : Int32) (x4 : Int32) (x5 : Int32) (x7 : Int32)  : Option ((Int32 × Int32 × Int32 × Int32) ⊕ (Int32 × Int32 × Int32)) :=
  (f_X6_toldOfPhases_J110 h (x0) (x1) (x2) (x3) (x4) (x5) (x7) (x7))
def f_X6_toldOfPhases_J108 (h : PH) (x0 : Nat) (x1 : Int32) (x2 : Int32) (x3 : Int32) (x4 : Int32) (x5 : Int32) (x6 : Int32) (x7 : Int32)  : Option ((Int32 × Int32 × Int32 × Int32) ⊕ (Int32 × Int32 × Int32)) :=
  (f_X6_toldOfPhases_J110 h (x0) (x1) (x2) (x3) (x4) (x5) (x7) (x6))
def f_X6_toldOfPhases_J71 (h : PH) (x0 : Nat) (x1 : Int32) (x2 : Int32) (x3 : Int32) (x4 : Int32) (x6 : Int32) (x7 : Int32) (x8 : Int32) (k0 : Int32) : Option ((Int32 × Int32 × Int32 × Int32) ⊕ (Int32 × Int32 × Int32)) :=
  (if x8 = 0 then (f_X6_toldOfPhases_J108 h (x0) (x1) (x2) (x3) (x4) (k0) (x6) (x7)) else (if x6 = ((-1) : Int32) then (f_X6_toldOfPhases_J103 h (x0) (x1) (x2) (x3) (x4) (k0) (x7)) else ((f_X6_wouldTake h (x0) (x1) (x2) (x7)).bind fun v4 => ((f_X6_wouldTake h (x0) (x1) (x2) (x6)).bind fun v5 => (if v4 < v5 then (f_X6_toldOfPhases_J108 h (x0) (x1) (x2) (x3) (x4) (k0) (x6) (x7)) else (f_X6_toldOfPhases_J103 h (x0) (x1) (x2) (x3) (x4) (k0) (x7)))))))
def f_X6_toldOfPhases_J56 (h : PH) (x0 : Nat) (x1 : Int32) (x2 : Int32) (x3 : Int32) (x5 : Int32) (x6 : Int32) (x7 : Int32) (x8 : Int32) (k0 : Int32) (k1 : Int32) : Option ((Int32 × Int32 × Int32 × Int32) ⊕ (Int32 × Int32 × Int32)) :=
  (if x8 = 0 then (f_X6_toldOfPhases_J71 h (x0) (x1) (x2) (x3) ((k0 + k1)) (x6) (x7) (x8) (x5)) else (f_X6_toldOfPhases_J71 h (x0) (x1) (x2) (x3) ((k0 + k1)) (x6) (x7) (x8) (x7)))
def f_X6_toldOfPhases_J42 (h : PH) (x0 : Nat) (x1 : Int32) (x2 : Int32) (x3 : Int32) (x4 : Int32) (x5 : Int32) (x6 : Int32) (x7 : Int32) (k0 : Int32) : Option ((Int32 × Int32 × Int32 × Int32) ⊕ (Int32 × Int32 × Int32)) :=
  (if k0 = 0 then (f_X6_toldOfPhases_J56 h (x0) (x1) (x2) (x3) (x5) (x6) (x7) (k0) (x4) ((0 : Int32))) else (f_X6_toldOfPhases_J56 h (x0) (x1) (x2) (x3) (x5) (x6) (x7) (k0) (x4) ((1 : Int32))))
def f_X6_toldOfPhases_L21 (h : PH) (x0 : Nat) (x1 : Int32) (x2 : Int32) (x3 : Int32) : Int32 × Int32 × Int32 × Int32 → Option ((Int32 × Int32 × Int32 × Int32) ⊕ (Int32 × Int32 × Int32)) := fun z21 =>
  (if (z21.2.2.2) < 0 then some (.inr (((z21.1), (z21.2.1), (z21.2.2.1)))) else ((f_X6_why h (x0) (x1) (x2) ((z21.2.2.2))).bind fun v6 => (if ¬ v6 = 0 then (f_X6_toldOfPhases_J42 h (x0) (x1) (x2) (x3) ((z21.1)) ((z21.2.1)) ((z21.2.2.1)) ((z21.2.2.2)) ((0 : Int32))) else (f_X6_toldOfPhases_J42 h (x0) (x1) (x2) (x3) ((z21.1)) ((z21.2.1)) ((z21.2.2.1)) ((z21.2.2.2)) ((1 : Int32))))))
def f_X6_toldOfPhases (h : PH) (a0 : Nat) (a1 : Int32) (a2 : Int32) (a3 : Int32) : Option Int32 :=
  if okO h a0 5 = true then ((rdR h a0 5 1).bind fun v1 => ((ldI h v1 ((0 : Int32) + a2)).bind fun v2 => ((lpn (f_X6_toldOfPhases_L21 (h) (a0) (a1) (a2) (a3)) LF ((0 : Int32), ((-1) : Int32), ((-1) : Int32), (v2 - (1 : Int32)))).bind (fun w21 => (f_X6_toldOfPhases_J118 h (a3) (w21.1) (w21.2.1) (w21.2.2)))))) else none
def f_X6_phases_J45 (hh : PH)  (k0 : Int32) : Option (Int32 × PH) :=
  some (k0, hh)
def f_X6_phases_J28 (h : PH) (x0 : Nat) (x1 : Int32) (x2 : Int32) (x3 : Int32) (k0 : Nat) (k1 : Int32) : Option (Int32 × PH) :=
  ((f_X6_holds h (k0) (k1)).bind fun q3 => (if q3.1 = 0 then (f_X6_phases_J45 q3.2 ((0 : Int32))) else ((f_X6_toldOfPhases q3.2 (x0) (x1) (x2) (x3)).bind fun v4 => (f_X6_phases_J45 q3.2 (v4)))))
def f_X6_phases (h : PH) (a0 : Nat) (a1 : Int32) (a2 : Int32) (a3 : Int32) : Option (Int32 × PH) :=
  if okO h a0 5 = true then ((f_X6_areThere h (a0) (a1) (a2)).bind fun v5 => (if ¬ v5 = 0 then ((f_X6_in h (a3) ((0 : Int32)) ((2 : Int32))).bind fun v6 => (if ¬ v6 = 0 then (f_X6_phases_J28 h (a0) (a1) (a2) (a3) (a0) ((0 : Int32))) else (f_X6_phases_J28 h (a0) (a1) (a2) (a3) (a0) ((2 : Int32))))) else (f_X6_phases_J28 h (a0) (a1) (a2) (a3) (a0) ((1 : Int32))))) else none
def f_X6_best_J77 (h : PH) (x2 : Int32)  : Option Int32 :=
  some (x2)
def f_X6_best_J70 (h : PH) (x0 : Nat) (x1 : Int32) (x2 : Int32) (x4 : Int32) (k0 : Int32) : Option ((Int32 × Int32 × Int32) ⊕ (Int32)) :=
  some (.inl (x2, k0, (x4 + 1)))
def f_X6_best_J57 (h : PH) (x0 : Nat) (x1 : Int32) (x3 : Int32) (x4 : Int32) (x6 : Int32) (k0 : Int32) : Option ((Int32 × Int32 × Int32) ⊕ (Int32)) :=
  (if x6 ≤ x3 then (f_X6_best_J70 h (x0) (x1) (k0) (x4) (x3)) else (f_X6_best_J70 h (x0) (x1) (k0) (x4) (x6)))
def f_X6_best_J43 (h : PH) (x0 : Nat) (x1 : Int32) (x2 : Int32) (x3 : Int32) (x4 : Int32) (k0 : Int32) : Option ((Int32 × Int32 × Int32) ⊕ (Int32)) :=
  (if k0 ≤ x3 then (f_X6_best_J57 h (x0) (x1) (x3) (x4) (k0) (x2)) else (f_X6_best_J57 h (x0) (x1) (x3) (x4) (k0) (x4)))
def f_X6_best_L7 (h : PH) (x0 : Nat) (x1 : Int32) : Int32 × Int32 × Int32 → Option ((Int32 × Int32 × Int32) ⊕ (Int32)) := fun z7 =>
  (if (8 : Int32) ≤ (z7.2.2) then some (.inr (((z7.1)))) else ((f_X6_toldOfPhases h (x0) (x1) ((z7.2.2)) ((2 : Int32))).bind fun v2 => (if ¬ v2 = ((-1) : Int32) then ((f_X6_wouldTake h (x0) (x1) ((z7.2.2)) (v2)).bind fun v3 => (f_X6_best_J43 h (x0) (x1) ((z7.1)) ((z7.2.1)) ((z7.2.2)) (v3))) else (f_X6_best_J43 h (x0) (x1) ((z7.1)) ((z7.2.1)) ((z7.2.2)) ((0 : Int32))))))
def f_X6_best (h : PH) (a0 : Nat) (a1 : Int32) : Option Int32 :=
  if okO h a0 5 = true then ((lpn (f_X6_best_L7 (h) (a0) (a1)) LF (((-1) : Int32), (0 : Int32), (0 : Int32))).bind (fun w7 => (f_X6_best_J77 h (w7)))) else none
def f_X6_bestHue_J29 (hh : PH)  (k0 : Int32) : Option (Int32 × PH) :=
  some (k0, hh)
def f_X6_bestHue_J14 (h : PH) (x0 : Nat) (x1 : Int32) (k0 : Nat) (k1 : Int32) : Option (Int32 × PH) :=
  ((f_X6_holds h (k0) (k1)).bind fun q3 => (if q3.1 = 0 then (f_X6_bestHue_J29 q3.2 ((0 : Int32))) else ((f_X6_best q3.2 (x0) (x1)).bind fun v4 => (f_X6_bestHue_J29 q3.2 (v4)))))
def f_X6_bestHue (h : PH) (a0 : Nat) (a1 : Int32) : Option (Int32 × PH) :=
  if okO h a0 5 = true then ((f_X6_isRope h (a0) (a1)).bind fun v5 => (if v5 = 0 then (f_X6_bestHue_J14 h (a0) (a1) (a0) ((1 : Int32))) else (f_X6_bestHue_J14 h (a0) (a1) (a0) ((0 : Int32))))) else none
def f_X6_joining_J38 (hh : PH)  (k0 : Int32) : Option (Int32 × PH) :=
  some (k0, hh)
def f_X6_joining_J22 (h : PH) (x0 : Nat) (x1 : Int32) (x2 : Int32) (k0 : Nat) (k1 : Int32) : Option (Int32 × PH) :=
  ((f_X6_holds h (k0) (k1)).bind fun q3 => (if q3.1 = 0 then (f_X6_joining_J38 q3.2 ((0 : Int32))) else ((f_X6_whyNotJoined q3.2 (x0) (x1) (x2)).bind fun q6 => (f_X6_joining_J38 q6.2 (q6.1)))))
def f_X6_joining_J21 (h : PH) (x0 : Nat) (x1 : Int32) (x2 : Int32) (k0 : Nat) : Option (Int32 × PH) :=
  (f_X6_joining_J22 h (x0) (x1) (x2) (k0) ((1 : Int32)))
def f_X6_joining (h : PH) (a0 : Nat) (a1 : Int32) (a2 : Int32) : Option (Int32 × PH) :=
  if okO h a0 5 = true then ((f_X6_isRope h (a0) (a1)).bind fun v7 => (if v7 = 0 then (f_X6_joining_J21 h (a0) (a1) (a2) (a0)) else ((f_X6_isRope h (a0) (a2)).bind fun v8 => (if v8 = 0 then (f_X6_joining_J21 h (a0) (a1) (a2) (a0)) else (f_X6_joining_J22 h (a0) (a1) (a2) (a0) ((0 : Int32))))))) else none
def f_X6_greatest_J29 (hh : PH)  (k0 : Int32) : Option (Int32 × PH) :=
  some (k0, hh)
def f_X6_greatest_J14 (h : PH) (x0 : Nat) (x1 : Int32) (k0 : Nat) (k1 : Int32) : Option (Int32 × PH) :=
  ((f_X6_holds h (k0) (k1)).bind fun q3 => (if q3.1 = 0 then (f_X6_greatest_J29 q3.2 ((0 : Int32))) else ((f_X6_clash q3.2 (x0) (x1)).bind fun v4 => (f_X6_greatest_J29 q3.2 (v4)))))
def f_X6_greatest (h : PH) (a0 : Nat) (a1 : Int32) : Option (Int32 × PH) :=
  if okO h a0 5 = true then ((f_X6_isRope h (a0) (a1)).bind fun v5 => (if v5 = 0 then (f_X6_greatest_J14 h (a0) (a1) (a0) ((1 : Int32))) else (f_X6_greatest_J14 h (a0) (a1) (a0) ((0 : Int32))))) else none
def f_X6_share_J33 (h : PH)  (k0 : UInt64) : Option UInt64 :=
  some (k0)
def f_X6_share (h : PH) (a0 : Nat) : Option UInt64 :=
  if okO h a0 5 = true then ((rdR h a0 5 1).bind fun v1 => ((ldI h v1 (8 : Int32)).bind fun v2 => (if ¬ v2 = 0 then ((f_X6_sum h (a0) ((0 : Int32))).bind fun v3 => ((f_X6_sum h (a0) ((1 : Int32))).bind fun v4 => ((f_X6_sum h (a0) ((0 : Int32))).bind fun v5 => (if nn64 (FP.ddiv (FP.i2d (v3 - v4)) (FP.i2d v5)) = true then (f_X6_share_J33 h ((FP.ddiv (FP.i2d (v3 - v4)) (FP.i2d v5)))) else none)))) else (f_X6_share_J33 h (FP.dconst1))))) else none
def f_X6_fullness (h : PH) (a0 : Nat) : Option (UInt64 × PH) :=
  if okO h a0 5 = true then ((wrF h a0 5 0 (.int ((0 : Int32)))).bind fun h1 => ((f_X6_share h1 (a0)).bind fun v2 => some (v2, h1))) else none
def f_X6_bitsOf_J37 (h : PH) (x2 : Int64) (x4 : UInt64)  : Option Int64 :=
  (if nn64 (FP.dsub x4 FP.dconst1) = true then (if nn64 (FP.dmul (FP.dsub x4 FP.dconst1) (4841369599423283200 : UInt64)) = true then some (((x2 * (4503599627370496 : Int64)) + (FP.d2l (FP.dmul (FP.dsub x4 FP.dconst1) (4841369599423283200 : UInt64))))) else none) else none)
def f_X6_bitsOf_L15 (h : PH)  : Int64 × UInt64 → Option ((Int64 × UInt64) ⊕ (Int64 × UInt64)) := fun z15 =>
  (if 0 ≤ (Op.cmpValue (FP.dcmp (z15.2) FP.dconst1) .g) then some (.inr (((z15.1), (z15.2)))) else (if nn64 (FP.dmul (z15.2) (4611686018427387904 : UInt64)) = true then some (.inl (((z15.1) - (1 : Int64)), (FP.dmul (z15.2) (4611686018427387904 : UInt64)))) else none))
def f_X6_bitsOf (h : PH) (a0 : UInt64) : Option Int64 :=
  (if ¬ (Op.cmpValue (FP.dcmp a0 FP.dconst0) .l) = 0 then ((lpn (f_X6_bitsOf_L15 (h)) LF ((1023 : Int64), a0)).bind (fun w15 => (f_X6_bitsOf_J37 h (w15.1) (w15.2)))) else some ((0 : Int64)))
def f_X6_digestOne (h : PH) (a0 : Nat) (a1 : Int64) : Option PH :=
  if okO h a0 5 = true then ((rdJ h a0 5 15).bind fun v1 => ((wrF h a0 5 15 (.long ((((31 : Int64) * v1) + a1)))).bind fun h2 => some h2)) else none
def f_X6_digestRope_J122 (hh : PH) (x0 : Nat) (x1 : Int32)  : Option PH :=
  ((f_X6_best hh (x0) (x1)).bind fun v1 => ((f_X6_digestOne hh (x0) ((v1).toInt64)).bind fun h2 => ((f_X6_clash h2 (x0) (x1)).bind fun v3 => ((f_X6_digestOne h2 (x0) ((v3).toInt64)).bind fun h4 => ((f_X6_whyNotJoined h4 (x0) (x1) ((0 : Int32))).bind fun q7 => ((f_X6_digestOne q7.2 (x0) ((q7.1).toInt64)).bind fun h8 => some h8))))))
def f_X6_digestRope_J116 (hh : PH) (x0 : Nat) (x1 : Int32) (x2 : Int32)  : Option ((Int32 × PH) ⊕ (PH)) :=
  some (.inl ((x2 + 1), hh))
def f_X6_digestRope_L93 (x0 : Nat) (x1 : Int32) (x2 : Int32) : Int32 × PH → Option ((Int32 × PH) ⊕ (PH)) := fun z93 =>
  (if (3 : Int32) ≤ (z93.1) then some (.inr (((z93.2)))) else ((f_X6_toldOfPhases (z93.2) (x0) (x1) (x2) ((z93.1))).bind fun v11 => ((f_X6_digestOne (z93.2) (x0) ((v11).toInt64)).bind fun h12 => some (.inl (((z93.1) + 1), h12)))))
def f_X6_digestRope_J91 (hh : PH) (x0 : Nat) (x1 : Int32) (x2 : Int32)  : Option ((Int32 × PH) ⊕ (PH)) :=
  ((lpn (f_X6_digestRope_L93 (x0) (x1) (x2)) LF ((0 : Int32), hh)).bind (fun w93 => (f_X6_digestRope_J116 w93 (x0) (x1) (x2))))
def f_X6_digestRope_L68 (x0 : Nat) (x1 : Int32) (x2 : Int32) : Int32 × PH → Option ((Int32 × PH) ⊕ (PH)) := fun z68 =>
  (if (4 : Int32) ≤ (z68.1) then some (.inr (((z68.2)))) else ((f_X6_toldOfHue (z68.2) (x0) (x1) (x2) ((z68.1))).bind fun v14 => ((f_X6_digestOne (z68.2) (x0) ((v14).toInt64)).bind fun h15 => some (.inl (((z68.1) + 1), h15)))))
def f_X6_digestRope_L60 (x0 : Nat) (x1 : Int32) : Int32 × PH → Option ((Int32 × PH) ⊕ (PH)) := fun z60 =>
  (if (8 : Int32) ≤ (z60.1) then some (.inr (((z60.2)))) else ((lpn (f_X6_digestRope_L68 (x0) (x1) ((z60.1))) LF ((0 : Int32), (z60.2))).bind (fun w68 => (f_X6_digestRope_J91 w68 (x0) (x1) ((z60.1))))))
def f_X6_digestRope_J58 (hh : PH) (x0 : Nat) (x1 : Int32)  : Option PH :=
  ((lpn (f_X6_digestRope_L60 (x0) (x1)) LF ((0 : Int32), hh)).bind (fun w60 => (f_X6_digestRope_J122 w60 (x0) (x1))))
def f_X6_digestRope_L27 (x0 : Nat) (x1 : Int32) : Int32 × PH → Option ((Int32 × PH) ⊕ (PH)) := fun z27 =>
  ((rdR (z27.2) x0 5 1).bind fun v17 => ((f_X6_of (z27.2) (x1) ((0 : Int32))).bind fun v18 => ((ldI (z27.2) v17 v18).bind fun v19 => (if v19 ≤ (z27.1) then some (.inr (((z27.2)))) else ((f_X6_hueAt (z27.2) (x0) (x1) ((z27.1))).bind fun v20 => ((f_X6_digestOne (z27.2) (x0) ((v20).toInt64)).bind fun h21 => some (.inl (((z27.1) + 1), h21))))))))
def f_X6_digestRope_J25 (hh : PH) (x0 : Nat) (x1 : Int32)  : Option PH :=
  ((lpn (f_X6_digestRope_L27 (x0) (x1)) LF ((0 : Int32), hh)).bind (fun w27 => (f_X6_digestRope_J58 w27 (x0) (x1))))
def f_X6_digestRope_L2 (x0 : Nat) (x1 : Int32) : Int32 × PH → Option ((Int32 × PH) ⊕ (PH)) := fun z2 =>
  (if (6 : Int32) ≤ (z2.1) then some (.inr (((z2.2)))) else ((f_X6_toldOfRope (z2.2) (x0) (x1) ((z2.1))).bind fun v23 => ((f_X6_digestOne (z2.2) (x0) ((v23).toInt64)).bind fun h24 => some (.inl (((z2.1) + 1), h24)))))
def f_X6_digestRope (h : PH) (a0 : Nat) (a1 : Int32) : Option PH :=
  if okO h a0 5 = true then ((lpn (f_X6_digestRope_L2 (a0) (a1)) LF ((0 : Int32), h)).bind (fun w2 => (f_X6_digestRope_J25 w2 (a0) (a1)))) else none
def f_X6_digest_J161 (hh : PH) (x0 : Nat)  : Option (Int64 × PH) :=
  ((rdJ hh x0 5 15).bind fun v1 => some (v1, hh))
def f_X6_digest_L136 (x0 : Nat) : Int32 × PH → Option ((Int32 × PH) ⊕ (PH)) := fun z136 =>
  ((rdI (z136.2) x0 5 8).bind fun v8 => (if v8 ≤ (z136.1) then some (.inr (((z136.2)))) else ((rdR (z136.2) x0 5 7).bind fun v9 => ((ldI (z136.2) v9 (z136.1)).bind fun v10 => ((f_X6_digestOne (z136.2) (x0) ((v10).toInt64)).bind fun h11 => some (.inl (((z136.1) + 1), h11)))))))
def f_X6_digest_J114 (hh : PH) (x0 : Nat)  : Option (Int64 × PH) :=
  ((f_X6_share hh (x0)).bind fun v2 => ((f_X6_bitsOf hh (v2)).bind fun v3 => ((f_X6_digestOne hh (x0) (v3)).bind fun h4 => ((rdI h4 x0 5 8).bind fun v5 => ((f_X6_digestOne h4 (x0) ((v5).toInt64)).bind fun h6 => ((lpn (f_X6_digest_L136 (x0)) LF ((0 : Int32), h6)).bind (fun w136 => (f_X6_digest_J161 w136 (x0)))))))))
def f_X6_digest_L89 (x0 : Nat) : Int32 × PH → Option ((Int32 × PH) ⊕ (PH)) := fun z89 =>
  (if (8 : Int32) ≤ (z89.1) then some (.inr (((z89.2)))) else ((f_X6_meet (z89.2) (x0) ((0 : Int32)) ((1 : Int32)) ((z89.1)) ((0 : Int32))).bind fun v13 => ((f_X6_digestOne (z89.2) (x0) ((v13).toInt64)).bind fun h14 => some (.inl (((z89.1) + 1), h14)))))
def f_X6_digest_J87 (hh : PH) (x0 : Nat)  : Option (Int64 × PH) :=
  ((lpn (f_X6_digest_L89 (x0)) LF ((0 : Int32), hh)).bind (fun w89 => (f_X6_digest_J114 w89 (x0))))
def f_X6_digest_L65 (x0 : Nat) : Int32 × PH → Option ((Int32 × PH) ⊕ (PH)) := fun z65 =>
  ((rdR (z65.2) x0 5 1).bind fun v16 => ((ldI (z65.2) v16 (8 : Int32)).bind fun v17 => (if v17 ≤ (z65.1) then some (.inr (((z65.2)))) else ((f_X6_digestRope (z65.2) (x0) ((z65.1))).bind fun h18 => some (.inl (((z65.1) + 1), h18))))))
def f_X6_digest_J63 (hh : PH) (x0 : Nat)  : Option (Int64 × PH) :=
  ((lpn (f_X6_digest_L65 (x0)) LF ((0 : Int32), hh)).bind (fun w65 => (f_X6_digest_J87 w65 (x0))))
def f_X6_digest_L38 (x0 : Nat) : Int32 × PH → Option ((Int32 × PH) ⊕ (PH)) := fun z38 =>
  (if (8 : Int32) ≤ (z38.1) then some (.inr (((z38.2)))) else ((rdR (z38.2) x0 5 1).bind fun v20 => ((ldI (z38.2) v20 ((0 : Int32) + (z38.1))).bind fun v21 => ((f_X6_digestOne (z38.2) (x0) ((v21).toInt64)).bind fun h22 => some (.inl (((z38.1) + 1), h22))))))
def f_X6_digest_J36 (hh : PH) (x0 : Nat)  : Option (Int64 × PH) :=
  ((lpn (f_X6_digest_L38 (x0)) LF ((0 : Int32), hh)).bind (fun w38 => (f_X6_digest_J63 w38 (x0))))
def f_X6_digest_L14 (x0 : Nat) : Int32 × PH → Option ((Int32 × PH) ⊕ (PH)) := fun z14 =>
  (if (8 : Int32) ≤ (z14.1) then some (.inr (((z14.2)))) else ((f_X6_counted (z14.2) (x0) ((z14.1))).bind fun v26 => ((f_X6_digestOne (z14.2) (x0) ((v26).toInt64)).bind fun h27 => some (.inl (((z14.1) + 1), h27)))))
def f_X6_digest (h : PH) (a0 : Nat) : Option (Int64 × PH) :=
  if okO h a0 5 = true then ((wrF h a0 5 0 (.int ((0 : Int32)))).bind fun h23 => ((wrF h23 a0 5 15 (.long ((3643 : Int64)))).bind fun h24 => ((lpn (f_X6_digest_L14 (a0)) LF ((0 : Int32), h24)).bind (fun w14 => (f_X6_digest_J36 w14 (a0)))))) else none
end
section
/-! PURE READING, 1: loops in closed form, reads and writes, the class's Rope -/
theorem lpn_run {σ ρ : Type} {b : σ → Option (σ ⊕ ρ)} (f : Nat → σ) (z : ρ) : ∀ (n i k : Nat), (∀ j, i ≤ j → j < i + n → b (f j) = some (.inl (f (j + 1)))) → b (f (i + n)) = some (.inr z) → n < k → lpn b k (f i) = some z := by
  intro n
  induction n with
  | zero =>
    intro i k hs he hk
    obtain ⟨q, rfl⟩ : ∃ q, k = q + 1 := ⟨k - 1, by omega⟩
    show (b (f i)).bind _ = _
    rw [Nat.add_zero] at he
    rw [he]
    rfl
  | succ n ih =>
    intro i k hs he hk
    obtain ⟨q, rfl⟩ : ∃ q, k = q + 1 := ⟨k - 1, by omega⟩
    show (b (f i)).bind _ = _
    rw [hs i (Nat.le_refl _) (by omega)]
    show lpn b q (f (i + 1)) = some z
    exact ih (i + 1) q (fun j h1 h2 => hs j (by omega) (by omega)) (by rw [show i + 1 + n = i + (n + 1) by omega]; exact he) (by omega)
/-- the first place from a on, among n, where P holds -/
def fst9 (P : Nat → Bool) : Nat → Nat → Option Nat
  | _, 0 => none
  | a, n + 1 => if P a = true then some a else fst9 P (a + 1) n
def lst9 (P : Nat → Bool) : Nat → Option Nat
  | 0 => none
  | n + 1 => if P n = true then some n else lst9 P n
def cnt9 (P : Nat → Bool) : Nat → Nat
  | 0 => 0
  | n + 1 => cnt9 P n + (if P n = true then 1 else 0)
theorem lpn_find {σ ρ : Type} {b : σ → Option (σ ⊕ ρ)} (f : Nat → σ) (P : Nat → Bool) (zf : Nat → ρ) (z0 : ρ) : ∀ (n i k : Nat), (∀ j, i ≤ j → j < i + n → b (f j) = some (if P j = true then .inr (zf j) else .inl (f (j + 1)))) → b (f (i + n)) = some (.inr z0) → n < k →
    lpn b k (f i) = some (match fst9 P i n with | some j => zf j | none => z0) := by
  intro n
  induction n with
  | zero =>
    intro i k hs he hk
    obtain ⟨q, rfl⟩ : ∃ q, k = q + 1 := ⟨k - 1, by omega⟩
    show (b (f i)).bind _ = _
    rw [Nat.add_zero] at he
    rw [he]
    rfl
  | succ n ih =>
    intro i k hs he hk
    obtain ⟨q, rfl⟩ : ∃ q, k = q + 1 := ⟨k - 1, by omega⟩
    show (b (f i)).bind _ = _
    rw [hs i (Nat.le_refl _) (by omega)]
    by_cases hP : P i = true
    · rw [if_pos hP]
      simp only [fst9, hP, if_true]
      rfl
    · rw [if_neg hP]
      simp only [fst9, hP, if_false]
      show lpn b q (f (i + 1)) = _
      exact ih (i + 1) q (fun j h1 h2 => hs j (by omega) (by omega)) (by rw [show i + 1 + n = i + (n + 1) by omega]; exact he) (by omega)
theorem fst9_some {P : Nat → Bool} : ∀ {n a j : Nat}, fst9 P a n = some j → a ≤ j ∧ j < a + n ∧ P j = true ∧ ∀ i, a ≤ i → i < j → P i = false := by
  intro n
  induction n with
  | zero => intro a j h; cases h
  | succ n ih =>
    intro a j h
    by_cases hP : P a = true
    · simp only [fst9, hP, if_true] at h
      cases h
      exact ⟨Nat.le_refl _, by omega, hP, fun i h1 h2 => by omega⟩
    · simp only [fst9, hP, if_false] at h
      obtain ⟨h1, h2, h3, h4⟩ := ih h
      refine ⟨by omega, by omega, h3, fun i h5 h6 => ?_⟩
      rcases Nat.lt_or_ge a i with h7 | h7
      · exact h4 i h7 h6
      · rw [show i = a by omega]
        exact Bool.eq_false_iff.mpr hP
theorem fst9_none {P : Nat → Bool} : ∀ {n a : Nat}, fst9 P a n = none → ∀ i, a ≤ i → i < a + n → P i = false := by
  intro n
  induction n with
  | zero => intro a h i h1 h2; omega
  | succ n ih =>
    intro a h i h1 h2
    by_cases hP : P a = true
    · simp only [fst9, hP, if_true] at h
      cases h
    · simp only [fst9, hP, if_false] at h
      rcases Nat.lt_or_ge a i with h7 | h7
      · exact ih h i h7 (by omega)
      · rw [show i = a by omega]
        exact Bool.eq_false_iff.mpr hP
theorem fst9_of {P : Nat → Bool} : ∀ {n a j : Nat}, a ≤ j → j < a + n → P j = true → (∀ i, a ≤ i → i < j → P i = false) → fst9 P a n = some j := by
  intro n a j h1 h2 h3 h4
  cases h : fst9 P a n with
  | none => rw [fst9_none h j h1 h2] at h3; cases h3
  | some k =>
    obtain ⟨k1, k2, k3, k4⟩ := fst9_some h
    rcases Nat.lt_trichotomy k j with h5 | h5 | h5
    · rw [h4 k k1 h5] at k3; cases k3
    · rw [h5]
    · rw [k4 j h1 h5] at h3; cases h3
theorem fst9_of_none {P : Nat → Bool} {n a : Nat} (h : ∀ i, a ≤ i → i < a + n → P i = false) : fst9 P a n = none := by
  cases h9 : fst9 P a n with
  | none => rfl
  | some k =>
    obtain ⟨k1, k2, k3, k4⟩ := fst9_some h9
    rw [h k k1 k2] at k3; cases k3
theorem lst9_some {P : Nat → Bool} : ∀ {n j : Nat}, lst9 P n = some j → j < n ∧ P j = true ∧ ∀ i, j < i → i < n → P i = false := by
  intro n
  induction n with
  | zero => intro j h; cases h
  | succ n ih =>
    intro j h
    by_cases hP : P n = true
    · simp only [lst9, hP, if_true] at h
      cases h
      exact ⟨by omega, hP, fun i h1 h2 => by omega⟩
    · simp only [lst9, hP, if_false] at h
      obtain ⟨h1, h2, h3⟩ := ih h
      refine ⟨by omega, h2, fun i h5 h6 => ?_⟩
      rcases Nat.lt_or_ge i n with h7 | h7
      · exact h3 i h5 h7
      · rw [show i = n by omega]
        exact Bool.eq_false_iff.mpr hP
theorem lst9_none {P : Nat → Bool} : ∀ {n : Nat}, lst9 P n = none → ∀ i, i < n → P i = false := by
  intro n
  induction n with
  | zero => intro h i h1; omega
  | succ n ih =>
    intro h i h1
    by_cases hP : P n = true
    · simp only [lst9, hP, if_true] at h
      cases h
    · simp only [lst9, hP, if_false] at h
      rcases Nat.lt_or_ge i n with h7 | h7
      · exact ih h i h7
      · rw [show i = n by omega]
        exact Bool.eq_false_iff.mpr hP
theorem cnt9_congr {P Q : Nat → Bool} : ∀ {n : Nat}, (∀ i, i < n → P i = Q i) → cnt9 P n = cnt9 Q n := by
  intro n
  induction n with
  | zero => intro _; rfl
  | succ n ih => intro h; simp only [cnt9]; rw [ih (fun i hi => h i (by omega)), h n (by omega)]
theorem cnt9_le {P : Nat → Bool} : ∀ {n : Nat}, cnt9 P n ≤ n := by
  intro n
  induction n with
  | zero => exact Nat.le_refl _
  | succ n ih => simp only [cnt9]; split <;> omega
theorem lst9_congr {P Q : Nat → Bool} : ∀ {n : Nat}, (∀ i, i < n → P i = Q i) → lst9 P n = lst9 Q n := by
  intro n
  induction n with
  | zero => intro _; rfl
  | succ n ih => intro h; simp only [lst9]; rw [ih (fun i hi => h i (by omega)), h n (by omega)]
theorem fst9_congr {P Q : Nat → Bool} : ∀ {n a : Nat}, (∀ i, a ≤ i → i < a + n → P i = Q i) → fst9 P a n = fst9 Q a n := by
  intro n
  induction n with
  | zero => intro a _; rfl
  | succ n ih => intro a h; simp only [fst9]; rw [ih (fun i h1 h2 => h i (by omega) (by omega)), h a (by omega) (by omega)]
/-- an answer: a place or a hue, or NONE -/
def oI (x : Option Nat) : Int32 := match x with
  | some n => nI n
  | none => -1
theorem nI_ne_m1 {n : Nat} (h : n < 2 ^ 31) : ¬ nI n = -1 := fun q => nI_pos h (by rw [q]; decide)
theorem oI_m1 {x : Option Nat} (h : ∀ n, x = some n → n < 2 ^ 31) : oI x = -1 ↔ x = none := by
  cases x with
  | none => exact ⟨fun _ => rfl, fun _ => rfl⟩
  | some n => exact ⟨fun q => absurd q (nI_ne_m1 (h n rfl)), fun q => by cases q⟩
-- reads and writes
theorem okO_of {h : PH} {a ci : Nat} {fs : List Value} (h1 : h a = some (.inr (.inr (ci, fs)))) : okO h a ci = true := by simp [okO, h1]
theorem rdI_of {h : PH} {a ci k : Nat} {fs : List Value} {v : Int32} (h1 : h a = some (.inr (.inr (ci, fs)))) (h2 : fs[k]? = some (.int v)) : rdI h a ci k = some v := by simp [rdI, h1, h2]
theorem rdJ_of {h : PH} {a ci k : Nat} {fs : List Value} {v : Int64} (h1 : h a = some (.inr (.inr (ci, fs)))) (h2 : fs[k]? = some (.long v)) : rdJ h a ci k = some v := by simp [rdJ, h1, h2]
theorem rdR_of {h : PH} {a ci k : Nat} {fs : List Value} {v : Nat} (h1 : h a = some (.inr (.inr (ci, fs)))) (h2 : fs[k]? = some (.ref v)) : rdR h a ci k = some v := by simp [rdR, h1, h2]
theorem wrF_of {h : PH} {a ci k : Nat} {fs : List Value} (v : Value) (h1 : h a = some (.inr (.inr (ci, fs)))) (h2 : k < fs.length) : wrF h a ci k v = some (pu h a (.inr (.inr (ci, fs.set k v)))) := by simp [wrF, h1, h2]
theorem ldI_of {h : PH} {a i n : Nat} {f : Nat → Int32} (h1 : h a = some (.inl (n, f))) (hi : i < n) (hn : n < 2 ^ 31) : ldI h a (nI i) = some (f i) := by
  have c1 := nI_in hi hn
  have c2 : (nI i).toNatClampNeg = i := nI_clamp (by omega)
  unfold ldI
  rw [h1]
  dsimp only
  rw [if_neg c1, c2]
theorem stI_of {h : PH} {a i n : Nat} {f : Nat → Int32} (x : Int32) (h1 : h a = some (.inl (n, f))) (hi : i < n) (hn : n < 2 ^ 31) : stI h a (nI i) x = some (pu h a (.inl (n, upd f i x))) := by
  have c1 := nI_in hi hn
  have c2 : (nI i).toNatClampNeg = i := nI_clamp (by omega)
  unfold stI
  rw [h1]
  dsimp only
  rw [if_neg c1, c2]
theorem ldQ_of {h : PH} {a i n k : Nat} {f : Nat → Option Nat} (h1 : h a = some (.inr (.inl (k, n, f)))) (hi : i < n) (hn : n < 2 ^ 31) : ldQ h a (nI i) = some (f i) := by
  have c1 := nI_in hi hn
  have c2 : (nI i).toNatClampNeg = i := nI_clamp (by omega)
  unfold ldQ
  rw [h1]
  dsimp only
  rw [if_neg c1, c2]
theorem stQ_of {h : PH} {a i n k v : Nat} {f : Nat → Option Nat} (h1 : h a = some (.inr (.inl (k, n, f)))) (hi : i < n) (hn : n < 2 ^ 31) (hv : (k = 0 ∧ okO h v 1 = true) ∨ (k = 1 ∧ okO h v 2 = true)) : stQ h a (nI i) v = some (pu h a (.inr (.inl (k, n, va_up f i (some v))))) := by
  have c1 := nI_in hi hn
  have c2 : (nI i).toNatClampNeg = i := nI_clamp (by omega)
  unfold stQ
  rw [h1]
  dsimp only
  rw [if_neg c1, c2, if_pos hv]
theorem lnA_I {h : PH} {a n : Nat} {f : Nat → Int32} (h1 : h a = some (.inl (n, f))) : lnA h a = some (nI n) := by simp [lnA, h1, nI]
theorem lnA_Q {h : PH} {a k n : Nat} {f : Nat → Option Nat} (h1 : h a = some (.inr (.inl (k, n, f)))) : lnA h a = some (nI n) := by simp [lnA, h1, nI]
theorem pu_s {h : PH} {a : Nat} {e : PC} : pu h a e a = some e := if_pos rfl
theorem pu_n {h : PH} {a b : Nat} {e : PC} (hn : b ≠ a) : pu h a e b = h b := if_neg hn
/-- the cells of a Rope: its length, how many hues, the hue of each place, the order -/
def cR (h : PH) (r len cnt : Nat) (cf off : Nat → Int32) : Prop := h r = some (.inr (.inr (1, [.ref (r + 1), .ref (r + 2), .int (nI len), .int (nI cnt)]))) ∧ h (r + 1) = some (.inl (60, cf)) ∧ h (r + 2) = some (.inl (8, off))
section RopeReads
variable {h : PH} {r len cnt : Nat} {cf off : Nat → Int32}
theorem cR.ok (H : cR h r len cnt cf off) : okO h r 1 = true := okO_of H.1
theorem cR.r0 (H : cR h r len cnt cf off) : rdR h r 1 0 = some (r + 1) := rdR_of H.1 rfl
theorem cR.r1 (H : cR h r len cnt cf off) : rdR h r 1 1 = some (r + 2) := rdR_of H.1 rfl
theorem cR.r2 (H : cR h r len cnt cf off) : rdI h r 1 2 = some (nI len) := rdI_of H.1 rfl
theorem cR.r3 (H : cR h r len cnt cf off) : rdI h r 1 3 = some (nI cnt) := rdI_of H.1 rfl
theorem cR.n0 (H : cR h r len cnt cf off) : lnA h (r + 1) = some (nI 60) := lnA_I H.2.1
theorem cR.n1 (H : cR h r len cnt cf off) : lnA h (r + 2) = some (nI 8) := lnA_I H.2.2
theorem X2_length (H : cR h r len cnt cf off) : f_X2_length h r = some (nI len) := by
  simp only [f_X2_length, H.ok, H.r2, if_true, Option.bind_some]
theorem X2_hueCount (H : cR h r len cnt cf off) : f_X2_hueCount h r = some (nI cnt) := by
  simp only [f_X2_hueCount, H.ok, H.r3, if_true, Option.bind_some]
theorem X2_colourAt (H : cR h r len cnt cf off) (hl : len ≤ 60) {p : Nat} (hp : p < len) : f_X2_colourAt h r (nI p) = some (cf p) := by
  have c1 : ¬ nI p < 0 := nI_pos (by omega)
  have c2 : ¬ nI len ≤ nI p := nI_ge hp (by omega)
  have c3 : ¬ nI 60 ≤ nI p := nI_ge (by omega) (by omega)
  simp only [f_X2_colourAt, f_X2_colourAt_J31, H.ok, H.r0, H.r2, H.n0, if_true, Option.bind_some, if_neg c1, if_neg c2, if_neg c3, ldI_of H.2.1 (show p < 60 by omega) (by omega)]
theorem X2_hueAt (H : cR h r len cnt cf off) (hl : cnt ≤ 8) {k : Nat} (hp : k < cnt) : f_X2_hueAt h r (nI k) = some (off k) := by
  have c1 : ¬ nI k < 0 := nI_pos (by omega)
  have c2 : ¬ nI cnt ≤ nI k := nI_ge hp (by omega)
  have c3 : ¬ nI 8 ≤ nI k := nI_ge (by omega) (by omega)
  simp only [f_X2_hueAt, f_X2_hueAt_J31, H.ok, H.r1, H.r3, H.n1, if_true, Option.bind_some, if_neg c1, if_neg c2, if_neg c3, ldI_of H.2.2 (show k < 8 by omega) (by omega)]
theorem X2_orderOf (H : cR h r len cnt cf off) (hl : cnt ≤ 8) (u : Int32) : f_X2_orderOf h r u = some (oI (fst9 (fun k => decide (off k = u)) 0 cnt)) := by
  have hb : ∀ j, 0 ≤ j → j < 0 + cnt → f_X2_orderOf_L2 h r u (nI j) = some (if (fun k => decide (off k = u)) j = true then .inr (.inr (nI j)) else .inl (nI (j + 1))) := by
    intro j _ hj
    have c2 : ¬ nI cnt ≤ nI j := nI_ge (by omega) (by omega)
    have c3 : ¬ nI 8 ≤ nI j := nI_ge (by omega) (by omega)
    simp only [f_X2_orderOf_L2, H.r1, H.r3, H.n1, Option.bind_some, if_neg c2, if_neg c3, ldI_of H.2.2 (show j < 8 by omega) (by omega)]
    by_cases hu : off j = u
    · simp [hu]
    · simp [hu, nI_1]
  have he : f_X2_orderOf_L2 h r u (nI (0 + cnt)) = some (.inr (.inl ())) := by
    rw [Nat.zero_add]
    have c2 : nI cnt ≤ nI cnt := nI_le (Nat.le_refl _) (by omega)
    simp only [f_X2_orderOf_L2, H.r3, Option.bind_some, if_pos c2]
  have hw := lpn_find (fun j => nI j) (fun k => decide (off k = u)) (fun j => (.inr (nI j) : Unit ⊕ Int32)) (.inl ()) cnt 0 LF hb he (by unfold LF; omega)
  have hw0 : lpn (f_X2_orderOf_L2 h r u) LF 0 = _ := hw
  simp only [f_X2_orderOf, H.ok, if_true, hw0, Option.bind_some]
  cases fst9 (fun k => decide (off k = u)) 0 cnt with
  | none => rfl
  | some j => rfl
theorem X2_firstFrom (H : cR h r len cnt cf off) (hl : len ≤ 60) (u : Int32) {a : Nat} (ha : a ≤ len) : f_X2_firstFrom h r u (nI a) = some (oI (fst9 (fun p => decide (cf p = u)) a (len - a))) := by
  have hb : ∀ j, a ≤ j → j < a + (len - a) → f_X2_firstFrom_L2 h r u (nI j) = some (if (fun p => decide (cf p = u)) j = true then .inr (.inr (nI j)) else .inl (nI (j + 1))) := by
    intro j h1 hj
    have c2 : ¬ nI len ≤ nI j := nI_ge (by omega) (by omega)
    simp only [f_X2_firstFrom_L2, H.r2, Option.bind_some, if_neg c2, X2_colourAt H hl (show j < len by omega)]
    by_cases hu : cf j = u
    · simp [hu]
    · simp [hu, nI_1]
  have he : f_X2_firstFrom_L2 h r u (nI (a + (len - a))) = some (.inr (.inl ())) := by
    have c2 : nI len ≤ nI (a + (len - a)) := nI_le (by omega) (by omega)
    simp only [f_X2_firstFrom_L2, H.r2, Option.bind_some, if_pos c2]
  have hw := lpn_find (fun j => nI j) (fun p => decide (cf p = u)) (fun j => (.inr (nI j) : Unit ⊕ Int32)) (.inl ()) (len - a) a LF hb he (by unfold LF; omega)
  simp only [f_X2_firstFrom, H.ok, if_true, hw, Option.bind_some]
  cases fst9 (fun p => decide (cf p = u)) a (len - a) with
  | none => rfl
  | some j => rfl
theorem X2_lastOf (H : cR h r len cnt cf off) (hl : len ≤ 60) (u : Int32) : f_X2_lastOf h r u = some (oI (lst9 (fun p => decide (cf p = u)) len)) := by
  have key : ∀ n, n ≤ len → ∀ k, n < k → lpn (f_X2_lastOf_L7 h r u) k (nI n - 1) = some (match lst9 (fun p => decide (cf p = u)) n with | some j => (.inr (nI j) : Unit ⊕ Int32) | none => .inl ()) := by
    intro n
    induction n with
    | zero =>
      intro _ k hk
      obtain ⟨q, rfl⟩ : ∃ q, k = q + 1 := ⟨k - 1, by omega⟩
      show (f_X2_lastOf_L7 h r u (nI 0 - 1)).bind _ = _
      have c1 : nI 0 - 1 < 0 := by decide
      simp only [f_X2_lastOf_L7, if_pos c1]
      rfl
    | succ n ih =>
      intro hn k hk
      obtain ⟨q, rfl⟩ : ∃ q, k = q + 1 := ⟨k - 1, by omega⟩
      show (f_X2_lastOf_L7 h r u (nI (n + 1) - 1)).bind _ = _
      rw [nI_pred]
      have c1 : ¬ nI n < 0 := nI_pos (by omega)
      simp only [f_X2_lastOf_L7, if_neg c1, X2_colourAt H hl (show n < len by omega), Option.bind_some]
      by_cases hu : cf n = u
      · simp [hu, lst9]
      · simp only [hu, not_false_eq_true, if_true, Option.bind_some, lst9, decide_false, Bool.false_eq_true, if_false]
        rw [show nI n + (-1) = nI n - 1 by rw [Int32.sub_eq_add_neg]]
        exact ih (by omega) q (by omega)
  have hw := key len (Nat.le_refl _) LF (by unfold LF; omega)
  simp only [f_X2_lastOf, H.ok, H.r2, if_true, Option.bind_some, hw]
  cases lst9 (fun p => decide (cf p = u)) len with
  | none => rfl
  | some j => rfl
theorem X2_placesOf (H : cR h r len cnt cf off) (hl : len ≤ 60) (u : Int32) : f_X2_placesOf h r u = some (nI (cnt9 (fun p => decide (cf p = u)) len)) := by
  have hb : ∀ j, 0 ≤ j → j < 0 + len → f_X2_placesOf_L4 h r u ((fun j => (nI (cnt9 (fun p => decide (cf p = u)) j), nI j)) j) = some (.inl ((fun j => (nI (cnt9 (fun p => decide (cf p = u)) j), nI j)) (j + 1))) := by
    intro j _ hj
    have c2 : ¬ nI len ≤ nI j := nI_ge (by omega) (by omega)
    simp only [f_X2_placesOf_L4, f_X2_placesOf_J24, H.r2, Option.bind_some, if_neg c2, X2_colourAt H hl (show j < len by omega), cnt9]
    by_cases hu : cf j = u
    · simp [hu, nI_1]
    · simp [hu, nI_1]
  have he : f_X2_placesOf_L4 h r u ((fun j => (nI (cnt9 (fun p => decide (cf p = u)) j), nI j)) (0 + len)) = some (.inr (nI (cnt9 (fun p => decide (cf p = u)) len))) := by
    have c2 : nI len ≤ nI len := nI_le (Nat.le_refl _) (by omega)
    simp only [Nat.zero_add, f_X2_placesOf_L4, H.r2, Option.bind_some, if_pos c2]
  have hw := lpn_run (fun j => (nI (cnt9 (fun p => decide (cf p = u)) j), nI j)) _ len 0 LF hb he (by unfold LF; omega)
  have hw0 : lpn (f_X2_placesOf_L4 h r u) LF (0, 0) = _ := hw
  simp only [f_X2_placesOf, f_X2_placesOf_J30, H.ok, if_true, hw0, Option.bind_some]
end RopeReads
-- sums of steps: places phase, phase + gap, ..
/-- how many places from p on, by steps of s, are below n -/
def stp9 (n p s : Nat) : Nat := (n - p + s - 1) / s
theorem stp9_lt {n p s i : Nat} (hs : 0 < s) : i < stp9 n p s ↔ p + i * s < n := by
  unfold stp9
  rw [Nat.lt_div_iff_mul_lt hs]
  constructor
  · intro h; omega
  · intro h
    have : i * s < n - p := by omega
    omega
section RopeReads2
variable {h : PH} {r len cnt : Nat} {cf off : Nat → Int32}
theorem max1 {g : Nat} (h1 : 1 ≤ g) (h2 : g ≤ 100) : (if (1 : Int32) < nI g then nI g else (1 : Int32)) = nI g := by
  by_cases hg : g = 1
  · subst hg; decide
  · have : (1 : Int32) < nI g := by
      have := nI_lt (show 1 < g by omega) (by omega)
      exact this
    rw [if_pos this]
theorem nI_step {p g : Nat} (j : Nat) : nI (p + j * g) + nI g = nI (p + (j + 1) * g) := by
  rw [nI_add]
  congr 1
  rw [Nat.add_mul]
  omega
theorem X2_placesFrom (H : cR h r len cnt cf off) (hl : len ≤ 60) {p g : Nat} (hp : p ≤ 100) (hg1 : 1 ≤ g) (hg : g ≤ 100) : f_X2_placesFrom h r (nI p) (nI g) = some (nI (stp9 len p g)) := by
  have hlt : ∀ i, i < stp9 len p g ↔ p + i * g < len := fun i => stp9_lt (by omega)
  have hsm : stp9 len p g ≤ 60 := by
    rcases Nat.lt_or_ge 60 (stp9 len p g) with q | q
    · have h1 := (hlt 60).mp q
      have h2 : 60 * 1 ≤ 60 * g := Nat.mul_le_mul_left 60 hg1
      omega
    · exact q
  have hb : ∀ j, 0 ≤ j → j < 0 + stp9 len p g → f_X2_placesFrom_L12 h r (nI g) ((fun j => (nI j, nI (p + j * g))) j) = some (.inl ((fun j => (nI j, nI (p + j * g))) (j + 1))) := by
    intro j _ hj
    have h1 := (hlt j).mp (by omega)
    have c2 : ¬ nI len ≤ nI (p + j * g) := nI_ge h1 (by omega)
    simp only [f_X2_placesFrom_L12, H.r2, Option.bind_some, if_neg c2, nI_1, nI_step]
  have he : f_X2_placesFrom_L12 h r (nI g) ((fun j => (nI j, nI (p + j * g))) (0 + stp9 len p g)) = some (.inr (nI (stp9 len p g))) := by
    rw [Nat.zero_add]
    have h1 : ¬ p + stp9 len p g * g < len := fun q => Nat.lt_irrefl _ ((hlt _).mpr q)
    have h2 : stp9 len p g * g ≤ 60 * 100 := Nat.mul_le_mul hsm hg
    have c2 : nI len ≤ nI (p + stp9 len p g * g) := nI_le (by omega) (by omega)
    simp only [f_X2_placesFrom_L12, H.r2, Option.bind_some, if_pos c2]
  have hw := lpn_run (fun j => (nI j, nI (p + j * g))) _ (stp9 len p g) 0 LF hb he (by unfold LF; omega)
  have hw0 : lpn (f_X2_placesFrom_L12 h r (nI g)) LF (0, nI p) = some (nI (stp9 len p g)) := by
    rw [← hw]
    simp only [Nat.zero_mul, Nat.add_zero, nI_0]
  simp only [f_X2_placesFrom, f_X2_placesFrom_J34, H.ok, if_true, max1 hg1 hg, hw0, Option.bind_some]
/-- why a hue can't be laid: by the cells -/
def whyC (len cnt : Nat) (cf off : Nat → Int32) (u : Int32) (p g : Nat) : Nat := if (fst9 (fun k => decide (off k = u)) 0 cnt).isSome = true then 1 else if len ≤ p then 2 else if (fst9 (fun i => decide (¬ cf (p + i * g) = -1)) 0 (stp9 len p g)).isSome = true then 3 else 0
theorem X2_reasonAgainst (H : cR h r len cnt cf off) (hl : len ≤ 60) (hc : cnt ≤ 8) (u : Int32) {p g : Nat} (hp : p ≤ 100) (hg1 : 1 ≤ g) (hg : g ≤ 100) : f_X2_reasonAgainst h r u (nI p) (nI g) = some (nI (whyC len cnt cf off u p g)) := by
  have hlt : ∀ i, i < stp9 len p g ↔ p + i * g < len := fun i => stp9_lt (by omega)
  have hsm : stp9 len p g ≤ 60 := by
    rcases Nat.lt_or_ge 60 (stp9 len p g) with q | q
    · have h1 := (hlt 60).mp q
      have h2 : 60 * 1 ≤ 60 * g := Nat.mul_le_mul_left 60 hg1
      omega
    · exact q
  have hb : ∀ j, 0 ≤ j → j < 0 + stp9 len p g → f_X2_reasonAgainst_L31 h r (nI g) ((fun j => nI (p + j * g)) j) = some (if (fun i => decide (¬ cf (p + i * g) = -1)) j = true then .inr ((fun _ => (.inr () : Unit ⊕ Unit)) j) else .inl ((fun j => nI (p + j * g)) (j + 1))) := by
    intro j _ hj
    have h1 := (hlt j).mp (by omega)
    have c2 : ¬ nI len ≤ nI (p + j * g) := nI_ge h1 (by omega)
    simp only [f_X2_reasonAgainst_L31, H.r2, Option.bind_some, if_neg c2, X2_colourAt H hl h1]
    by_cases hu : cf (p + j * g) = -1
    · simp [hu, nI_step]
    · simp [hu]
  have he : f_X2_reasonAgainst_L31 h r (nI g) ((fun j => nI (p + j * g)) (0 + stp9 len p g)) = some (.inr (.inl ())) := by
    rw [Nat.zero_add]
    have h1 : ¬ p + stp9 len p g * g < len := fun q => Nat.lt_irrefl _ ((hlt _).mpr q)
    have h2 : stp9 len p g * g ≤ 60 * 100 := Nat.mul_le_mul hsm hg
    have c2 : nI len ≤ nI (p + stp9 len p g * g) := nI_le (by omega) (by omega)
    simp only [f_X2_reasonAgainst_L31, H.r2, Option.bind_some, if_pos c2]
  have hw := lpn_find (fun j => nI (p + j * g)) (fun i => decide (¬ cf (p + i * g) = -1)) (fun _ => (.inr () : Unit ⊕ Unit)) (.inl ()) (stp9 len p g) 0 LF hb he (by unfold LF; omega)
  have hw0 := hw
  simp only [Nat.zero_mul, Nat.add_zero] at hw0
  simp only [f_X2_reasonAgainst, H.ok, if_true, X2_orderOf H hc, Option.bind_some, whyC]
  cases h1 : fst9 (fun k => decide (off k = u)) 0 cnt with
  | some k =>
    have hk := (fst9_some h1).2.1
    have c1 : ¬ oI (some k) = -1 := nI_ne_m1 (by omega)
    simp only [if_neg c1, Option.isSome_some, if_true]
    rfl
  | none =>
    simp only [oI, if_true, H.r2, Option.bind_some, Option.isSome_none, Bool.false_eq_true, if_false]
    by_cases h2 : p < len
    · have c2 : nI p < nI len := nI_lt h2 (by omega)
      have c3 : ¬ len ≤ p := by omega
      simp only [if_pos c2, if_neg c3, max1 hg1 hg, hw0, Option.bind_some]
      cases fst9 (fun i => decide (¬ cf (p + i * g) = -1)) 0 (stp9 len p g) with
      | none => rfl
      | some j => rfl
    · have c2 : ¬ nI p < nI len := nI_nlt (by omega) (by omega)
      have c3 : len ≤ p := by omega
      simp only [if_neg c2, if_pos c3]
      rfl
theorem X2_differences {r2 cnt2 : Nat} {cf2 off2 : Nat → Int32} (H : cR h r len cnt cf off) (H2 : cR h r2 len cnt2 cf2 off2) (hl : len ≤ 60) : f_X2_differences h r r2 = some (nI (cnt9 (fun p => decide (¬ cf p = cf2 p)) len)) := by
  have hb : ∀ j, 0 ≤ j → j < 0 + len → f_X2_differences_L4 h r r2 ((fun j => (nI (cnt9 (fun p => decide (¬ cf p = cf2 p)) j), nI j)) j) = some (.inl ((fun j => (nI (cnt9 (fun p => decide (¬ cf p = cf2 p)) j), nI j)) (j + 1))) := by
    intro j _ hj
    have c2 : ¬ nI len ≤ nI j := nI_ge (by omega) (by omega)
    simp only [f_X2_differences_L4, f_X2_differences_J28, H.r2, Option.bind_some, if_neg c2, X2_colourAt H hl (show j < len by omega), X2_colourAt H2 hl (show j < len by omega), cnt9]
    by_cases hu : cf j = cf2 j
    · simp [hu, nI_1]
    · simp [hu, nI_1]
  have he : f_X2_differences_L4 h r r2 ((fun j => (nI (cnt9 (fun p => decide (¬ cf p = cf2 p)) j), nI j)) (0 + len)) = some (.inr (nI (cnt9 (fun p => decide (¬ cf p = cf2 p)) len))) := by
    have c2 : nI len ≤ nI len := nI_le (Nat.le_refl _) (by omega)
    simp only [Nat.zero_add, f_X2_differences_L4, H.r2, Option.bind_some, if_pos c2]
  have hw := lpn_run (fun j => (nI (cnt9 (fun p => decide (¬ cf p = cf2 p)) j), nI j)) _ len 0 LF hb he (by unfold LF; omega)
  have hw0 : lpn (f_X2_differences_L4 h r r2) LF (0, 0) = _ := hw
  simp only [f_X2_differences, f_X2_differences_J34, H.ok, if_true, hw0, Option.bind_some]
/-- the run of holes that ends at n, the longest run below n -/
def hol9 (P : Nat → Bool) : Nat → Nat
  | 0 => 0
  | n + 1 => if P n = true then hol9 P n + 1 else 0
def mho9 (P : Nat → Bool) : Nat → Nat
  | 0 => 0
  | n + 1 => max (mho9 P n) (hol9 P (n + 1))
theorem hol9_le {P : Nat → Bool} : ∀ n, hol9 P n ≤ n := by
  intro n
  induction n with
  | zero => exact Nat.le_refl _
  | succ n ih => simp only [hol9]; split <;> omega
theorem mho9_le {P : Nat → Bool} : ∀ n, mho9 P n ≤ n := by
  intro n
  induction n with
  | zero => exact Nat.le_refl _
  | succ n ih => have := hol9_le (P := P) (n + 1); simp only [mho9]; omega
theorem nI_max {a b : Nat} (ha : a < 2 ^ 31) (hb : b < 2 ^ 31) : (if nI a < nI b then nI b else nI a) = nI (max a b) := by
  by_cases h : a < b
  · rw [if_pos (nI_lt h hb), Nat.max_eq_right (by omega)]
  · rw [if_neg (nI_nlt (by omega) ha), Nat.max_eq_left (by omega)]
theorem X2_mostHoles (H : cR h r len cnt cf off) (hl : len ≤ 60) : f_X2_mostHolesSideBySide h r = some (nI (mho9 (fun p => decide (cf p = -1)) len)) := by
  have hb : ∀ j, 0 ≤ j → j < 0 + len → f_X2_mostHolesSideBySide_L6 h r ((fun j => (nI (mho9 (fun p => decide (cf p = -1)) j), nI (hol9 (fun p => decide (cf p = -1)) j), nI j)) j) = some (.inl ((fun j => (nI (mho9 (fun p => decide (cf p = -1)) j), nI (hol9 (fun p => decide (cf p = -1)) j), nI j)) (j + 1))) := by
    intro j _ hj
    have c2 : ¬ nI len ≤ nI j := nI_ge (by omega) (by omega)
    have h1 := mho9_le (P := fun p => decide (cf p = -1)) j
    have h2 := hol9_le (P := fun p => decide (cf p = -1)) j
    simp only [f_X2_mostHolesSideBySide_L6, f_X2_mostHolesSideBySide_J30, H.r2, Option.bind_some, if_neg c2, X2_colourAt H hl (show j < len by omega), mho9, hol9]
    by_cases hu : cf j = -1
    · simp only [hu, not_true_eq_false, if_false, decide_true, if_true, nI_1]
      rw [nI_max (by omega) (by omega)]
    · simp only [hu, not_false_eq_true, if_true, decide_false, Bool.false_eq_true, if_false, nI_1]
      rw [show (0 : Int32) = nI 0 from nI_0.symm, nI_max (by omega) (by omega)]
  have he : f_X2_mostHolesSideBySide_L6 h r ((fun j => (nI (mho9 (fun p => decide (cf p = -1)) j), nI (hol9 (fun p => decide (cf p = -1)) j), nI j)) (0 + len)) = some (.inr (nI (mho9 (fun p => decide (cf p = -1)) len))) := by
    have c2 : nI len ≤ nI len := nI_le (Nat.le_refl _) (by omega)
    simp only [Nat.zero_add, f_X2_mostHolesSideBySide_L6, H.r2, Option.bind_some, if_pos c2]
  have hw := lpn_run (fun j => (nI (mho9 (fun p => decide (cf p = -1)) j), nI (hol9 (fun p => decide (cf p = -1)) j), nI j)) _ len 0 LF hb he (by unfold LF; omega)
  have hw0 : lpn (f_X2_mostHolesSideBySide_L6 h r) LF (0, 0, 0) = _ := hw
  simp only [f_X2_mostHolesSideBySide, f_X2_mostHolesSideBySide_J43, H.ok, if_true, hw0, Option.bind_some]
end RopeReads2
end
section
/-! PURE READING, 2: the class's Rope, phases; writes -/
def fil9 (P : Nat → Bool) (w : Nat → Nat) : Nat → Option Nat × Nat
  | 0 => (none, 0)
  | n + 1 => if w n ≤ (fil9 P w n).2 then fil9 P w n else if P n = true then (some n, w n) else fil9 P w n
section RopeReads3
variable {h : PH} {r len cnt : Nat} {cf off : Nat → Int32}
theorem whyC_le (u : Int32) (p g : Nat) : whyC len cnt cf off u p g ≤ 3 := by
  unfold whyC
  repeat' split
  all_goals omega
theorem X2_fittingPhases (H : cR h r len cnt cf off) (hl : len ≤ 60) (hc : cnt ≤ 8) (u : Int32) {g : Nat} (hg1 : 1 ≤ g) (hg : g ≤ 100) : f_X2_fittingPhases h r u (nI g) = some (nI (cnt9 (fun p => decide (whyC len cnt cf off u p g = 0)) g)) := by
  have hb : ∀ j, 0 ≤ j → j < 0 + g → f_X2_fittingPhases_L5 h r u (nI g) ((fun j => (nI (cnt9 (fun p => decide (whyC len cnt cf off u p g = 0)) j), nI j)) j) = some (.inl ((fun j => (nI (cnt9 (fun p => decide (whyC len cnt cf off u p g = 0)) j), nI j)) (j + 1))) := by
    intro j _ hj
    have c2 : ¬ nI g ≤ nI j := nI_ge (by omega) (by omega)
    have h3 := whyC_le (len := len) (cnt := cnt) (cf := cf) (off := off) u j g
    simp only [f_X2_fittingPhases_L5, f_X2_fittingPhases_J25, if_neg c2, X2_reasonAgainst H hl hc u (show j ≤ 100 by omega) hg1 hg, Option.bind_some, cnt9]
    by_cases hu : whyC len cnt cf off u j g = 0
    · simp [hu, nI_1, nI_0]
    · have c4 : ¬ nI (whyC len cnt cf off u j g) = 0 := nI_ne0 (by omega) (by omega)
      simp [hu, c4, nI_1]
  have he : f_X2_fittingPhases_L5 h r u (nI g) ((fun j => (nI (cnt9 (fun p => decide (whyC len cnt cf off u p g = 0)) j), nI j)) (0 + g)) = some (.inr (nI (cnt9 (fun p => decide (whyC len cnt cf off u p g = 0)) g))) := by
    have c2 : nI g ≤ nI g := nI_le (Nat.le_refl _) (by omega)
    simp only [Nat.zero_add, f_X2_fittingPhases_L5, if_pos c2]
  have hw := lpn_run (fun j => (nI (cnt9 (fun p => decide (whyC len cnt cf off u p g = 0)) j), nI j)) _ g 0 LF hb he (by unfold LF; omega)
  have hw0 : lpn (f_X2_fittingPhases_L5 h r u (nI g)) LF (0, 0) = _ := hw
  simp only [f_X2_fittingPhases, f_X2_fittingPhases_J31, H.ok, if_true, hw0, Option.bind_some]
theorem X2_lowestPhase (H : cR h r len cnt cf off) (hl : len ≤ 60) (hc : cnt ≤ 8) (u : Int32) {g : Nat} (hg1 : 1 ≤ g) (hg : g ≤ 100) : f_X2_lowestPhase h r u (nI g) = some (oI (fst9 (fun p => decide (whyC len cnt cf off u p g = 0)) 0 g)) := by
  have hb : ∀ j, 0 ≤ j → j < 0 + g → f_X2_lowestPhase_L2 h r u (nI g) (nI j) = some (if (fun p => decide (whyC len cnt cf off u p g = 0)) j = true then .inr ((fun j => (.inr (nI j) : Unit ⊕ Int32)) j) else .inl (nI (j + 1))) := by
    intro j _ hj
    have c2 : ¬ nI g ≤ nI j := nI_ge (by omega) (by omega)
    have h3 := whyC_le (len := len) (cnt := cnt) (cf := cf) (off := off) u j g
    simp only [f_X2_lowestPhase_L2, if_neg c2, X2_reasonAgainst H hl hc u (show j ≤ 100 by omega) hg1 hg, Option.bind_some]
    by_cases hu : whyC len cnt cf off u j g = 0
    · simp [hu, nI_0]
    · have c4 : ¬ nI (whyC len cnt cf off u j g) = 0 := nI_ne0 (by omega) (by omega)
      simp [hu, c4, nI_1]
  have he : f_X2_lowestPhase_L2 h r u (nI g) (nI (0 + g)) = some (.inr (.inl ())) := by
    have c2 : nI g ≤ nI g := nI_le (Nat.le_refl _) (by omega)
    simp only [Nat.zero_add, f_X2_lowestPhase_L2, if_pos c2]
  have hw := lpn_find (fun j => nI j) (fun p => decide (whyC len cnt cf off u p g = 0)) (fun j => (.inr (nI j) : Unit ⊕ Int32)) (.inl ()) g 0 LF hb he (by unfold LF; omega)
  have hw0 : lpn (f_X2_lowestPhase_L2 h r u (nI g)) LF 0 = _ := hw
  simp only [f_X2_lowestPhase, H.ok, if_true, hw0, Option.bind_some]
  cases fst9 (fun p => decide (whyC len cnt cf off u p g = 0)) 0 g with
  | none => rfl
  | some j => rfl
theorem stp9_le {n p s : Nat} (hs : 0 < s) : stp9 n p s ≤ n := by
  rcases Nat.lt_or_ge n (stp9 n p s) with q | q
  · have h1 := (stp9_lt hs).mp q
    have h2 : n * 1 ≤ n * s := Nat.mul_le_mul_left n hs
    omega
  · exact q
theorem fil9_le {P : Nat → Bool} {w : Nat → Nat} {m : Nat} (hw : ∀ i, w i ≤ m) : ∀ n, (fil9 P w n).2 ≤ m := by
  intro n
  induction n with
  | zero => exact Nat.zero_le _
  | succ n ih =>
    simp only [fil9]
    split
    · exact ih
    · split
      · exact hw n
      · exact ih
theorem fil9_lt {P : Nat → Bool} {w : Nat → Nat} : ∀ n j, (fil9 P w n).1 = some j → j < n := by
  intro n
  induction n with
  | zero => intro j hj; cases hj
  | succ n ih =>
    intro j hj
    simp only [fil9] at hj
    split at hj
    · have := ih j hj; omega
    · split at hj
      · cases hj; omega
      · have := ih j hj; omega
theorem X2_fillingPhase (H : cR h r len cnt cf off) (hl : len ≤ 60) (hc : cnt ≤ 8) (u : Int32) {g : Nat} (hg1 : 1 ≤ g) (hg : g ≤ 100) : f_X2_fillingPhase h r u (nI g) = some (oI (fil9 (fun p => decide (whyC len cnt cf off u p g = 0)) (fun p => stp9 len p g) g).1) := by
  have hb : ∀ j, 0 ≤ j → j < 0 + g → f_X2_fillingPhase_L8 h r u (nI g) ((fun j => (oI (fil9 (fun p => decide (whyC len cnt cf off u p g = 0)) (fun p => stp9 len p g) j).1, nI (fil9 (fun p => decide (whyC len cnt cf off u p g = 0)) (fun p => stp9 len p g) j).2, nI j)) j) = some (.inl ((fun j => (oI (fil9 (fun p => decide (whyC len cnt cf off u p g = 0)) (fun p => stp9 len p g) j).1, nI (fil9 (fun p => decide (whyC len cnt cf off u p g = 0)) (fun p => stp9 len p g) j).2, nI j)) (j + 1))) := by
    intro j _ hj
    have c2 : ¬ nI g ≤ nI j := nI_ge (by omega) (by omega)
    have h3 := whyC_le (len := len) (cnt := cnt) (cf := cf) (off := off) u j g
    have h4 : stp9 len j g ≤ len := stp9_le (by omega)
    have h5 := fil9_le (P := fun p => decide (whyC len cnt cf off u p g = 0)) (w := fun p => stp9 len p g) (m := len) (fun i => stp9_le (by omega)) j
    simp only [f_X2_fillingPhase_L8, f_X2_fillingPhase_J48, if_neg c2, X2_placesFrom H hl (show j ≤ 100 by omega) hg1 hg, X2_reasonAgainst H hl hc u (show j ≤ 100 by omega) hg1 hg, Option.bind_some, fil9]
    by_cases hw : stp9 len j g ≤ (fil9 (fun p => decide (whyC len cnt cf off u p g = 0)) (fun p => stp9 len p g) j).2
    · have c5 := nI_le hw (by omega)
      simp only [if_pos c5, if_pos hw, nI_1]
    · have c5 := nI_ge (Nat.not_le.mp hw) (by omega)
      simp only [if_neg c5, if_neg hw]
      by_cases hu : whyC len cnt cf off u j g = 0
      · simp [hu, nI_0, nI_1, oI]
      · have c4 : ¬ nI (whyC len cnt cf off u j g) = 0 := nI_ne0 (by omega) (by omega)
        simp [hu, c4, nI_1]
  have he : f_X2_fillingPhase_L8 h r u (nI g) ((fun j => (oI (fil9 (fun p => decide (whyC len cnt cf off u p g = 0)) (fun p => stp9 len p g) j).1, nI (fil9 (fun p => decide (whyC len cnt cf off u p g = 0)) (fun p => stp9 len p g) j).2, nI j)) (0 + g)) = some (.inr (oI (fil9 (fun p => decide (whyC len cnt cf off u p g = 0)) (fun p => stp9 len p g) g).1)) := by
    have c2 : nI g ≤ nI g := nI_le (Nat.le_refl _) (by omega)
    simp only [Nat.zero_add, f_X2_fillingPhase_L8, if_pos c2]
  have hw := lpn_run (fun j => (oI (fil9 (fun p => decide (whyC len cnt cf off u p g = 0)) (fun p => stp9 len p g) j).1, nI (fil9 (fun p => decide (whyC len cnt cf off u p g = 0)) (fun p => stp9 len p g) j).2, nI j)) _ g 0 LF hb he (by unfold LF; omega)
  have hw0 : lpn (f_X2_fillingPhase_L8 h r u (nI g)) LF (-1, 0, 0) = _ := hw
  simp only [f_X2_fillingPhase, f_X2_fillingPhase_J54, H.ok, if_true, hw0, Option.bind_some]
end RopeReads3
-- a Rope's cells written anew
def setR (h : PH) (r len cnt : Nat) (cf off : Nat → Int32) : PH := fun b => if b = r then some (.inr (.inr (1, [.ref (r + 1), .ref (r + 2), .int (nI len), .int (nI cnt)]))) else if b = r + 1 then some (.inl (60, cf)) else if b = r + 2 then some (.inl (8, off)) else h b
section RopeWrites
variable {h : PH} {r len cnt : Nat} {cf off : Nat → Int32}
theorem setR_cR : cR (setR h r len cnt cf off) r len cnt cf off := by
  refine ⟨if_pos rfl, ?_, ?_⟩
  · show (if r + 1 = r then _ else _) = _
    rw [if_neg (by omega), if_pos rfl]
  · show (if r + 2 = r then _ else _) = _
    rw [if_neg (by omega), if_neg (by omega), if_pos rfl]
theorem setR_n {b : Nat} (hb : b < r ∨ r + 3 ≤ b) : setR h r len cnt cf off b = h b := by
  show (if b = r then _ else _) = _
  rw [if_neg (by omega), if_neg (by omega), if_neg (by omega)]
theorem setR_eq (H : cR h r len cnt cf off) : setR h r len cnt cf off = h := by
  funext b
  show (if b = r then _ else _) = _
  by_cases h0 : b = r
  · rw [if_pos h0, h0, H.1]
  · rw [if_neg h0]
    by_cases h1 : b = r + 1
    · rw [if_pos h1, h1, H.2.1]
    · rw [if_neg h1]
      by_cases h2 : b = r + 2
      · rw [if_pos h2, h2, H.2.2]
      · rw [if_neg h2]
theorem setR_setR {l2 c2 : Nat} {cf2 off2 : Nat → Int32} : setR (setR h r len cnt cf off) r l2 c2 cf2 off2 = setR h r l2 c2 cf2 off2 := by
  funext b
  show (if b = r then _ else _) = (if b = r then _ else _)
  by_cases h0 : b = r
  · rw [if_pos h0, if_pos h0]
  · rw [if_neg h0, if_neg h0]
    by_cases h1 : b = r + 1
    · rw [if_pos h1, if_pos h1]
    · rw [if_neg h1, if_neg h1]
      by_cases h2 : b = r + 2
      · rw [if_pos h2, if_pos h2]
      · rw [if_neg h2, if_neg h2]
        exact setR_n (by omega)
theorem pu_R0 (l2 c2 : Nat) : pu (setR h r len cnt cf off) r (.inr (.inr (1, [.ref (r + 1), .ref (r + 2), .int (nI l2), .int (nI c2)]))) = setR h r l2 c2 cf off := by
  funext b
  by_cases h0 : b = r
  · subst h0
    rw [pu_s]
    exact (if_pos rfl).symm
  · rw [pu_n h0]
    show (if b = r then _ else _) = (if b = r then _ else _)
    rw [if_neg h0, if_neg h0]
theorem pu_R1 (cf2 : Nat → Int32) : pu (setR h r len cnt cf off) (r + 1) (.inl (60, cf2)) = setR h r len cnt cf2 off := by
  funext b
  by_cases h0 : b = r + 1
  · subst h0
    rw [pu_s]
    show _ = (if r + 1 = r then _ else _)
    rw [if_neg (by omega), if_pos rfl]
  · rw [pu_n h0]
    show (if b = r then _ else _) = (if b = r then _ else _)
    rw [if_neg h0, if_neg h0]
theorem pu_R2 (off2 : Nat → Int32) : pu (setR h r len cnt cf off) (r + 2) (.inl (8, off2)) = setR h r len cnt cf off2 := by
  funext b
  by_cases h0 : b = r + 2
  · subst h0
    rw [pu_s]
    show _ = (if r + 2 = r then _ else _)
    rw [if_neg (by omega), if_neg (by omega), if_pos rfl]
  · rw [pu_n h0]
    show (if b = r then _ else _) = (if b = r then _ else _)
    rw [if_neg h0, if_neg h0]
theorem wr_R2 (l2 : Nat) : wrF (setR h r len cnt cf off) r 1 2 (.int (nI l2)) = some (setR h r l2 cnt cf off) := by
  rw [wrF_of _ setR_cR.1 (by simp)]
  exact congrArg some (pu_R0 _ _)
theorem wr_R3 (c2 : Nat) : wrF (setR h r len cnt cf off) r 1 3 (.int (nI c2)) = some (setR h r len c2 cf off) := by
  rw [wrF_of _ setR_cR.1 (by simp)]
  exact congrArg some (pu_R0 _ _)
theorem st_R1 {p : Nat} (hp : p < 60) (x : Int32) : stI (setR h r len cnt cf off) (r + 1) (nI p) x = some (setR h r len cnt (upd cf p x) off) := by
  rw [stI_of x setR_cR.2.1 hp (by omega), pu_R1]
theorem st_R2 {k : Nat} (hk : k < 8) (x : Int32) : stI (setR h r len cnt cf off) (r + 2) (nI k) x = some (setR h r len cnt cf (upd off k x)) := by
  rw [stI_of x setR_cR.2.2 hk (by omega), pu_R2]
/-- one entry after another set by a function -/
def fill9 (f g : Nat → Int32) : Nat → Nat → Int32
  | 0 => f
  | n + 1 => upd (fill9 f g n) n (g n)
theorem fill9_at (f g : Nat → Int32) : ∀ n i, fill9 f g n i = if i < n then g i else f i := by
  intro n
  induction n with
  | zero => intro i; rw [if_neg (by omega)]; rfl
  | succ n ih =>
    intro i
    show (if i = n then g n else fill9 f g n i) = _
    by_cases hi : i = n
    · subst hi; rw [if_pos rfl, if_pos (by omega)]
    · rw [if_neg hi, ih i]
      by_cases h2 : i < n
      · rw [if_pos h2, if_pos (by omega)]
      · rw [if_neg h2, if_neg (by omega)]
theorem X2_begin {L : Nat} (hL : L ≤ 60) : f_X2_begin (setR h r len cnt cf off) r (nI L) = some (setR h r L 0 (fill9 cf (fun _ => -1) 60) off) := by
  have H : ∀ {l c : Nat} {f : Nat → Int32}, cR (setR h r l c f off) r l c f off := setR_cR
  have hb : ∀ j, 0 ≤ j → j < 0 + 60 → f_X2_begin_L24 r ((fun j => (nI j, setR h r L 0 (fill9 cf (fun _ => -1) j) off)) j) = some (.inl ((fun j => (nI j, setR h r L 0 (fill9 cf (fun _ => -1) j) off)) (j + 1))) := by
    intro j _ hj
    have c2 : ¬ nI 60 ≤ nI j := nI_ge (by omega) (by omega)
    simp only [f_X2_begin_L24, H.r0, H.n0, Option.bind_some, if_neg c2, st_R1 (show j < 60 by omega), nI_1, fill9]
  have he : f_X2_begin_L24 r ((fun j => (nI j, setR h r L 0 (fill9 cf (fun _ => -1) j) off)) (0 + 60)) = some (.inr (setR h r L 0 (fill9 cf (fun _ => -1) 60) off)) := by
    have c2 : nI 60 ≤ nI 60 := nI_le (Nat.le_refl _) (by omega)
    simp only [Nat.zero_add, f_X2_begin_L24, H.r0, H.n0, Option.bind_some, if_pos c2]
  have hw := lpn_run (fun j => (nI j, setR h r L 0 (fill9 cf (fun _ => -1) j) off)) _ 60 0 LF hb he (by unfold LF; omega)
  have hw0 : lpn (f_X2_begin_L24 r) LF (0, setR h r L 0 cf off) = _ := hw
  have e1 : (if nI 60 < nI L then nI 60 else nI L) = nI L := if_neg (nI_nlt (by omega) (by omega))
  have e2 : (if (0 : Int32) < nI L then nI L else (0 : Int32)) = nI L := by
    by_cases h0 : L = 0
    · subst h0; rfl
    · exact if_pos (nI_lt (a := 0) (by omega) (by omega))
  have e3 : ∀ c, wrF (setR h r len c cf off) r 1 2 (.int (nI L)) = some (setR h r L c cf off) := fun c => wr_R2 L
  have e4 : wrF (setR h r L cnt cf off) r 1 3 (.int 0) = some (setR h r L 0 cf off) := wr_R3 0
  simp only [f_X2_begin, f_X2_begin_J46, H.ok, H.r0, H.n0, if_true, Option.bind_some, e1, e2, e3, e4, hw0]
theorem X2_setColour {p : Nat} (hp : p < 60) (x : Int32) : f_X2_setColour (setR h r len cnt cf off) r (nI p) x = some (setR h r len cnt (upd cf p x) off) := by
  have H : cR (setR h r len cnt cf off) r len cnt cf off := setR_cR
  have c1 : ¬ nI p < 0 := nI_pos (by omega)
  have c2 : ¬ nI 60 ≤ nI p := nI_ge (by omega) (by omega)
  simp only [f_X2_setColour, f_X2_setColour_J20, H.ok, H.r0, H.n0, if_true, Option.bind_some, if_neg c1, if_neg c2, st_R1 hp]
/-- a hue's places written -/
def lay9 (cf : Nat → Int32) (u : Int32) (p g : Nat) : Nat → Nat → Int32
  | 0 => cf
  | n + 1 => upd (lay9 cf u p g n) (p + n * g) u
theorem X2_put {p g : Nat} (u : Int32) (hl : len ≤ 60) (hc : cnt < 8) (hp : p < len) (hg1 : 1 ≤ g) (hg : g ≤ 100) : f_X2_put (setR h r len cnt cf off) r u (nI p) (nI g) = some (nI (stp9 len p g), setR h r len (cnt + 1) (lay9 cf u p g (stp9 len p g)) (upd off cnt u)) := by
  have H : ∀ {l c : Nat} {f o : Nat → Int32}, cR (setR h r l c f o) r l c f o := setR_cR
  have hlt : ∀ i, i < stp9 len p g ↔ p + i * g < len := fun i => stp9_lt (by omega)
  have hsm : stp9 len p g ≤ len := stp9_le (by omega)
  have hb : ∀ j, 0 ≤ j → j < 0 + stp9 len p g → f_X2_put_L66 r u (nI g) ((fun j => (nI j, nI (p + j * g), setR h r len (cnt + 1) (lay9 cf u p g j) (upd off cnt u))) j) = some (.inl ((fun j => (nI j, nI (p + j * g), setR h r len (cnt + 1) (lay9 cf u p g j) (upd off cnt u))) (j + 1))) := by
    intro j _ hj
    have h1 := (hlt j).mp (by omega)
    have c2 : ¬ nI len ≤ nI (p + j * g) := nI_ge h1 (by omega)
    simp only [f_X2_put_L66, H.r2, Option.bind_some, if_neg c2, X2_setColour (show p + j * g < 60 by omega), nI_1, nI_step, lay9]
  have he : f_X2_put_L66 r u (nI g) ((fun j => (nI j, nI (p + j * g), setR h r len (cnt + 1) (lay9 cf u p g j) (upd off cnt u))) (0 + stp9 len p g)) = some (.inr (nI (stp9 len p g), setR h r len (cnt + 1) (lay9 cf u p g (stp9 len p g)) (upd off cnt u))) := by
    rw [Nat.zero_add]
    have h1 : ¬ p + stp9 len p g * g < len := fun q => Nat.lt_irrefl _ ((hlt _).mpr q)
    have h2 : stp9 len p g * g ≤ 60 * 100 := Nat.mul_le_mul (by omega) hg
    have c2 : nI len ≤ nI (p + stp9 len p g * g) := nI_le (by omega) (by omega)
    simp only [f_X2_put_L66, H.r2, Option.bind_some, if_pos c2]
  have hw := lpn_run (fun j => (nI j, nI (p + j * g), setR h r len (cnt + 1) (lay9 cf u p g j) (upd off cnt u))) _ (stp9 len p g) 0 LF hb he (by unfold LF; omega)
  have hw0 : lpn (f_X2_put_L66 r u (nI g)) LF (0, nI p, setR h r len (cnt + 1) cf (upd off cnt u)) = some (nI (stp9 len p g), setR h r len (cnt + 1) (lay9 cf u p g (stp9 len p g)) (upd off cnt u)) := by
    rw [← hw]
    simp only [Nat.zero_mul, Nat.add_zero, nI_0, lay9]
  have c1 : ¬ nI p < 0 := nI_pos (by omega)
  have c2 : ¬ nI len ≤ nI p := nI_ge hp (by omega)
  have c3 : ¬ nI cnt < 0 := nI_pos (by omega)
  have c4 : nI cnt < nI 8 := nI_lt hc (by omega)
  have e1 : wrF (setR h r len cnt cf (upd off cnt u)) r 1 3 (.int (nI cnt + (1 : Int32))) = some (setR h r len (cnt + 1) cf (upd off cnt u)) := by
    rw [nI_1]; exact wr_R3 _
  simp only [f_X2_put, f_X2_put_J95, H.ok, H.r1, H.r2, H.r3, H.n1, if_true, Option.bind_some, if_neg c1, if_neg c2, if_neg c3, if_pos c4, st_R2 hc, e1, max1 hg1 hg, hw0]
end RopeWrites
end
section
/-! PURE READING, 3: the class's Rope: copies, what is taken off, numbers of a hue -/
def shlC (f : Nat → Int32) (a b : Nat) : Nat → Int32 := fun i => if a ≤ i ∧ i < b then f (i + 1) else f i
def clrC (f : Nat → Int32) (u : Int32) (b : Nat) : Nat → Int32 := fun i => if i < b ∧ f i = u then -1 else f i
theorem shlC_0 (f : Nat → Int32) (a : Nat) : shlC f a a = f := by
  funext i
  show (if _ then _ else _) = _
  rw [if_neg (by omega)]
theorem shlC_s (f : Nat → Int32) (a t : Nat) : upd (shlC f a (a + t)) (a + t) (f (a + t + 1)) = shlC f a (a + (t + 1)) := by
  funext i
  show (if i = a + t then _ else (if _ then _ else _)) = (if _ then _ else _)
  by_cases h0 : i = a + t
  · subst h0
    rw [if_pos rfl, if_pos (by omega)]
  · rw [if_neg h0]
    by_cases h1 : a ≤ i ∧ i < a + t
    · rw [if_pos h1, if_pos (by omega)]
    · rw [if_neg h1, if_neg (by omega)]
theorem shlC_hi (f : Nat → Int32) {a b i : Nat} (h : b ≤ i) : shlC f a b i = f i := if_neg (by omega)
theorem clrC_0 (f : Nat → Int32) (u : Int32) : clrC f u 0 = f := by
  funext i
  show (if _ then _ else _) = _
  rw [if_neg (by omega)]
theorem clrC_hi (f : Nat → Int32) (u : Int32) {b i : Nat} (h : b ≤ i) : clrC f u b i = f i := if_neg (by omega)
theorem clrC_y (f : Nat → Int32) {u : Int32} {j : Nat} (h : f j = u) : upd (clrC f u j) j (-1) = clrC f u (j + 1) := by
  funext i
  show (if i = j then _ else (if _ then _ else _)) = (if _ then _ else _)
  by_cases h0 : i = j
  · subst h0
    rw [if_pos rfl, if_pos ⟨by omega, h⟩]
  · rw [if_neg h0]
    by_cases h1 : i < j ∧ f i = u
    · rw [if_pos h1, if_pos ⟨by omega, h1.2⟩]
    · rw [if_neg h1, if_neg (fun q => h1 ⟨by omega, q.2⟩)]
theorem clrC_n (f : Nat → Int32) {u : Int32} {j : Nat} (h : ¬ f j = u) : clrC f u (j + 1) = clrC f u j := by
  funext i
  show (if _ then _ else _) = (if _ then _ else _)
  by_cases h1 : i < j ∧ f i = u
  · rw [if_pos h1, if_pos ⟨by omega, h1.2⟩]
  · rw [if_neg h1, if_neg (fun q => ?_)]
    by_cases h0 : i = j
    · subst h0; exact h q.2
    · exact h1 ⟨by omega, q.2⟩
section RopeWrites2
variable {h : PH} {r len cnt : Nat} {cf off : Nat → Int32}
theorem cR.set {r2 l2 c2 l3 c3 : Nat} {cf2 off2 cf3 off3 : Nat → Int32} (H2 : cR h r2 l2 c2 cf2 off2) (hd : r2 + 3 ≤ r ∨ r + 3 ≤ r2) : cR (setR h r l3 c3 cf3 off3) r2 l2 c2 cf2 off2 :=
  ⟨(setR_n (by omega)).trans H2.1, (setR_n (by omega)).trans H2.2.1, (setR_n (by omega)).trans H2.2.2⟩
theorem X2_copyFrom {r2 l2 c2 : Nat} {cf2 off2 : Nat → Int32} (H2 : cR h r2 l2 c2 cf2 off2) (hd : r2 + 3 ≤ r ∨ r + 3 ≤ r2) : f_X2_copyFrom (setR h r len cnt cf off) r r2 = some (setR h r l2 c2 (fill9 cf cf2 60) (fill9 off off2 8)) := by
  have H : ∀ {l c : Nat} {f o : Nat → Int32}, cR (setR h r l c f o) r l c f o := setR_cR
  have K : ∀ {l c : Nat} {f o : Nat → Int32}, cR (setR h r l c f o) r2 l2 c2 cf2 off2 := H2.set hd
  have hb : ∀ j, 0 ≤ j → j < 0 + 60 → f_X2_copyFrom_L18 r r2 ((fun j => (nI j, setR h r l2 c2 (fill9 cf cf2 j) off)) j) = some (.inl ((fun j => (nI j, setR h r l2 c2 (fill9 cf cf2 j) off)) (j + 1))) := by
    intro j _ hj
    have c2 : ¬ nI 60 ≤ nI j := nI_ge (by omega) (by omega)
    simp only [f_X2_copyFrom_L18, H.r0, H.n0, K.r0, K.n0, Option.bind_some, if_neg c2, ldI_of K.2.1 (show j < 60 by omega) (by omega), st_R1 (show j < 60 by omega), nI_1, fill9]
  have he : f_X2_copyFrom_L18 r r2 ((fun j => (nI j, setR h r l2 c2 (fill9 cf cf2 j) off)) (0 + 60)) = some (.inr (setR h r l2 c2 (fill9 cf cf2 60) off)) := by
    have c2 : nI 60 ≤ nI 60 := nI_le (Nat.le_refl _) (by omega)
    simp only [Nat.zero_add, f_X2_copyFrom_L18, H.r0, H.n0, Option.bind_some, if_pos c2]
  have hw := lpn_run (fun j => (nI j, setR h r l2 c2 (fill9 cf cf2 j) off)) _ 60 0 LF hb he (by unfold LF; omega)
  have hw0 : lpn (f_X2_copyFrom_L18 r r2) LF (0, setR h r l2 c2 cf off) = _ := hw
  have gb : ∀ j, 0 ≤ j → j < 0 + 8 → f_X2_copyFrom_L56 r r2 ((fun j => (nI j, setR h r l2 c2 (fill9 cf cf2 60) (fill9 off off2 j))) j) = some (.inl ((fun j => (nI j, setR h r l2 c2 (fill9 cf cf2 60) (fill9 off off2 j))) (j + 1))) := by
    intro j _ hj
    have c2 : ¬ nI 8 ≤ nI j := nI_ge (by omega) (by omega)
    simp only [f_X2_copyFrom_L56, H.r1, H.n1, K.r1, K.n1, Option.bind_some, if_neg c2, ldI_of K.2.2 (show j < 8 by omega) (by omega), st_R2 (show j < 8 by omega), nI_1, fill9]
  have ge : f_X2_copyFrom_L56 r r2 ((fun j => (nI j, setR h r l2 c2 (fill9 cf cf2 60) (fill9 off off2 j))) (0 + 8)) = some (.inr (setR h r l2 c2 (fill9 cf cf2 60) (fill9 off off2 8))) := by
    have c2 : nI 8 ≤ nI 8 := nI_le (Nat.le_refl _) (by omega)
    simp only [Nat.zero_add, f_X2_copyFrom_L56, H.r1, H.n1, Option.bind_some, if_pos c2]
  have gw := lpn_run (fun j => (nI j, setR h r l2 c2 (fill9 cf cf2 60) (fill9 off off2 j))) _ 8 0 LF gb ge (by unfold LF; omega)
  have gw0 : lpn (f_X2_copyFrom_L56 r r2) LF (0, setR h r l2 c2 (fill9 cf cf2 60) off) = _ := gw
  simp only [f_X2_copyFrom, f_X2_copyFrom_J54, f_X2_copyFrom_J92, H.ok, K.r2, K.r3, if_true, Option.bind_some, wr_R2, wr_R3, hw0, gw0]
theorem X2_remove_n (hc : cnt ≤ 8) {u : Int32} (hu : fst9 (fun k => decide (off k = u)) 0 cnt = none) : f_X2_remove (setR h r len cnt cf off) r u = some (0, setR h r len cnt cf off) := by
  have H : cR (setR h r len cnt cf off) r len cnt cf off := setR_cR
  have c0 : ¬ (0 : Int32) ≤ oI none := by decide
  simp only [f_X2_remove, H.ok, if_true, X2_orderOf H hc, hu, Option.bind_some, if_neg c0]
theorem X2_remove (hl : len ≤ 60) (hc : cnt ≤ 8) {u : Int32} {k : Nat} (hu : fst9 (fun k => decide (off k = u)) 0 cnt = some k) : f_X2_remove (setR h r len cnt cf off) r u = some (nI (cnt9 (fun p => decide (cf p = u)) len), setR h r len (cnt - 1) (clrC cf u len) (shlC off k (cnt - 1))) := by
  have H : ∀ {l c : Nat} {f o : Nat → Int32}, cR (setR h r l c f o) r l c f o := setR_cR
  have hk := (fst9_some hu).2.1
  rw [Nat.zero_add] at hk
  have hb : ∀ j, 0 ≤ j → j < 0 + (cnt - 1 - k) → f_X2_remove_L16 r u ((fun t => (nI (k + t + 1), setR h r len cnt cf (shlC off k (k + t)))) j) = some (.inl ((fun t => (nI (k + t + 1), setR h r len cnt cf (shlC off k (k + t)))) (j + 1))) := by
    intro j _ hj
    have c1 : ¬ nI cnt ≤ nI (k + j + 1) := nI_ge (by omega) (by omega)
    have c2 : ¬ nI 8 ≤ nI (k + j + 1) := nI_ge (by omega) (by omega)
    simp only [f_X2_remove_L16, H.r1, H.r3, H.n1, Option.bind_some, if_neg c1, if_neg c2, ldI_of H.2.2 (show k + j + 1 < 8 by omega) (by omega), nI_pred, st_R2 (show k + j < 8 by omega), nI_1, shlC_hi off (show k + j ≤ k + j + 1 by omega), shlC_s]
    rfl
  have he : f_X2_remove_L16 r u ((fun t => (nI (k + t + 1), setR h r len cnt cf (shlC off k (k + t)))) (0 + (cnt - 1 - k))) = some (.inr (setR h r len cnt cf (shlC off k (cnt - 1)))) := by
    have c1 : nI cnt ≤ nI (k + (0 + (cnt - 1 - k)) + 1) := nI_le (by omega) (by omega)
    simp only [f_X2_remove_L16, H.r3, Option.bind_some, if_pos c1]
    rw [show k + (0 + (cnt - 1 - k)) = cnt - 1 by omega]
  have hw := lpn_run (fun t => (nI (k + t + 1), setR h r len cnt cf (shlC off k (k + t)))) _ (cnt - 1 - k) 0 LF hb he (by unfold LF; omega)
  have hw0 : lpn (f_X2_remove_L16 r u) LF (nI (k + 1), setR h r len cnt cf off) = some (setR h r len cnt cf (shlC off k (cnt - 1))) := by
    rw [← hw]
    show _ = lpn _ LF (nI (k + 0 + 1), setR h r len cnt cf (shlC off k (k + 0)))
    have e9 : shlC off k (k + 0) = off := shlC_0 off k
    rw [e9, Nat.add_zero]
  have gb : ∀ o v j, 0 ≤ j → j < 0 + len → f_X2_remove_L72 r u v ((fun j => (nI j, setR h r len (cnt - 1) (clrC cf u j) o)) j) = some (.inl ((fun j => (nI j, setR h r len (cnt - 1) (clrC cf u j) o)) (j + 1))) := by
    intro o v j _ hj
    have c2 : ¬ nI len ≤ nI j := nI_ge (by omega) (by omega)
    simp only [f_X2_remove_L72, f_X2_remove_J98, H.r2, Option.bind_some, if_neg c2, X2_colourAt H hl (show j < len by omega), clrC_hi cf u (Nat.le_refl j)]
    by_cases hj2 : cf j = u
    · simp only [hj2, not_true_eq_false, if_false, X2_setColour (show j < 60 by omega), Option.bind_some, nI_1, clrC_y cf hj2]
    · simp only [hj2, not_false_eq_true, if_true, nI_1, clrC_n cf hj2]
  have ge : ∀ o v, f_X2_remove_L72 r u v ((fun j => (nI j, setR h r len (cnt - 1) (clrC cf u j) o)) (0 + len)) = some (.inr (setR h r len (cnt - 1) (clrC cf u len) o)) := by
    intro o v
    have c2 : nI len ≤ nI len := nI_le (Nat.le_refl _) (by omega)
    simp only [Nat.zero_add, f_X2_remove_L72, H.r2, Option.bind_some, if_pos c2]
  have gw0 : ∀ o v, lpn (f_X2_remove_L72 r u v) LF (0, setR h r len (cnt - 1) cf o) = some (setR h r len (cnt - 1) (clrC cf u len) o) := by
    intro o v
    have gw := lpn_run (fun j => (nI j, setR h r len (cnt - 1) (clrC cf u j) o)) _ len 0 LF (gb o v) (ge o v) (by unfold LF; omega)
    rw [← gw]
    show _ = lpn _ LF (nI 0, setR h r len (cnt - 1) (clrC cf u 0) o)
    rw [clrC_0]
    rfl
  have c0 : (0 : Int32) ≤ oI (some k) := by
    have := nI_le (a := 0) (b := k) (by omega) (by omega)
    exact this
  have e1 : nI cnt - 1 = nI (cnt - 1) := by
    obtain ⟨c9, rfl⟩ : ∃ c9, cnt = c9 + 1 := ⟨cnt - 1, by omega⟩
    rw [nI_pred]
    rfl
  have e2 : oI (some k) + 1 = nI (k + 1) := nI_1 k
  simp only [f_X2_remove, f_X2_remove_J53, f_X2_remove_J104, H.ok, if_true, X2_orderOf H hc, hu, Option.bind_some, if_pos c0, e2, hw0, H.r3, e1, wr_R3, X2_placesOf H hl, gw0]
end RopeWrites2
section RopeReads4
variable {h : PH} {r len cnt : Nat} {cf off : Nat → Int32}
/-- the numbers of a hue, by the cells -/
def hnC (len cnt : Nat) (cf off : Nat → Int32) (u : Int32) (w : Nat) : Int32 := match fst9 (fun k => decide (off k = u)) 0 cnt with
  | none => -1
  | some k => if w = 0 then oI (fst9 (fun p => decide (cf p = u)) 0 len) else if w = 1 then nI (cnt9 (fun p => decide (cf p = u)) len) else if w = 2 then oI (lst9 (fun p => decide (cf p = u)) len) else nI k
theorem X2_hueNumber (H : cR h r len cnt cf off) (hl : len ≤ 60) (hc : cnt ≤ 8) (u : Int32) {w : Nat} (hw : w < 4) : f_X2_hueNumber h r u (nI w) = some (hnC len cnt cf off u w) := by
  have hf := X2_firstFrom H hl u (a := 0) (Nat.zero_le _)
  have hf0 : f_X2_firstFrom h r u 0 = _ := hf
  rw [Nat.sub_zero] at hf0
  simp only [f_X2_hueNumber, H.ok, if_true, X2_orderOf H hc, Option.bind_some, hnC]
  cases hk : fst9 (fun k => decide (off k = u)) 0 cnt with
  | none => simp only [oI, not_true_eq_false, if_false]
  | some k =>
    have hk2 := (fst9_some hk).2.1
    have c1 : ¬ oI (some k) = -1 := nI_ne_m1 (by omega)
    simp only [if_pos c1, hf0, X2_placesOf H hl, X2_lastOf H hl, Option.bind_some]
    match w, hw with
    | 0, _ => rfl
    | 1, _ => rfl
    | 2, _ => rfl
    | 3, _ => rfl
def pnC (len cnt : Nat) (cf off : Nat → Int32) (u : Int32) (g w : Nat) : Int32 := if w = 0 then nI (cnt9 (fun p => decide (whyC len cnt cf off u p g = 0)) g) else if w = 1 then oI (fst9 (fun p => decide (whyC len cnt cf off u p g = 0)) 0 g) else oI (fil9 (fun p => decide (whyC len cnt cf off u p g = 0)) (fun p => stp9 len p g) g).1
theorem X2_phaseNumber (H : cR h r len cnt cf off) (hl : len ≤ 60) (hc : cnt ≤ 8) (u : Int32) {g : Nat} (hg1 : 1 ≤ g) (hg : g ≤ 100) {w : Nat} (hw : w < 3) : f_X2_phaseNumber h r u (nI g) (nI w) = some (pnC len cnt cf off u g w) := by
  simp only [f_X2_phaseNumber, H.ok, if_true, X2_fittingPhases H hl hc u hg1 hg, X2_lowestPhase H hl hc u hg1 hg, X2_fillingPhase H hl hc u hg1 hg, Option.bind_some, pnC]
  match w, hw with
  | 0, _ => rfl
  | 1, _ => rfl
  | 2, _ => rfl
end RopeReads4
end
section
/-! PURE READING, 4: ropes as mathematics. A rope is its length and a row of (hue, phase) in the order of laying; g is the gap of each hue. -/
def wfg (g : Nat → Nat) : Prop := ∀ u, 2 ≤ g u ∧ g u ≤ 20
def tkb (g : Nat → Nat) (q : Nat × Nat) (i : Nat) : Bool := decide (q.2 ≤ i ∧ (i - q.2) % g q.1 = 0)
def col (g : Nat → Nat) (L : List (Nat × Nat)) (i : Nat) : Option Nat := (L.find? (fun q => tkb g q i)).map Prod.fst
def phs (L : List (Nat × Nat)) (u : Nat) : Option Nat := (L.find? (fun q => decide (q.1 = u))).map Prod.snd
def ixo (L : List (Nat × Nat)) (u : Nat) : Option Nat := fst9 (fun k => decide (L[k]?.map Prod.fst = some u)) 0 L.length
def wfR (g : Nat → Nat) (len : Nat) (L : List (Nat × Nat)) : Prop := (1 ≤ len ∧ len ≤ 60) ∧ (L.map Prod.fst).Nodup ∧ (∀ q ∈ L, q.1 < 8 ∧ q.2 < len ∧ q.2 < g q.1) ∧ ∀ q ∈ L, ∀ q' ∈ L, ∀ i, i < len → tkb g q i = true → tkb g q' i = true → q = q'
theorem nodup_fst {L : List (Nat × Nat)} (h : (L.map Prod.fst).Nodup) : ∀ q ∈ L, ∀ q' ∈ L, q.1 = q'.1 → q = q' := by
  induction L with
  | nil => intro q hq; cases hq
  | cons a L ih =>
    rw [List.map_cons, List.nodup_cons] at h
    intro q hq q' hq' he
    rcases List.mem_cons.mp hq with h1 | h1 <;> rcases List.mem_cons.mp hq' with h2 | h2
    · rw [h1, h2]
    · exact absurd (List.mem_map.mpr ⟨q', h2, by rw [← he, h1]⟩) h.1
    · exact absurd (List.mem_map.mpr ⟨q, h1, by rw [he, h2]⟩) h.1
    · exact ih h.2 q h1 q' h2 he
theorem phs_of {L : List (Nat × Nat)} (h : (L.map Prod.fst).Nodup) {u p : Nat} (hm : (u, p) ∈ L) : phs L u = some p := by
  unfold phs
  cases hf : L.find? (fun q => decide (q.1 = u)) with
  | none =>
    have := List.find?_eq_none.mp hf (u, p) hm
    simp at this
  | some q =>
    have h1 := List.mem_of_find?_eq_some hf
    have h2 : q.1 = u := by simpa using List.find?_some hf
    rw [nodup_fst h q h1 (u, p) hm h2]
    rfl
theorem phs_mem {L : List (Nat × Nat)} {u p : Nat} (h : phs L u = some p) : (u, p) ∈ L := by
  unfold phs at h
  cases hf : L.find? (fun q => decide (q.1 = u)) with
  | none => rw [hf] at h; cases h
  | some q =>
    rw [hf] at h
    have h1 := List.mem_of_find?_eq_some hf
    have h2 : q.1 = u := by simpa using List.find?_some hf
    cases h
    rw [← h2]
    exact h1
theorem phs_none {L : List (Nat × Nat)} {u : Nat} : phs L u = none ↔ ∀ q ∈ L, q.1 ≠ u := by
  unfold phs
  rw [Option.map_eq_none_iff, List.find?_eq_none]
  simp
theorem col_none {g : Nat → Nat} {L : List (Nat × Nat)} {i : Nat} : col g L i = none ↔ ∀ q ∈ L, tkb g q i = false := by
  unfold col
  rw [Option.map_eq_none_iff, List.find?_eq_none]
  simp
theorem col_mem {g : Nat → Nat} {L : List (Nat × Nat)} {i u : Nat} (h : col g L i = some u) : ∃ p, (u, p) ∈ L ∧ tkb g (u, p) i = true := by
  unfold col at h
  cases hf : L.find? (fun q => tkb g q i) with
  | none => rw [hf] at h; cases h
  | some q =>
    rw [hf] at h
    cases h
    have h9 : tkb g q i = true := List.find?_some (p := fun q => tkb g q i) hf
    exact ⟨q.2, List.mem_of_find?_eq_some hf, h9⟩
theorem wfR.col_of {g : Nat → Nat} {len : Nat} {L : List (Nat × Nat)} (W : wfR g len L) {q : Nat × Nat} (hq : q ∈ L) {i : Nat} (hi : i < len) (ht : tkb g q i = true) : col g L i = some q.1 := by
  cases h : col g L i with
  | none => rw [col_none.mp h q hq] at ht; cases ht
  | some u =>
    obtain ⟨p, h1, h2⟩ := col_mem h
    rw [W.2.2.2 q hq (u, p) h1 i hi ht h2]
theorem wfR.col_iff {g : Nat → Nat} {len : Nat} {L : List (Nat × Nat)} (W : wfR g len L) {q : Nat × Nat} (hq : q ∈ L) {i : Nat} (hi : i < len) : col g L i = some q.1 ↔ tkb g q i = true := by
  refine ⟨fun h => ?_, W.col_of hq hi⟩
  obtain ⟨p, h1, h2⟩ := col_mem h
  rw [nodup_fst W.2.1 q hq (q.1, p) h1 rfl]
  exact h2
theorem col_lt {g : Nat → Nat} {len : Nat} {L : List (Nat × Nat)} (W : wfR g len L) {i u : Nat} (h : col g L i = some u) : u < 8 := by
  obtain ⟨p, h1, _⟩ := col_mem h
  exact (W.2.2.1 _ h1).1
theorem wfR.le8 {g : Nat → Nat} {len : Nat} {L : List (Nat × Nat)} (W : wfR g len L) : L.length ≤ 8 := by
  have h1 : (L.map Prod.fst) ⊆ List.range 8 := by
    intro u hu
    obtain ⟨q, hq, rfl⟩ := List.mem_map.mp hu
    exact List.mem_range.mpr (W.2.2.1 q hq).1
  have h2 := List.Nodup.length_le_of_subset W.2.1 h1
  rw [List.length_map, List.length_range] at h2
  exact h2
theorem wfR.sub {g : Nat → Nat} {len : Nat} {L M : List (Nat × Nat)} (W : wfR g len L) (h : M.Sublist L) : wfR g len M :=
  ⟨W.1, W.2.1.sublist (h.map _), fun q hq => W.2.2.1 q (h.subset hq), fun q hq q' hq' => W.2.2.2 q (h.subset hq) q' (h.subset hq')⟩
/-- the class's Rope at r is the rope (len, L) -/
def repR (g : Nat → Nat) (h : PH) (r len : Nat) (L : List (Nat × Nat)) : Prop := ∃ cf off, cR h r len L.length cf off ∧ (∀ k q, L[k]? = some q → off k = nI q.1) ∧ ∀ i, i < len → cf i = oI (col g L i)
theorem nI_same {a b : Nat} (ha : a < 2 ^ 31) (hb : b < 2 ^ 31) (h : nI a = nI b) : a = b := by
  have h1 := congrArg Int32.toNatClampNeg h
  rw [nI_clamp ha, nI_clamp hb] at h1
  exact h1
theorem oI_inj {x y : Option Nat} (hx : ∀ n, x = some n → n < 2 ^ 31) (hy : ∀ n, y = some n → n < 2 ^ 31) : oI x = oI y ↔ x = y := by
  refine ⟨fun h => ?_, fun h => by rw [h]⟩
  cases x with
  | none =>
    cases y with
    | none => rfl
    | some m => exact absurd h.symm (nI_ne_m1 (hy m rfl))
  | some n =>
    cases y with
    | none => exact absurd h (nI_ne_m1 (hx n rfl))
    | some m =>
      have h1 := hx n rfl
      have h2 := hy m rfl
      have h3 : nI n = nI m := h
      rw [nI_same h1 h2 h3]
section RopeMath
variable {g : Nat → Nat} {h : PH} {r len : Nat} {L : List (Nat × Nat)}
theorem off_eq (W : wfR g len L) {off : Nat → Int32} (ho : ∀ k q, L[k]? = some q → off k = nI q.1) {u : Nat} (hu : u < 2 ^ 31) {k : Nat} (hk : k < L.length) : decide (off k = nI u) = decide (L[k]?.map Prod.fst = some u) := by
  have h1 : L[k]? = some L[k] := List.getElem?_eq_getElem hk
  rw [ho k _ h1, h1]
  have h2 := (W.2.2.1 _ (List.getElem_mem hk)).1
  by_cases h3 : L[k].1 = u
  · simp [h3]
  · have h4 : ¬ nI L[k].1 = nI u := fun q => h3 (nI_same (by omega) hu q)
    simp [h3, h4]
theorem cf_eq (W : wfR g len L) {cf : Nat → Int32} (hc : ∀ i, i < len → cf i = oI (col g L i)) {u : Nat} (hu : u < 2 ^ 31) {i : Nat} (hi : i < len) : decide (cf i = nI u) = decide (col g L i = some u) := by
  rw [hc i hi]
  have h1 := oI_inj (x := col g L i) (y := some u) (fun n hn => by have := col_lt W hn; omega) (fun n hn => by cases hn; exact hu)
  have h2 : (oI (col g L i) = nI u) ↔ (col g L i = some u) := h1
  simp only [h2]
theorem cf_eq0 (W : wfR g len L) {cf : Nat → Int32} (hc : ∀ i, i < len → cf i = oI (col g L i)) {i : Nat} (hi : i < len) : decide (cf i = -1) = decide (col g L i = none) := by
  rw [hc i hi]
  have h1 := oI_m1 (x := col g L i) (fun n hn => by have := col_lt W hn; omega)
  simp only [h1]
theorem ixo_none {u : Nat} : ixo L u = none ↔ phs L u = none := by
  rw [phs_none]
  constructor
  · intro h1 q hq he
    obtain ⟨k, hk, rfl⟩ := List.getElem_of_mem hq
    have h2 := fst9_none h1 k (Nat.zero_le _) (by omega)
    rw [List.getElem?_eq_getElem hk] at h2
    simp [he] at h2
  · intro h1
    refine fst9_of_none (fun i _ hi => ?_)
    have hk : i < L.length := by omega
    rw [List.getElem?_eq_getElem hk]
    have := h1 _ (List.getElem_mem hk)
    simp [this]
theorem ixo_some {u k : Nat} (h1 : ixo L u = some k) : ∃ p, L[k]? = some (u, p) := by
  obtain ⟨-, h2, h3, -⟩ := fst9_some h1
  have hk : k < L.length := by omega
  rw [List.getElem?_eq_getElem hk] at h3 ⊢
  have : L[k].1 = u := by simpa using h3
  exact ⟨L[k].2, by rw [← this]⟩
theorem ixo_of (W : wfR g len L) {u p k : Nat} (h1 : L[k]? = some (u, p)) : ixo L u = some k := by
  obtain ⟨hk, h2⟩ := List.getElem?_eq_some_iff.mp h1
  refine fst9_of (Nat.zero_le _) (by omega) (by simp [h1]) (fun i _ hi => ?_)
  have hi2 : i < L.length := by omega
  rw [List.getElem?_eq_getElem hi2]
  have hn : ¬ L[i].1 = u := fun q => by
    have h3 : L[i] = L[k] := nodup_fst W.2.1 _ (List.getElem_mem hi2) _ (List.getElem_mem hk) (by rw [q, h2])
    have h4 : (L.map Prod.fst)[i]'(by rw [List.length_map]; exact hi2) = (L.map Prod.fst)[k]'(by rw [List.length_map]; exact hk) := by simp [h3]
    exact List.pairwise_iff_getElem.mp W.2.1 i k (by rw [List.length_map]; exact hi2) (by rw [List.length_map]; exact hk) hi h4
  simp [hn]
end RopeMath
end
section
/-! PURE READING, 5: the class's Rope against the mathematical rope -/
theorem lt_same {a b : Nat} (h : ∀ i, i < a ↔ i < b) : a = b := by
  rcases Nat.lt_trichotomy a b with q | q | q
  · exact absurd ((h a).mpr q) (Nat.lt_irrefl _)
  · exact q
  · exact absurd ((h b).mp q) (Nat.lt_irrefl _)
theorem tkb_iff {g : Nat → Nat} {q : Nat × Nat} {i : Nat} : tkb g q i = true ↔ ∃ j, i = q.2 + j * g q.1 := by
  unfold tkb
  rw [decide_eq_true_iff]
  constructor
  · rintro ⟨h1, h2⟩
    refine ⟨(i - q.2) / g q.1, ?_⟩
    have h3 := Nat.div_add_mod (i - q.2) (g q.1)
    rw [h2, Nat.add_zero, Nat.mul_comm] at h3
    omega
  · rintro ⟨j, rfl⟩
    refine ⟨Nat.le_add_right _ _, ?_⟩
    rw [Nat.add_sub_cancel_left]
    exact Nat.mul_mod_left _ _
theorem stp9_s {n p s : Nat} (hs : 0 < s) : stp9 (n + 1) p s = stp9 n p s + (if decide (p ≤ n ∧ (n - p) % s = 0) = true then 1 else 0) := by
  apply lt_same
  intro i
  rw [stp9_lt hs]
  by_cases h : p ≤ n ∧ (n - p) % s = 0
  · have h1 : n = p + (n - p) / s * s := by
      have h3 := Nat.div_add_mod (n - p) s
      rw [h.2, Nat.add_zero, Nat.mul_comm] at h3
      omega
    have h2 : stp9 n p s = (n - p) / s := by
      apply lt_same
      intro k
      rw [stp9_lt hs]
      constructor
      · intro h4
        rcases Nat.lt_or_ge k ((n - p) / s) with h5 | h5
        · exact h5
        · have := Nat.mul_le_mul_right s h5
          omega
      · intro h4
        have := Nat.mul_lt_mul_of_pos_right h4 hs
        omega
    rw [if_pos (decide_eq_true h), h2]
    constructor
    · intro h4
      rcases Nat.lt_or_ge i ((n - p) / s + 1) with h5 | h5
      · exact h5
      · have := Nat.mul_lt_mul_of_pos_right (show (n - p) / s < i by omega) hs
        omega
    · intro h4
      have := Nat.mul_le_mul_right s (show i ≤ (n - p) / s by omega)
      omega
  · rw [if_neg (by simpa using h)]
    show _ ↔ i < stp9 n p s
    rw [stp9_lt hs]
    constructor
    · intro h4
      rcases Nat.lt_or_ge (p + i * s) n with h5 | h5
      · exact h5
      · exact absurd ⟨by omega, by rw [show n - p = i * s by omega]; exact Nat.mul_mod_left _ _⟩ h
    · omega
theorem cnt9_tkb {g : Nat → Nat} (hg : wfg g) (q : Nat × Nat) : ∀ n, cnt9 (fun i => tkb g q i) n = stp9 n q.2 (g q.1) := by
  intro n
  have hs : 0 < g q.1 := by have := (hg q.1).1; omega
  induction n with
  | zero =>
    apply lt_same
    intro i
    rw [stp9_lt hs]
    simp only [cnt9]
    omega
  | succ n ih => rw [stp9_s hs, ← ih]; rfl
/-- the first place from a on of phase p and gap s -/
def frm (p s a : Nat) : Nat := if a ≤ p then p else p + (a - p + s - 1) / s * s
theorem frm_ge {p s a : Nat} (hs : 0 < s) : a ≤ frm p s a := by
  unfold frm
  split
  · assumption
  · have h1 := Nat.div_add_mod (a - p + s - 1) s
    have h2 := Nat.mod_lt (a - p + s - 1) hs
    rw [Nat.mul_comm] at h1
    omega
theorem frm_lt {p s a : Nat} (hs : 0 < s) (ha : p < a) : frm p s a < a + s := by
  unfold frm
  rw [if_neg (by omega)]
  have h1 := Nat.div_add_mod (a - p + s - 1) s
  rw [Nat.mul_comm] at h1
  omega
theorem frm_on {p s a : Nat} : ∃ j, frm p s a = p + j * s := by
  unfold frm
  split
  · exact ⟨0, by omega⟩
  · exact ⟨_, rfl⟩
theorem frm_le {p s a j : Nat} (hs : 0 < s) (h : a ≤ p + j * s) : frm p s a ≤ p + j * s := by
  rcases Nat.lt_or_ge p a with h1 | h1
  · obtain ⟨k, hk⟩ := frm_on (p := p) (s := s) (a := a)
    have h2 := frm_lt hs h1
    rw [hk] at h2 ⊢
    rcases Nat.lt_or_ge j k with h3 | h3
    · have h4 := Nat.mul_le_mul_right s (show j + 1 ≤ k from h3)
      rw [Nat.add_mul] at h4
      omega
    · have h4 := Nat.mul_le_mul_right s h3
      omega
  · unfold frm
    rw [if_pos h1]
    omega
theorem fst9_frm {g : Nat → Nat} (hg : wfg g) (q : Nat × Nat) {a n : Nat} : fst9 (fun i => tkb g q i) a n = if frm q.2 (g q.1) a < a + n then some (frm q.2 (g q.1) a) else none := by
  have hs : 0 < g q.1 := by have := (hg q.1).1; omega
  have hlo : ∀ i, a ≤ i → i < frm q.2 (g q.1) a → tkb g q i = false := by
    intro i h1 h2
    cases h3 : tkb g q i with
    | false => rfl
    | true =>
      obtain ⟨j, hj⟩ := tkb_iff.mp h3
      have := frm_le (p := q.2) (s := g q.1) (a := a) (j := j) hs (by omega)
      omega
  split
  · rename_i h1
    exact fst9_of (frm_ge hs) h1 (tkb_iff.mpr frm_on) hlo
  · rename_i h1
    exact fst9_of_none (fun i h2 h3 => hlo i h2 (by omega))
/-- the last place below n -/
def lst (p s n : Nat) : Nat := p + (n - 1 - p) / s * s
theorem lst_lt {p s n : Nat} (hp : p < n) : lst p s n < n := by
  unfold lst
  have h1 := Nat.div_mul_le_self (n - 1 - p) s
  omega
theorem lst_gt {p s n : Nat} (hs : 0 < s) : n ≤ lst p s n + s := by
  unfold lst
  have h1 := Nat.div_add_mod (n - 1 - p) s
  have h2 := Nat.mod_lt (n - 1 - p) hs
  rw [Nat.mul_comm] at h1
  omega
theorem lst9_of {P : Nat → Bool} {n j : Nat} (h1 : j < n) (h2 : P j = true) (h3 : ∀ i, j < i → i < n → P i = false) : lst9 P n = some j := by
  cases h : lst9 P n with
  | none => rw [lst9_none h j h1] at h2; cases h2
  | some k =>
    obtain ⟨k1, k2, k3⟩ := lst9_some h
    rcases Nat.lt_trichotomy k j with h5 | h5 | h5
    · rw [k3 j h5 h1] at h2; cases h2
    · rw [h5]
    · rw [h3 k h5 k1] at k2; cases k2
theorem lst9_tkb {g : Nat → Nat} (hg : wfg g) (q : Nat × Nat) {n : Nat} (hq : q.2 < n) : lst9 (fun i => tkb g q i) n = some (lst q.2 (g q.1) n) := by
  have hs : 0 < g q.1 := by have := (hg q.1).1; omega
  refine lst9_of (lst_lt hq) (tkb_iff.mpr ⟨_, rfl⟩) (fun i h1 h2 => ?_)
  cases h3 : tkb g q i with
  | false => rfl
  | true =>
    obtain ⟨j, hj⟩ := tkb_iff.mp h3
    have h4 := lst_gt (p := q.2) (s := g q.1) (n := n) hs
    unfold lst at h1 h4
    rcases Nat.lt_or_ge ((n - 1 - q.2) / g q.1) j with h5 | h5
    · have h6 := Nat.mul_le_mul_right (g q.1) (show (n - 1 - q.2) / g q.1 + 1 ≤ j from h5)
      rw [Nat.add_mul] at h6
      omega
    · have h6 := Nat.mul_le_mul_right (g q.1) h5
      omega
section RopeOps
variable {g : Nat → Nat} {h : PH} {r len : Nat} {L : List (Nat × Nat)}
def whyA (g : Nat → Nat) (len : Nat) (L : List (Nat × Nat)) (u p : Nat) : Nat := if (phs L u).isSome = true then 1 else if len ≤ p then 2 else if (fst9 (fun i => decide (¬ col g L (p + i * g u) = none)) 0 (stp9 len p (g u))).isSome = true then 3 else 0
theorem R_length (H : repR g h r len L) : f_X2_length h r = some (nI len) := by
  obtain ⟨cf, off, H1, -, -⟩ := H
  exact X2_length H1
theorem R_hueCount (H : repR g h r len L) : f_X2_hueCount h r = some (nI L.length) := by
  obtain ⟨cf, off, H1, -, -⟩ := H
  exact X2_hueCount H1
theorem R_colourAt (W : wfR g len L) (H : repR g h r len L) {i : Nat} (hi : i < len) : f_X2_colourAt h r (nI i) = some (oI (col g L i)) := by
  obtain ⟨cf, off, H1, -, H3⟩ := H
  rw [X2_colourAt H1 W.1.2 hi, H3 i hi]
theorem R_hueAt (W : wfR g len L) (H : repR g h r len L) {k : Nat} {q : Nat × Nat} (hk : L[k]? = some q) : f_X2_hueAt h r (nI k) = some (nI q.1) := by
  obtain ⟨cf, off, H1, H2, -⟩ := H
  obtain ⟨hk2, -⟩ := List.getElem?_eq_some_iff.mp hk
  rw [X2_hueAt H1 W.le8 hk2, H2 k q hk]
theorem ixo_eq (W : wfR g len L) {off : Nat → Int32} (ho : ∀ k q, L[k]? = some q → off k = nI q.1) {u : Nat} (hu : u < 2 ^ 31) : fst9 (fun k => decide (off k = nI u)) 0 L.length = ixo L u :=
  fst9_congr (fun i _ h2 => off_eq W ho hu (by omega))
theorem R_orderOf (W : wfR g len L) (H : repR g h r len L) {u : Nat} (hu : u < 2 ^ 31) : f_X2_orderOf h r (nI u) = some (oI (ixo L u)) := by
  obtain ⟨cf, off, H1, H2, -⟩ := H
  rw [X2_orderOf H1 W.le8, ixo_eq W H2 hu]
theorem col_tkb (W : wfR g len L) {q : Nat × Nat} (hq : q ∈ L) {i : Nat} (hi : i < len) : decide (col g L i = some q.1) = tkb g q i := by
  have h1 := W.col_iff hq hi
  cases h2 : tkb g q i with
  | true => exact decide_eq_true (h1.mpr h2)
  | false => exact decide_eq_false (fun q9 => by rw [h1.mp q9] at h2; cases h2)
theorem R_firstFrom (hg : wfg g) (W : wfR g len L) (H : repR g h r len L) {q : Nat × Nat} (hq : q ∈ L) {a : Nat} (ha : a ≤ len) : f_X2_firstFrom h r (nI q.1) (nI a) = some (oI (if frm q.2 (g q.1) a < len then some (frm q.2 (g q.1) a) else none)) := by
  obtain ⟨cf, off, H1, -, H3⟩ := H
  have hu := (W.2.2.1 q hq).1
  rw [X2_firstFrom H1 W.1.2 _ ha, fst9_congr (fun i h1 h2 => (cf_eq W H3 (u := q.1) (by omega) (i := i) (by omega)).trans (col_tkb W hq (by omega))), fst9_frm hg, show a + (len - a) = len by omega]
theorem R_first0 (hg : wfg g) (W : wfR g len L) (H : repR g h r len L) {q : Nat × Nat} (hq : q ∈ L) : f_X2_firstFrom h r (nI q.1) 0 = some (nI q.2) := by
  have h1 := R_firstFrom hg W H hq (a := 0) (Nat.zero_le _)
  have h2 : frm q.2 (g q.1) 0 = q.2 := if_pos (Nat.zero_le _)
  rw [h2, if_pos (W.2.2.1 q hq).2.1] at h1
  exact h1
theorem R_lastOf (hg : wfg g) (W : wfR g len L) (H : repR g h r len L) {q : Nat × Nat} (hq : q ∈ L) : f_X2_lastOf h r (nI q.1) = some (nI (lst q.2 (g q.1) len)) := by
  obtain ⟨cf, off, H1, -, H3⟩ := H
  have hu := (W.2.2.1 q hq).1
  rw [X2_lastOf H1 W.1.2, lst9_congr (fun i h2 => (cf_eq W H3 (u := q.1) (by omega) (i := i) h2).trans (col_tkb W hq h2)), lst9_tkb hg q (W.2.2.1 q hq).2.1]
  rfl
theorem R_placesOf (hg : wfg g) (W : wfR g len L) (H : repR g h r len L) {q : Nat × Nat} (hq : q ∈ L) : f_X2_placesOf h r (nI q.1) = some (nI (stp9 len q.2 (g q.1))) := by
  obtain ⟨cf, off, H1, -, H3⟩ := H
  have hu := (W.2.2.1 q hq).1
  rw [X2_placesOf H1 W.1.2, cnt9_congr (fun i h2 => (cf_eq W H3 (u := q.1) (by omega) (i := i) h2).trans (col_tkb W hq h2)), cnt9_tkb hg q]
theorem R_holes (W : wfR g len L) (H : repR g h r len L) : f_X2_placesOf h r (-1) = some (nI (cnt9 (fun i => decide (col g L i = none)) len)) := by
  obtain ⟨cf, off, H1, -, H3⟩ := H
  rw [X2_placesOf H1 W.1.2, cnt9_congr (fun i h2 => cf_eq0 W H3 h2)]
theorem R_firstHole (W : wfR g len L) (H : repR g h r len L) : f_X2_firstFrom h r (-1) 0 = some (oI (fst9 (fun i => decide (col g L i = none)) 0 len)) := by
  obtain ⟨cf, off, H1, -, H3⟩ := H
  have h1 := X2_firstFrom H1 W.1.2 (-1) (a := 0) (Nat.zero_le _)
  rw [Nat.sub_zero, fst9_congr (fun i _ h2 => cf_eq0 W H3 (by omega))] at h1
  exact h1
theorem R_placesFrom (hg : wfg g) (W : wfR g len L) (H : repR g h r len L) {u p : Nat} (hp : p ≤ 100) : f_X2_placesFrom h r (nI p) (nI (g u)) = some (nI (stp9 len p (g u))) := by
  obtain ⟨cf, off, H1, -, H3⟩ := H
  have := hg u
  exact X2_placesFrom H1 W.1.2 hp (by omega) (by omega)
theorem whyC_eq (hg : wfg g) (W : wfR g len L) {cf off : Nat → Int32} (H2 : ∀ k q, L[k]? = some q → off k = nI q.1) (H3 : ∀ i, i < len → cf i = oI (col g L i)) {u : Nat} (hu : u < 2 ^ 31) (p : Nat) : whyC len L.length cf off (nI u) p (g u) = whyA g len L u p := by
  have hs : 0 < g u := by have := (hg u).1; omega
  unfold whyC whyA
  rw [ixo_eq W H2 hu, fst9_congr (P := fun i => decide (¬ cf (p + i * g u) = -1)) (Q := fun i => decide (¬ col g L (p + i * g u) = none)) (fun i _ h2 => ?_)]
  · have h4 : (ixo L u).isSome = (phs L u).isSome := by
      have h5 := ixo_none (L := L) (u := u)
      cases h6 : ixo L u with
      | none => rw [h5.mp h6]
      | some k =>
        cases h7 : phs L u with
        | none => rw [h5.mpr h7] at h6; cases h6
        | some p => rfl
    rw [h4]
  · have h4 : p + i * g u < len := (stp9_lt hs).mp (by omega)
    have h5 := cf_eq0 W H3 h4
    rw [decide_eq_decide] at h5
    simp only [h5]
theorem R_reasonAgainst (hg : wfg g) (W : wfR g len L) (H : repR g h r len L) {u p : Nat} (hu : u < 2 ^ 31) (hp : p ≤ 100) : f_X2_reasonAgainst h r (nI u) (nI p) (nI (g u)) = some (nI (whyA g len L u p)) := by
  obtain ⟨cf, off, H1, H2, H3⟩ := H
  have := hg u
  rw [X2_reasonAgainst H1 W.1.2 W.le8 _ hp (by omega) (by omega), whyC_eq hg W H2 H3 hu]
end RopeOps
end
section
/-! PURE READING, 6: the class's Rope against the mathematical rope: numbers and writes -/
theorem fil9_congr {P Q : Nat → Bool} {w : Nat → Nat} : ∀ {n : Nat}, (∀ i, i < n → P i = Q i) → fil9 P w n = fil9 Q w n := by
  intro n
  induction n with
  | zero => intro _; rfl
  | succ n ih =>
    intro h
    simp only [fil9]
    rw [ih (fun i hi => h i (by omega)), h n (by omega)]
section RopeOps2
variable {g : Nat → Nat} {h : PH} {r len : Nat} {L : List (Nat × Nat)}
def hnA (g : Nat → Nat) (len : Nat) (L : List (Nat × Nat)) (u w : Nat) : Int32 := match phs L u with
  | none => -1
  | some p => if w = 0 then nI p else if w = 1 then nI (stp9 len p (g u)) else if w = 2 then nI (lst p (g u) len) else oI (ixo L u)
def pnA (g : Nat → Nat) (len : Nat) (L : List (Nat × Nat)) (u w : Nat) : Int32 := if w = 0 then nI (cnt9 (fun p => decide (whyA g len L u p = 0)) (g u)) else if w = 1 then oI (fst9 (fun p => decide (whyA g len L u p = 0)) 0 (g u)) else oI (fil9 (fun p => decide (whyA g len L u p = 0)) (fun p => stp9 len p (g u)) (g u)).1
theorem R_hueNumber (hg : wfg g) (W : wfR g len L) (H : repR g h r len L) {u : Nat} (hu : u < 2 ^ 31) {w : Nat} (hw : w < 4) : f_X2_hueNumber h r (nI u) (nI w) = some (hnA g len L u w) := by
  have H0 := H
  obtain ⟨cf, off, H1, H2, H3⟩ := H
  rw [X2_hueNumber H1 W.1.2 W.le8 _ hw]
  unfold hnC hnA
  rw [ixo_eq W H2 hu]
  cases h1 : ixo L u with
  | none => rw [ixo_none.mp h1]
  | some k =>
    obtain ⟨p, h2⟩ := ixo_some h1
    have hq : (u, p) ∈ L := List.mem_of_getElem? h2
    rw [phs_of W.2.1 hq]
    have e1 := (X2_firstFrom H1 W.1.2 (nI u) (a := 0) (Nat.zero_le _)).symm.trans (R_first0 hg W H0 hq)
    have e2 := (X2_placesOf H1 W.1.2 (nI u)).symm.trans (R_placesOf hg W H0 hq)
    have e3 := (X2_lastOf H1 W.1.2 (nI u)).symm.trans (R_lastOf hg W H0 hq)
    rw [Nat.sub_zero] at e1
    dsimp only
    rw [Option.some.inj e1, Option.some.inj e2, Option.some.inj e3]
    rfl
theorem R_phaseNumber (hg : wfg g) (W : wfR g len L) (H : repR g h r len L) {u : Nat} (hu : u < 2 ^ 31) {w : Nat} (hw : w < 3) : f_X2_phaseNumber h r (nI u) (nI (g u)) (nI w) = some (pnA g len L u w) := by
  obtain ⟨cf, off, H1, H2, H3⟩ := H
  have := hg u
  have e : ∀ p, whyC len L.length cf off (nI u) p (g u) = whyA g len L u p := whyC_eq hg W H2 H3 hu
  rw [X2_phaseNumber H1 W.1.2 W.le8 _ (by omega) (by omega) hw]
  unfold pnC pnA
  simp only [e]
theorem R_fillingPhase (hg : wfg g) (W : wfR g len L) (H : repR g h r len L) {u : Nat} (hu : u < 2 ^ 31) : f_X2_fillingPhase h r (nI u) (nI (g u)) = some (pnA g len L u 2) := by
  obtain ⟨cf, off, H1, H2, H3⟩ := H
  have := hg u
  have e : ∀ p, whyC len L.length cf off (nI u) p (g u) = whyA g len L u p := whyC_eq hg W H2 H3 hu
  rw [X2_fillingPhase H1 W.1.2 W.le8 _ (by omega) (by omega)]
  unfold pnA
  simp only [e]
  rfl
theorem R_mostHoles (W : wfR g len L) (H : repR g h r len L) : f_X2_mostHolesSideBySide h r = some (nI (mho9 (fun i => decide (col g L i = none)) len)) := by
  obtain ⟨cf, off, H1, H2, H3⟩ := H
  rw [X2_mostHoles H1 W.1.2]
  have h1 : ∀ n, n ≤ len → mho9 (fun p => decide (cf p = -1)) n = mho9 (fun i => decide (col g L i = none)) n ∧ hol9 (fun p => decide (cf p = -1)) n = hol9 (fun i => decide (col g L i = none)) n := by
    intro n
    induction n with
    | zero => intro _; exact ⟨rfl, rfl⟩
    | succ n ih =>
      intro hn
      obtain ⟨i1, i2⟩ := ih (by omega)
      have h2 := cf_eq0 W H3 (show n < len by omega)
      simp only [mho9, hol9, i1, i2, h2, and_self]
  rw [(h1 len (Nat.le_refl _)).1]
theorem R_differences {r2 : Nat} {L2 : List (Nat × Nat)} (W : wfR g len L) (H : repR g h r len L) (W2 : wfR g len L2) (H2 : repR g h r2 len L2) : f_X2_differences h r r2 = some (nI (cnt9 (fun i => decide (¬ col g L i = col g L2 i)) len)) := by
  obtain ⟨cf, off, A1, A2, A3⟩ := H
  obtain ⟨cf2, off2, B1, B2, B3⟩ := H2
  rw [X2_differences A1 B1 W.1.2]
  congr 2
  refine cnt9_congr (fun i hi => ?_)
  rw [A3 i hi, B3 i hi]
  have h1 := oI_inj (x := col g L i) (y := col g L2 i) (fun n hn => by have := col_lt W hn; omega) (fun n hn => by have := col_lt W2 hn; omega)
  simp only [h1]
/-- only the rope at r changed -/
def chg (r : Nat) (h h' : PH) : Prop := ∀ b, b < r ∨ r + 3 ≤ b → h' b = h b
theorem chg.rf {r : Nat} {h : PH} : chg r h h := fun _ _ => rfl
theorem chg.tr {r : Nat} {h h' h'' : PH} (a : chg r h h') (b : chg r h' h'') : chg r h h'' := fun q hq => (b q hq).trans (a q hq)
theorem chg_set {l c : Nat} {cf off : Nat → Int32} : chg r h (setR h r l c cf off) := fun _ hb => setR_n hb
theorem cR.chg {r2 l c : Nat} {cf off : Nat → Int32} {h' : PH} (H : cR h r l c cf off) (hc : chg r2 h h') (hd : r2 + 3 ≤ r ∨ r + 3 ≤ r2) : cR h' r l c cf off :=
  ⟨(hc _ (by omega)).trans H.1, (hc _ (by omega)).trans H.2.1, (hc _ (by omega)).trans H.2.2⟩
theorem repR.chg {r2 : Nat} {h' : PH} (H : repR g h r len L) (hc : chg r2 h h') (hd : r2 + 3 ≤ r ∨ r + 3 ≤ r2) : repR g h' r len L := by
  obtain ⟨cf, off, A1, A2, A3⟩ := H
  exact ⟨cf, off, A1.chg hc hd, A2, A3⟩
/-- a Rope with any cells -/
def jR (h : PH) (r : Nat) : Prop := ∃ len cnt cf off, cR h r len cnt cf off
theorem jR.chg {r2 : Nat} {h' : PH} (H : jR h r) (hc : chg r2 h h') (hd : r2 + 3 ≤ r ∨ r + 3 ≤ r2) : jR h' r := by
  obtain ⟨l, c, cf, off, A1⟩ := H
  exact ⟨l, c, cf, off, A1.chg hc hd⟩
theorem repR.j (H : repR g h r len L) : jR h r := by
  obtain ⟨cf, off, A1, -, -⟩ := H
  exact ⟨_, _, cf, off, A1⟩
theorem R_begin (g : Nat → Nat) (H : jR h r) {n : Nat} (hn : n ≤ 60) : ∃ h', f_X2_begin h r (nI n) = some h' ∧ repR g h' r n [] ∧ chg r h h' := by
  obtain ⟨l, c, cf, off, A1⟩ := H
  have e := X2_begin (h := h) (r := r) (len := l) (cnt := c) (cf := cf) (off := off) hn
  rw [setR_eq A1] at e
  refine ⟨_, e, ⟨_, _, setR_cR, fun k q hk => by simp at hk, fun i hi => ?_⟩, chg_set⟩
  rw [fill9_at, if_pos (by omega)]
  rfl
theorem lay9_at (cf : Nat → Int32) (u : Int32) (p s i : Nat) : ∀ n, lay9 cf u p s n i = if ∃ j, j < n ∧ i = p + j * s then u else cf i := by
  intro n
  induction n with
  | zero => rw [if_neg (by rintro ⟨j, hj, -⟩; omega)]; rfl
  | succ n ih =>
    show (if i = p + n * s then u else lay9 cf u p s n i) = _
    by_cases h1 : i = p + n * s
    · rw [if_pos h1, if_pos ⟨n, by omega, h1⟩]
    · rw [if_neg h1, ih]
      by_cases h2 : ∃ j, j < n ∧ i = p + j * s
      · obtain ⟨j, hj, hi⟩ := h2
        rw [if_pos ⟨j, hj, hi⟩, if_pos ⟨j, by omega, hi⟩]
      · rw [if_neg h2, if_neg]
        rintro ⟨j, hj, hi⟩
        by_cases h3 : j = n
        · rw [h3] at hi; exact h1 hi
        · exact h2 ⟨j, by omega, hi⟩
theorem R_put (hg : wfg g) {u p : Nat} (W : wfR g len (L ++ [(u, p)])) (H : repR g h r len L) : ∃ h', f_X2_put h r (nI u) (nI p) (nI (g u)) = some (nI (stp9 len p (g u)), h') ∧ repR g h' r len (L ++ [(u, p)]) ∧ chg r h h' := by
  obtain ⟨cf, off, A1, A2, A3⟩ := H
  have hgu := hg u
  have h8 := W.le8
  rw [List.length_append] at h8
  have h8' : L.length + 1 ≤ 8 := h8
  have hm : (u, p) ∈ L ++ [(u, p)] := List.mem_append_right _ (List.mem_singleton_self _)
  obtain ⟨q1, q2, q3⟩ := W.2.2.1 _ hm
  have e := X2_put (h := h) (r := r) (len := len) (cnt := L.length) (cf := cf) (off := off) (p := p) (g := g u) (nI u) W.1.2 (by omega) q2 (by omega) (by omega)
  rw [setR_eq A1] at e
  refine ⟨_, e, ⟨lay9 cf (nI u) p (g u) (stp9 len p (g u)), upd off L.length (nI u), ?_, fun k q hk => ?_, fun i hi => ?_⟩, chg_set⟩
  · rw [List.length_append]
    exact setR_cR
  · show (if k = L.length then nI u else off k) = _
    rcases Nat.lt_trichotomy k L.length with h1 | h1 | h1
    · rw [if_neg (by omega)]
      rw [List.getElem?_append_left h1] at hk
      exact A2 k q hk
    · rw [if_pos h1]
      subst h1
      rw [List.getElem?_append_right (Nat.le_refl _), Nat.sub_self] at hk
      cases hk
      rfl
    · rw [List.getElem?_eq_none (by rw [List.length_append]; exact h1)] at hk
      cases hk
  · rw [lay9_at]
    by_cases ht : tkb g (u, p) i = true
    · rw [W.col_of hm hi ht]
      obtain ⟨j, hj⟩ := tkb_iff.mp ht
      have hj2 : i = p + j * g u := hj
      rw [if_pos ⟨j, (stp9_lt (by omega)).mpr (by omega), hj2⟩]
      rfl
    · rw [if_neg (fun ⟨j, _, hj⟩ => ht (tkb_iff.mpr ⟨j, hj⟩)), A3 i hi]
      congr 1
      unfold col
      rw [List.find?_append]
      have h9 : [(u, p)].find? (fun q => tkb g q i) = none := by
        rw [List.find?_eq_none]
        intro q hq
        rw [List.mem_singleton.mp hq]
        exact ht
      rw [h9, Option.or_none]
theorem erase_filter {L : List (Nat × Nat)} (hn : (L.map Prod.fst).Nodup) {u p : Nat} : ∀ {k : Nat}, L[k]? = some (u, p) → L.eraseIdx k = L.filter (fun q => decide (¬ q.1 = u)) := by
  induction L with
  | nil => intro k hk; simp at hk
  | cons a L ih =>
    rw [List.map_cons, List.nodup_cons] at hn
    intro k hk
    cases k with
    | zero =>
      rw [List.getElem?_cons_zero] at hk
      cases hk
      show L = List.filter _ _
      rw [List.filter_cons_of_neg (by simp)]
      refine (List.filter_eq_self.mpr (fun q hq => ?_)).symm
      have : ¬ q.1 = u := fun e => hn.1 (List.mem_map.mpr ⟨q, hq, e⟩)
      simp [this]
    | succ k =>
      rw [List.getElem?_cons_succ] at hk
      have h1 : ¬ a.1 = u := fun e => hn.1 (List.mem_map.mpr ⟨(u, p), List.mem_of_getElem? hk, e.symm⟩)
      rw [List.eraseIdx_cons_succ, ih hn.2 hk, List.filter_cons_of_pos (by simp [h1])]
theorem R_remove (hg : wfg g) (W : wfR g len L) (H : repR g h r len L) {u p : Nat} (hq : (u, p) ∈ L) : ∃ h', f_X2_remove h r (nI u) = some (nI (stp9 len p (g u)), h') ∧ repR g h' r len (L.filter (fun q => decide (¬ q.1 = u))) ∧ chg r h h' := by
  have H0 := H
  obtain ⟨cf, off, A1, A2, A3⟩ := H
  have hu := (W.2.2.1 _ hq).1
  cases h1 : ixo L u with
  | none => exact absurd (phs_of W.2.1 hq) (by rw [ixo_none.mp h1]; simp)
  | some k =>
    obtain ⟨p', h2⟩ := ixo_some h1
    have h3 : (u, p') = (u, p) := nodup_fst W.2.1 _ (List.mem_of_getElem? h2) _ hq rfl
    rw [h3] at h2
    obtain ⟨hk, -⟩ := List.getElem?_eq_some_iff.mp h2
    have e := X2_remove (h := h) (r := r) (len := len) (cnt := L.length) (cf := cf) (off := off) W.1.2 W.le8 ((ixo_eq W A2 (by omega)).trans h1)
    rw [setR_eq A1] at e
    have e2 := Option.some.inj ((X2_placesOf A1 W.1.2 (nI u)).symm.trans (R_placesOf hg W H0 hq))
    rw [e2] at e
    refine ⟨_, e, ⟨clrC cf (nI u) len, shlC off k (L.length - 1), ?_, fun j q hj => ?_, fun i hi => ?_⟩, chg_set⟩
    · rw [← erase_filter W.2.1 h2, List.length_eraseIdx, if_pos hk]
      exact setR_cR
    · rw [← erase_filter W.2.1 h2, List.getElem?_eraseIdx] at hj
      show (if _ then _ else _) = _
      by_cases h5 : j < k
      · rw [if_pos h5] at hj
        rw [if_neg (by omega)]
        exact A2 j q hj
      · rw [if_neg h5] at hj
        have h6 := (List.getElem?_eq_some_iff.mp hj).1
        rw [if_pos (by omega)]
        exact A2 _ q hj
    · show (if _ then _ else _) = _
      have h6 := W.col_iff hq hi
      have h7 := oI_inj (x := col g L i) (y := some u) (fun n hn => by have := col_lt W hn; omega) (fun n hn => by cases hn; omega)
      rw [A3 i hi]
      by_cases ht : tkb g (u, p) i = true
      · have h8 := W.col_of hq hi ht
        rw [if_pos ⟨hi, h7.mpr h8⟩]
        have h9 : col g (L.filter (fun q => decide (¬ q.1 = u))) i = none := by
          rw [col_none]
          intro q hq2
          obtain ⟨m1, m2⟩ := List.mem_filter.mp hq2
          cases h10 : tkb g q i with
          | false => rfl
          | true =>
            rw [W.2.2.2 q m1 _ hq i hi h10 ht] at m2
            simp at m2
        rw [h9]
        rfl
      · rw [if_neg (fun q9 => ht (h6.mp (h7.mp q9.2)))]
        congr 1
        cases h10 : col g L i with
        | none =>
          symm
          rw [col_none]
          intro q hq2
          exact col_none.mp h10 q (List.mem_filter.mp hq2).1
        | some v =>
          obtain ⟨pv, m1, m2⟩ := col_mem h10
          have hv : ¬ v = u := fun e9 => ht (h6.mp (by rw [h10, e9]))
          symm
          exact (W.sub List.filter_sublist).col_of (q := (v, pv)) (List.mem_filter.mpr ⟨m1, by simp [hv]⟩) hi m2
theorem R_remove_n (W : wfR g len L) (H : repR g h r len L) {u : Nat} (hu : u < 2 ^ 31) (hq : phs L u = none) : f_X2_remove h r (nI u) = some (0, h) := by
  obtain ⟨cf, off, A1, A2, A3⟩ := H
  have e := X2_remove_n (h := h) (r := r) (len := len) (cnt := L.length) (cf := cf) (off := off) W.le8 ((ixo_eq W A2 hu).trans (ixo_none.mpr hq))
  rw [setR_eq A1] at e
  exact e
theorem R_copyFrom {r2 : Nat} (J : jR h r) (W : wfR g len L) (H : repR g h r2 len L) (hd : r2 + 3 ≤ r ∨ r + 3 ≤ r2) : ∃ h', f_X2_copyFrom h r r2 = some h' ∧ repR g h' r len L ∧ chg r h h' := by
  obtain ⟨l0, c0, cf0, off0, A0⟩ := J
  obtain ⟨cf, off, A1, A2, A3⟩ := H
  have e := X2_copyFrom (h := h) (r := r) (len := l0) (cnt := c0) (cf := cf0) (off := off0) A1 hd
  rw [setR_eq A0] at e
  refine ⟨_, e, ⟨_, _, setR_cR, fun k q hk => ?_, fun i hi => ?_⟩, chg_set⟩
  · have h1 := (List.getElem?_eq_some_iff.mp hk).1
    have h2 := W.le8
    rw [fill9_at, if_pos (by omega)]
    exact A2 k q hk
  · have h2 := W.1.2
    rw [fill9_at, if_pos (by omega)]
    exact A3 i hi
end RopeOps2
end
section
/-! PURE READING, 7: the class's State -/
def cSt (h : PH) (s n : Nat) (c1 c2 c3 : Int32) (gf : Nat → Int32) (rf : Nat → Option Nat) : Prop := h s = some (.inr (.inr (2, [.ref (s + 1), .ref (s + 2), .int (nI n), .int c1, .int c2, .int c3]))) ∧ h (s + 1) = some (.inl (8, gf)) ∧ h (s + 2) = some (.inr (.inl (0, 4, rf)))
section StateCells
variable {h : PH} {s n : Nat} {c1 c2 c3 : Int32} {gf : Nat → Int32} {rf : Nat → Option Nat}
theorem cSt.ok (H : cSt h s n c1 c2 c3 gf rf) : okO h s 2 = true := okO_of H.1
theorem cSt.r0 (H : cSt h s n c1 c2 c3 gf rf) : rdR h s 2 0 = some (s + 1) := rdR_of H.1 rfl
theorem cSt.r1 (H : cSt h s n c1 c2 c3 gf rf) : rdR h s 2 1 = some (s + 2) := rdR_of H.1 rfl
theorem cSt.r2 (H : cSt h s n c1 c2 c3 gf rf) : rdI h s 2 2 = some (nI n) := rdI_of H.1 rfl
theorem cSt.r3 (H : cSt h s n c1 c2 c3 gf rf) : rdI h s 2 3 = some c1 := rdI_of H.1 rfl
theorem cSt.r4 (H : cSt h s n c1 c2 c3 gf rf) : rdI h s 2 4 = some c2 := rdI_of H.1 rfl
theorem cSt.r5 (H : cSt h s n c1 c2 c3 gf rf) : rdI h s 2 5 = some c3 := rdI_of H.1 rfl
theorem cSt.n0 (H : cSt h s n c1 c2 c3 gf rf) : lnA h (s + 1) = some (nI 8) := lnA_I H.2.1
theorem cSt.n1 (H : cSt h s n c1 c2 c3 gf rf) : lnA h (s + 2) = some (nI 4) := lnA_Q H.2.2
theorem X3_gapAt (H : cSt h s n c1 c2 c3 gf rf) {u : Nat} (hu : u < 8) : f_X3_gapAt h s (nI u) = some (gf u) := by
  have e1 : ¬ nI u < 0 := nI_pos (by omega)
  have e2 : ¬ nI 8 ≤ nI u := nI_ge hu (by omega)
  simp only [f_X3_gapAt, f_X3_gapAt_J23, H.ok, H.r0, H.n0, if_true, Option.bind_some, if_neg e1, if_neg e2, ldI_of H.2.1 hu (by omega)]
theorem X3_ropeCount (H : cSt h s n c1 c2 c3 gf rf) : f_X3_ropeCount h s = some (nI n) := by
  simp only [f_X3_ropeCount, H.ok, H.r2, if_true, Option.bind_some]
theorem X3_layings (H : cSt h s n c1 c2 c3 gf rf) : f_X3_layings h s = some c1 := by
  simp only [f_X3_layings, H.ok, H.r3, if_true, Option.bind_some]
theorem X3_joins (H : cSt h s n c1 c2 c3 gf rf) : f_X3_joins h s = some c2 := by
  simp only [f_X3_joins, H.ok, H.r4, if_true, Option.bind_some]
theorem X3_cuts (H : cSt h s n c1 c2 c3 gf rf) : f_X3_cuts h s = some c3 := by
  simp only [f_X3_cuts, H.ok, H.r5, if_true, Option.bind_some]
theorem X3_ropeAt (H : cSt h s n c1 c2 c3 gf rf) (hn : n ≤ 4) {i : Nat} (hi : i < n) : f_X3_ropeAt h s (nI i) = some (rf i) := by
  have e1 : ¬ nI i < 0 := nI_pos (by omega)
  have e2 : ¬ nI n ≤ nI i := nI_ge hi (by omega)
  have e3 : ¬ nI 4 ≤ nI i := nI_ge (by omega) (by omega)
  simp only [f_X3_ropeAt, f_X3_ropeAt_J31, H.ok, H.r1, H.r2, H.n1, if_true, Option.bind_some, if_neg e1, if_neg e2, if_neg e3, ldQ_of H.2.2 (show i < 4 by omega) (by omega)]
theorem X3_ropeAt_no (H : cSt h s n c1 c2 c3 gf rf) {x : Int32} (hx : x < 0 ∨ nI n ≤ x) : f_X3_ropeAt h s x = some none := by
  simp only [f_X3_ropeAt, f_X3_ropeAt_J30, f_X3_ropeAt_J31, H.ok, H.r2, if_true, Option.bind_some]
  by_cases e1 : x < 0
  · rw [if_pos e1]
  · rw [if_neg e1, if_pos (hx.resolve_left e1)]
end StateCells
/-- the class's State at s: gaps, ropes, layings, joins, cuts -/
def repS (h : PH) (s : Nat) (g : Nat → Nat) (R : List (Nat × List (Nat × Nat))) (c1 c2 c3 : Int32) : Prop := ∃ (gf : Nat → Int32) (rf : Nat → Option Nat) (π : Nat → Nat), cSt h s R.length c1 c2 c3 gf rf ∧ (∀ u, u < 8 → gf u = nI (g u)) ∧ (∀ i, i < 4 → π i < 4 ∧ rf i = some (s + 3 + 3 * π i) ∧ jR h (s + 3 + 3 * i)) ∧ (∀ i j, i < 4 → j < 4 → π i = π j → i = j) ∧ ∀ i X, R[i]? = some X → repR g h (s + 3 + 3 * π i) X.1 X.2
def wfS (g : Nat → Nat) (R : List (Nat × List (Nat × Nat))) : Prop := wfg g ∧ R.length ≤ 4 ∧ ∀ X ∈ R, wfR g X.1 X.2
section StateOps
variable {h : PH} {s : Nat} {g : Nat → Nat} {R : List (Nat × List (Nat × Nat))} {c1 c2 c3 : Int32}
theorem S_gapAt (H : repS h s g R c1 c2 c3) {u : Nat} (hu : u < 8) : f_X3_gapAt h s (nI u) = some (nI (g u)) := by
  obtain ⟨gf, rf, π, H1, H2, -⟩ := H
  rw [X3_gapAt H1 hu, H2 u hu]
theorem S_ropeCount (H : repS h s g R c1 c2 c3) : f_X3_ropeCount h s = some (nI R.length) := by
  obtain ⟨gf, rf, π, H1, -⟩ := H
  exact X3_ropeCount H1
theorem S_layings (H : repS h s g R c1 c2 c3) : f_X3_layings h s = some c1 := by
  obtain ⟨gf, rf, π, H1, -⟩ := H
  exact X3_layings H1
theorem S_joins (H : repS h s g R c1 c2 c3) : f_X3_joins h s = some c2 := by
  obtain ⟨gf, rf, π, H1, -⟩ := H
  exact X3_joins H1
theorem S_cuts (H : repS h s g R c1 c2 c3) : f_X3_cuts h s = some c3 := by
  obtain ⟨gf, rf, π, H1, -⟩ := H
  exact X3_cuts H1
theorem S_ropeAt (W : wfS g R) (H : repS h s g R c1 c2 c3) {i : Nat} {X : Nat × List (Nat × Nat)} (hi : R[i]? = some X) : ∃ r, f_X3_ropeAt h s (nI i) = some (some r) ∧ repR g h r X.1 X.2 ∧ s + 3 ≤ r ∧ r + 3 ≤ s + 15 := by
  obtain ⟨gf, rf, π, H1, -, H3, -, H5⟩ := H
  have hn := W.2.1
  have hi2 := (List.getElem?_eq_some_iff.mp hi).1
  obtain ⟨p1, p2, -⟩ := H3 i (by omega)
  exact ⟨_, (X3_ropeAt H1 hn hi2).trans (congrArg some p2), H5 i X hi, by omega, by omega⟩
theorem S_ropeAt_no (H : repS h s g R c1 c2 c3) {x : Int32} (hx : x < 0 ∨ nI R.length ≤ x) : f_X3_ropeAt h s x = some none := by
  obtain ⟨gf, rf, π, H1, -⟩ := H
  exact X3_ropeAt_no H1 hx
theorem S_okO (H : repS h s g R c1 c2 c3) : okO h s 2 = true := by
  obtain ⟨gf, rf, π, H1, -⟩ := H
  exact H1.ok
/-- a rope of the State written anew -/
theorem S_set (W : wfS g R) (H : repS h s g R c1 c2 c3) {i : Nat} {X : Nat × List (Nat × Nat)} (hi : R[i]? = some X) {r : Nat} (hr : f_X3_ropeAt h s (nI i) = some (some r)) {h' : PH} (hc : chg r h h') {len' : Nat} {L' : List (Nat × Nat)} (H' : repR g h' r len' L') : repS h' s g (R.set i (len', L')) c1 c2 c3 := by
  obtain ⟨gf, rf, π, H1, H2, H3, H4, H5⟩ := H
  have hn := W.2.1
  have hi2 := (List.getElem?_eq_some_iff.mp hi).1
  obtain ⟨p1, p2, p3⟩ := H3 i (by omega)
  rw [X3_ropeAt H1 hn hi2, p2] at hr
  cases hr
  refine ⟨gf, rf, π, ?_, H2, fun j hj => ⟨(H3 j hj).1, (H3 j hj).2.1, ?_⟩, H4, fun j Y hj => ?_⟩
  · rw [List.length_set]
    exact ⟨(hc _ (by omega)).trans H1.1, (hc _ (by omega)).trans H1.2.1, (hc _ (by omega)).trans H1.2.2⟩
  · by_cases e : j = π i
    · subst e
      exact H'.j
    · exact ((H3 j hj).2.2).chg hc (by omega)
  · rw [List.getElem?_set] at hj
    by_cases e : i = j
    · subst e
      rw [if_pos rfl, if_pos hi2] at hj
      cases hj
      exact H'
    · rw [if_neg e] at hj
      have hj2 := (List.getElem?_eq_some_iff.mp hj).1
      have e2 : ¬ π j = π i := fun q => e (H4 j i (by omega) (by omega) q).symm
      exact (H5 j Y hj).chg hc (by omega)
/-- nothing between s and s + 15 changed -/
def sameS (s : Nat) (h h' : PH) : Prop := ∀ b, s ≤ b → b < s + 15 → h' b = h b
theorem repR.same {r len : Nat} {L : List (Nat × Nat)} {h' : PH} (H : repR g h r len L) (h1 : sameS s h h') (h2 : s ≤ r) (h3 : r + 3 ≤ s + 15) : repR g h' r len L := by
  obtain ⟨cf, off, A1, A2, A3⟩ := H
  exact ⟨cf, off, ⟨(h1 _ (by omega) (by omega)).trans A1.1, (h1 _ (by omega) (by omega)).trans A1.2.1, (h1 _ (by omega) (by omega)).trans A1.2.2⟩, A2, A3⟩
theorem jR.same {r : Nat} {h' : PH} (H : jR h r) (h1 : sameS s h h') (h2 : s ≤ r) (h3 : r + 3 ≤ s + 15) : jR h' r := by
  obtain ⟨l, c, cf, off, A1⟩ := H
  exact ⟨l, c, cf, off, (h1 _ (by omega) (by omega)).trans A1.1, (h1 _ (by omega) (by omega)).trans A1.2.1, (h1 _ (by omega) (by omega)).trans A1.2.2⟩
theorem repS.same {h' : PH} (W : R.length ≤ 4) (H : repS h s g R c1 c2 c3) (h1 : sameS s h h') : repS h' s g R c1 c2 c3 := by
  obtain ⟨gf, rf, π, H1, H2, H3, H4, H5⟩ := H
  refine ⟨gf, rf, π, ⟨(h1 _ (by omega) (by omega)).trans H1.1, (h1 _ (by omega) (by omega)).trans H1.2.1, (h1 _ (by omega) (by omega)).trans H1.2.2⟩, H2, fun j hj => ⟨(H3 j hj).1, (H3 j hj).2.1, ((H3 j hj).2.2).same h1 (by omega) (by omega)⟩, H4, fun j Y hj => ?_⟩
  have hj2 := (List.getElem?_eq_some_iff.mp hj).1
  have := (H3 j (by omega)).1
  exact (H5 j Y hj).same h1 (by omega) (by omega)
/-- sums over the ropes -/
def sum9 (f : Nat → Nat) : Nat → Nat
  | 0 => 0
  | n + 1 => sum9 f n + f n
def lenAt (R : List (Nat × List (Nat × Nat))) (i : Nat) : Nat := match R[i]? with
  | some X => X.1
  | none => 0
def holA (g : Nat → Nat) (R : List (Nat × List (Nat × Nat))) (i : Nat) : Nat := match R[i]? with
  | some X => cnt9 (fun p => decide (col g X.2 p = none)) X.1
  | none => 0
def laidA (R : List (Nat × List (Nat × Nat))) (u i : Nat) : Bool := match R[i]? with
  | some X => (phs X.2 u).isSome
  | none => false
theorem S_places (W : wfS g R) (H : repS h s g R c1 c2 c3) : f_X3_places h s = some (nI (sum9 (lenAt R) R.length)) := by
  have H0 := H
  obtain ⟨gf, rf, π, H1, -⟩ := H
  have hn := W.2.1
  have hb : ∀ j, 0 ≤ j → j < 0 + R.length → f_X3_places_L4 h s ((fun j => (nI (sum9 (lenAt R) j), nI j)) j) = some (.inl ((fun j => (nI (sum9 (lenAt R) j), nI j)) (j + 1))) := by
    intro j _ hj
    have hj2 : j < R.length := by omega
    have e2 : ¬ nI R.length ≤ nI j := nI_ge hj2 (by omega)
    obtain ⟨r, f1, f2, -⟩ := S_ropeAt W H0 (List.getElem?_eq_getElem hj2)
    have e3 : lenAt R j = R[j].1 := by
      unfold lenAt
      rw [List.getElem?_eq_getElem hj2]
    simp only [f_X3_places_L4, f_X3_places_J31, H1.r2, Option.bind_some, if_neg e2, f1, R_length f2, nI_1, nI_add, sum9, e3]
  have he : f_X3_places_L4 h s ((fun j => (nI (sum9 (lenAt R) j), nI j)) (0 + R.length)) = some (.inr (nI (sum9 (lenAt R) R.length))) := by
    have e2 : nI R.length ≤ nI R.length := nI_le (Nat.le_refl _) (by omega)
    simp only [Nat.zero_add, f_X3_places_L4, H1.r2, Option.bind_some, if_pos e2]
  have hw := lpn_run (fun j => (nI (sum9 (lenAt R) j), nI j)) _ R.length 0 LF hb he (by unfold LF; omega)
  have hw0 : lpn (f_X3_places_L4 h s) LF (0, 0) = _ := hw
  simp only [f_X3_places, f_X3_places_J39, H1.ok, if_true, hw0, Option.bind_some]
theorem S_holes (W : wfS g R) (H : repS h s g R c1 c2 c3) : f_X3_holes h s = some (nI (sum9 (holA g R) R.length)) := by
  have H0 := H
  obtain ⟨gf, rf, π, H1, -⟩ := H
  have hn := W.2.1
  have hb : ∀ j, 0 ≤ j → j < 0 + R.length → f_X3_holes_L4 h s ((fun j => (nI (sum9 (holA g R) j), nI j)) j) = some (.inl ((fun j => (nI (sum9 (holA g R) j), nI j)) (j + 1))) := by
    intro j _ hj
    have hj2 : j < R.length := by omega
    have e2 : ¬ nI R.length ≤ nI j := nI_ge hj2 (by omega)
    obtain ⟨r, f1, f2, -⟩ := S_ropeAt W H0 (List.getElem?_eq_getElem hj2)
    have W1 := W.2.2 _ (List.getElem_mem hj2)
    have e3 : holA g R j = cnt9 (fun p => decide (col g R[j].2 p = none)) R[j].1 := by
      unfold holA
      rw [List.getElem?_eq_getElem hj2]
    simp only [f_X3_holes_L4, f_X3_holes_J32, H1.r2, Option.bind_some, if_neg e2, f1, R_holes W1 f2, nI_1, nI_add, sum9, e3]
  have he : f_X3_holes_L4 h s ((fun j => (nI (sum9 (holA g R) j), nI j)) (0 + R.length)) = some (.inr (nI (sum9 (holA g R) R.length))) := by
    have e2 : nI R.length ≤ nI R.length := nI_le (Nat.le_refl _) (by omega)
    simp only [Nat.zero_add, f_X3_holes_L4, H1.r2, Option.bind_some, if_pos e2]
  have hw := lpn_run (fun j => (nI (sum9 (holA g R) j), nI j)) _ R.length 0 LF hb he (by unfold LF; omega)
  have hw0 : lpn (f_X3_holes_L4 h s) LF (0, 0) = _ := hw
  simp only [f_X3_holes, f_X3_holes_J40, H1.ok, if_true, hw0, Option.bind_some]
theorem ixo_m1 {L : List (Nat × Nat)} {len u : Nat} (W : wfR g len L) : (oI (ixo L u) = -1) ↔ (phs L u).isSome = false := by
  have h8 := W.le8
  rw [oI_m1 (fun n hn => by have := (fst9_some hn).2.1; omega), ixo_none]
  cases phs L u <;> simp
/-- is a hue laid on some rope -/
def anyA (R : List (Nat × List (Nat × Nat))) (u : Nat) : Bool := (fst9 (laidA R u) 0 R.length).isSome
def bI (b : Bool) : Int32 := if b = true then 1 else 0
theorem S_isLaidOnSome (W : wfS g R) (H : repS h s g R c1 c2 c3) {u : Nat} (hu : u < 8) : f_X3_isLaidOnSome h s (nI u) = some (bI (anyA R u)) := by
  have H0 := H
  obtain ⟨gf, rf, π, H1, -⟩ := H
  have hn := W.2.1
  have hb : ∀ j, 0 ≤ j → j < 0 + R.length → f_X3_isLaidOnSome_L2 h s (nI u) (nI j) = some (if laidA R u j = true then .inr ((fun _ => (.inr () : Unit ⊕ Unit)) j) else .inl (nI (j + 1))) := by
    intro j _ hj
    have hj2 : j < R.length := by omega
    have e2 : ¬ nI R.length ≤ nI j := nI_ge hj2 (by omega)
    obtain ⟨r, f1, f2, -⟩ := S_ropeAt W H0 (List.getElem?_eq_getElem hj2)
    have W1 := W.2.2 _ (List.getElem_mem hj2)
    have e3 : laidA R u j = (phs R[j].2 u).isSome := by
      unfold laidA
      rw [List.getElem?_eq_getElem hj2]
    have e4 := ixo_m1 (u := u) W1
    simp only [f_X3_isLaidOnSome_L2, f_X3_isLaidOnSome_J31, H1.r2, Option.bind_some, if_neg e2, f1, R_orderOf W1 f2 (show u < 2 ^ 31 by omega), e3, e4, nI_1]
    cases (phs R[j].2 u).isSome <;> rfl
  have he : f_X3_isLaidOnSome_L2 h s (nI u) (nI (0 + R.length)) = some (.inr (.inl ())) := by
    have e2 : nI R.length ≤ nI R.length := nI_le (Nat.le_refl _) (by omega)
    simp only [Nat.zero_add, f_X3_isLaidOnSome_L2, H1.r2, Option.bind_some, if_pos e2]
  have hw := lpn_find (fun j => nI j) (laidA R u) (fun _ => (.inr () : Unit ⊕ Unit)) (.inl ()) R.length 0 LF hb he (by unfold LF; omega)
  have hw0 : lpn (f_X3_isLaidOnSome_L2 h s (nI u)) LF 0 = _ := hw
  unfold anyA bI
  cases hf : fst9 (laidA R u) 0 R.length with
  | none =>
    rw [hf] at hw0
    simp only [f_X3_isLaidOnSome, H1.ok, if_true, hw0, Option.bind_some]
    rfl
  | some j =>
    rw [hf] at hw0
    simp only [f_X3_isLaidOnSome, H1.ok, if_true, hw0, Option.bind_some]
    rfl
theorem S_laidHues (W : wfS g R) (H : repS h s g R c1 c2 c3) : f_X3_laidHues h s = some (nI (cnt9 (anyA R) 8)) := by
  have hb : ∀ j, 0 ≤ j → j < 0 + 8 → f_X3_laidHues_L4 h s ((fun j => (nI (cnt9 (anyA R) j), nI j)) j) = some (.inl ((fun j => (nI (cnt9 (anyA R) j), nI j)) (j + 1))) := by
    intro j _ hj
    have e2 : ¬ (8 : Int32) ≤ nI j := nI_ge (b := 8) (by omega) (by omega)
    simp only [f_X3_laidHues_L4, f_X3_laidHues_J21, if_neg e2, S_isLaidOnSome W H (show j < 8 by omega), Option.bind_some, cnt9, bI]
    cases anyA R j
    · simp [nI_1]
    · simp [nI_1]
  have he : f_X3_laidHues_L4 h s ((fun j => (nI (cnt9 (anyA R) j), nI j)) (0 + 8)) = some (.inr (nI (cnt9 (anyA R) 8))) := by
    have e2 : (8 : Int32) ≤ nI 8 := nI_le (a := 8) (Nat.le_refl _) (by omega)
    simp only [Nat.zero_add, f_X3_laidHues_L4, if_pos e2]
  have hw := lpn_run (fun j => (nI (cnt9 (anyA R) j), nI j)) _ 8 0 LF hb he (by unfold LF; omega)
  have hw0 : lpn (f_X3_laidHues_L4 h s) LF (0, 0) = _ := hw
  simp only [f_X3_laidHues, f_X3_laidHues_J27, S_okO H, if_true, hw0, Option.bind_some]
end StateOps
end
