-- ===== PART A: goes FIRST, ahead of the names: the tables' words, and 'selects' of the private methods out of them =====
/-- a private method of a class that the tables say can be made, by its rows of tables_1 -/
def lw_okq (q : MethodName × Nat) : Prop := (q.1.cls ≠ "java/lang/invoke/MethodHandle" ∧ q.1.cls ≠ "java/lang/invoke/VarHandle") ∧ Cond.instantiable q.1.cls q.2 ∈ tables_1 ∧ Cond.privateMethod q.1 ∈ tables_1 ∧ Cond.instanceMethod q.1 ∈ tables_1
theorem lw_p0 : lw_okq (⟨"SpilledGroups", "beginChange", "()V"⟩, 5) := ⟨⟨by decide +kernel, by decide +kernel⟩, List.mem_of_getElem? (i := 13) (by decide +kernel), List.mem_of_getElem? (i := 220) (by decide +kernel), List.mem_of_getElem? (i := 221) (by decide +kernel)⟩
theorem lw_p1 : lw_okq (⟨"SpilledGroups$History", "stateAt", "(I)LSpilledGroups$State;"⟩, 3) := ⟨⟨by decide +kernel, by decide +kernel⟩, List.mem_of_getElem? (i := 71) (by decide +kernel), List.mem_of_getElem? (i := 228) (by decide +kernel), List.mem_of_getElem? (i := 229) (by decide +kernel)⟩
theorem lw_p2 : lw_okq (⟨"SpilledGroups", "firstPart", "(I)I"⟩, 5) := ⟨⟨by decide +kernel, by decide +kernel⟩, List.mem_of_getElem? (i := 13) (by decide +kernel), List.mem_of_getElem? (i := 305) (by decide +kernel), List.mem_of_getElem? (i := 306) (by decide +kernel)⟩
theorem lw_p3 : lw_okq (⟨"SpilledGroups", "groupsNow", "()LSpilledGroups$Groups;"⟩, 5) := ⟨⟨by decide +kernel, by decide +kernel⟩, List.mem_of_getElem? (i := 13) (by decide +kernel), List.mem_of_getElem? (i := 313) (by decide +kernel), List.mem_of_getElem? (i := 314) (by decide +kernel)⟩
theorem lw_p4 : lw_okq (⟨"SpilledGroups$Groups", "addRow", "(III)V"⟩, 2) := ⟨⟨by decide +kernel, by decide +kernel⟩, List.mem_of_getElem? (i := 96) (by decide +kernel), List.mem_of_getElem? (i := 326) (by decide +kernel), List.mem_of_getElem? (i := 327) (by decide +kernel)⟩
theorem lw_p5 : lw_okq (⟨"SpilledGroups", "passesNow", "()LSpilledGroups$Passes;"⟩, 5) := ⟨⟨by decide +kernel, by decide +kernel⟩, List.mem_of_getElem? (i := 13) (by decide +kernel), List.mem_of_getElem? (i := 354) (by decide +kernel), List.mem_of_getElem? (i := 355) (by decide +kernel)⟩
theorem lw_p6 : lw_okq (⟨"SpilledGroups$Passes", "runPass", "(III)V"⟩, 12) := ⟨⟨by decide +kernel, by decide +kernel⟩, List.mem_of_getElem? (i := 90) (by decide +kernel), List.mem_of_getElem? (i := 370) (by decide +kernel), List.mem_of_getElem? (i := 371) (by decide +kernel)⟩
theorem lw_p7 : lw_okq (⟨"SpilledGroups$Passes", "prefixOf", "(II)I"⟩, 12) := ⟨⟨by decide +kernel, by decide +kernel⟩, List.mem_of_getElem? (i := 90) (by decide +kernel), List.mem_of_getElem? (i := 377) (by decide +kernel), List.mem_of_getElem? (i := 378) (by decide +kernel)⟩
theorem lw_p8 : lw_okq (⟨"SpilledGroups$Passes", "needsSpill", "(III)Z"⟩, 12) := ⟨⟨by decide +kernel, by decide +kernel⟩, List.mem_of_getElem? (i := 90) (by decide +kernel), List.mem_of_getElem? (i := 381) (by decide +kernel), List.mem_of_getElem? (i := 382) (by decide +kernel)⟩
theorem lw_p9 : lw_okq (⟨"SpilledGroups$Passes", "partOf", "(II)I"⟩, 12) := ⟨⟨by decide +kernel, by decide +kernel⟩, List.mem_of_getElem? (i := 90) (by decide +kernel), List.mem_of_getElem? (i := 385) (by decide +kernel), List.mem_of_getElem? (i := 386) (by decide +kernel)⟩
theorem lw_p10 : lw_okq (⟨"SpilledGroups$Passes", "isSpilled", "(II)Z"⟩, 12) := ⟨⟨by decide +kernel, by decide +kernel⟩, List.mem_of_getElem? (i := 90) (by decide +kernel), List.mem_of_getElem? (i := 389) (by decide +kernel), List.mem_of_getElem? (i := 390) (by decide +kernel)⟩
theorem lw_p11 : lw_okq (⟨"SpilledGroups$Passes", "isHeld", "(I)Z"⟩, 12) := ⟨⟨by decide +kernel, by decide +kernel⟩, List.mem_of_getElem? (i := 90) (by decide +kernel), List.mem_of_getElem? (i := 393) (by decide +kernel), List.mem_of_getElem? (i := 394) (by decide +kernel)⟩
theorem lw_p12 : lw_okq (⟨"SpilledGroups$Passes", "fullestPart", "()I"⟩, 12) := ⟨⟨by decide +kernel, by decide +kernel⟩, List.mem_of_getElem? (i := 90) (by decide +kernel), List.mem_of_getElem? (i := 398) (by decide +kernel), List.mem_of_getElem? (i := 399) (by decide +kernel)⟩
theorem lw_p13 : lw_okq (⟨"SpilledGroups$Passes", "spillPart", "(II)V"⟩, 12) := ⟨⟨by decide +kernel, by decide +kernel⟩, List.mem_of_getElem? (i := 90) (by decide +kernel), List.mem_of_getElem? (i := 402) (by decide +kernel), List.mem_of_getElem? (i := 403) (by decide +kernel)⟩
theorem lw_p14 : lw_okq (⟨"SpilledGroups$Passes", "takeItem", "(III)V"⟩, 12) := ⟨⟨by decide +kernel, by decide +kernel⟩, List.mem_of_getElem? (i := 90) (by decide +kernel), List.mem_of_getElem? (i := 407) (by decide +kernel), List.mem_of_getElem? (i := 408) (by decide +kernel)⟩
theorem lw_p15 : lw_okq (⟨"SpilledGroups$Passes", "layGroup", "(III)V"⟩, 12) := ⟨⟨by decide +kernel, by decide +kernel⟩, List.mem_of_getElem? (i := 90) (by decide +kernel), List.mem_of_getElem? (i := 411) (by decide +kernel), List.mem_of_getElem? (i := 412) (by decide +kernel)⟩
def lw_privs_1 : List (MethodName × Nat) := [(⟨"SpilledGroups", "beginChange", "()V"⟩, 5), (⟨"SpilledGroups$History", "stateAt", "(I)LSpilledGroups$State;"⟩, 3), (⟨"SpilledGroups", "firstPart", "(I)I"⟩, 5), (⟨"SpilledGroups", "groupsNow", "()LSpilledGroups$Groups;"⟩, 5), (⟨"SpilledGroups$Groups", "addRow", "(III)V"⟩, 2), (⟨"SpilledGroups", "passesNow", "()LSpilledGroups$Passes;"⟩, 5), (⟨"SpilledGroups$Passes", "runPass", "(III)V"⟩, 12), (⟨"SpilledGroups$Passes", "prefixOf", "(II)I"⟩, 12), (⟨"SpilledGroups$Passes", "needsSpill", "(III)Z"⟩, 12), (⟨"SpilledGroups$Passes", "partOf", "(II)I"⟩, 12), (⟨"SpilledGroups$Passes", "isSpilled", "(II)Z"⟩, 12), (⟨"SpilledGroups$Passes", "isHeld", "(I)Z"⟩, 12), (⟨"SpilledGroups$Passes", "fullestPart", "()I"⟩, 12), (⟨"SpilledGroups$Passes", "spillPart", "(II)V"⟩, 12), (⟨"SpilledGroups$Passes", "takeItem", "(III)V"⟩, 12), (⟨"SpilledGroups$Passes", "layGroup", "(III)V"⟩, 12)]
theorem lw_r1 : ∀ q ∈ lw_privs_1, lw_okq q := List.forall_mem_cons.mpr ⟨lw_p0, List.forall_mem_cons.mpr ⟨lw_p1, List.forall_mem_cons.mpr ⟨lw_p2, List.forall_mem_cons.mpr ⟨lw_p3, List.forall_mem_cons.mpr ⟨lw_p4, List.forall_mem_cons.mpr ⟨lw_p5, List.forall_mem_cons.mpr ⟨lw_p6, List.forall_mem_cons.mpr ⟨lw_p7, List.forall_mem_cons.mpr ⟨lw_p8, List.forall_mem_cons.mpr ⟨lw_p9, List.forall_mem_cons.mpr ⟨lw_p10, List.forall_mem_cons.mpr ⟨lw_p11, List.forall_mem_cons.mpr ⟨lw_p12, List.forall_mem_cons.mpr ⟨lw_p13, List.forall_mem_cons.mpr ⟨lw_p14, List.forall_mem_cons.mpr ⟨lw_p15, fun _ h => absurd h List.not_mem_nil⟩⟩⟩⟩⟩⟩⟩⟩⟩⟩⟩⟩⟩⟩⟩⟩
theorem lw_p16 : lw_okq (⟨"SpilledGroups$Passes", "finishMemory", "(III)V"⟩, 12) := ⟨⟨by decide +kernel, by decide +kernel⟩, List.mem_of_getElem? (i := 90) (by decide +kernel), List.mem_of_getElem? (i := 417) (by decide +kernel), List.mem_of_getElem? (i := 418) (by decide +kernel)⟩
theorem lw_p17 : lw_okq (⟨"SpilledGroups$Passes", "runFiles", "(IIII)V"⟩, 12) := ⟨⟨by decide +kernel, by decide +kernel⟩, List.mem_of_getElem? (i := 90) (by decide +kernel), List.mem_of_getElem? (i := 421) (by decide +kernel), List.mem_of_getElem? (i := 422) (by decide +kernel)⟩
theorem lw_p18 : lw_okq (⟨"SpilledGroups", "passesBy", "(II)LSpilledGroups$Passes;"⟩, 5) := ⟨⟨by decide +kernel, by decide +kernel⟩, List.mem_of_getElem? (i := 13) (by decide +kernel), List.mem_of_getElem? (i := 466) (by decide +kernel), List.mem_of_getElem? (i := 467) (by decide +kernel)⟩
theorem lw_p19 : lw_okq (⟨"SpilledGroups", "rowsInPart", "(I)I"⟩, 5) := ⟨⟨by decide +kernel, by decide +kernel⟩, List.mem_of_getElem? (i := 13) (by decide +kernel), List.mem_of_getElem? (i := 483) (by decide +kernel), List.mem_of_getElem? (i := 484) (by decide +kernel)⟩
theorem lw_p20 : lw_okq (⟨"SpilledGroups", "groupsInPart", "(I)I"⟩, 5) := ⟨⟨by decide +kernel, by decide +kernel⟩, List.mem_of_getElem? (i := 13) (by decide +kernel), List.mem_of_getElem? (i := 487) (by decide +kernel), List.mem_of_getElem? (i := 488) (by decide +kernel)⟩
theorem lw_p21 : lw_okq (⟨"SpilledGroups$Text", "readRow", "()Z"⟩, 6) := ⟨⟨by decide +kernel, by decide +kernel⟩, List.mem_of_getElem? (i := 159) (by decide +kernel), List.mem_of_getElem? (i := 527) (by decide +kernel), List.mem_of_getElem? (i := 528) (by decide +kernel)⟩
theorem lw_p22 : lw_okq (⟨"SpilledGroups$Text", "readNumber", "(I)I"⟩, 6) := ⟨⟨by decide +kernel, by decide +kernel⟩, List.mem_of_getElem? (i := 159) (by decide +kernel), List.mem_of_getElem? (i := 531) (by decide +kernel), List.mem_of_getElem? (i := 532) (by decide +kernel)⟩
theorem lw_p23 : lw_okq (⟨"SpilledGroups$Text", "readSign", "(C)Z"⟩, 6) := ⟨⟨by decide +kernel, by decide +kernel⟩, List.mem_of_getElem? (i := 159) (by decide +kernel), List.mem_of_getElem? (i := 538) (by decide +kernel), List.mem_of_getElem? (i := 539) (by decide +kernel)⟩
theorem lw_p24 : lw_okq (⟨"SpilledGroupsModel", "record", "()V"⟩, 30) := ⟨⟨by decide +kernel, by decide +kernel⟩, List.mem_of_getElem? (i := 548) (by decide +kernel), List.mem_of_getElem? (i := 661) (by decide +kernel), List.mem_of_getElem? (i := 662) (by decide +kernel)⟩
theorem lw_p25 : lw_okq (⟨"SpilledGroupsModel", "adds", "(II)V"⟩, 30) := ⟨⟨by decide +kernel, by decide +kernel⟩, List.mem_of_getElem? (i := 548) (by decide +kernel), List.mem_of_getElem? (i := 665) (by decide +kernel), List.mem_of_getElem? (i := 666) (by decide +kernel)⟩
theorem lw_p26 : lw_okq (⟨"SpilledGroupsModel", "hashOf", "(I)I"⟩, 30) := ⟨⟨by decide +kernel, by decide +kernel⟩, List.mem_of_getElem? (i := 548) (by decide +kernel), List.mem_of_getElem? (i := 691) (by decide +kernel), List.mem_of_getElem? (i := 692) (by decide +kernel)⟩
theorem lw_p27 : lw_okq (⟨"SpilledGroupsModel", "partOf", "(III)I"⟩, 30) := ⟨⟨by decide +kernel, by decide +kernel⟩, List.mem_of_getElem? (i := 548) (by decide +kernel), List.mem_of_getElem? (i := 696) (by decide +kernel), List.mem_of_getElem? (i := 697) (by decide +kernel)⟩
theorem lw_p28 : lw_okq (⟨"SpilledGroupsModel", "runNow", "()V"⟩, 30) := ⟨⟨by decide +kernel, by decide +kernel⟩, List.mem_of_getElem? (i := 548) (by decide +kernel), List.mem_of_getElem? (i := 705) (by decide +kernel), List.mem_of_getElem? (i := 706) (by decide +kernel)⟩
theorem lw_p29 : lw_okq (⟨"SpilledGroupsModel", "run", "(II)V"⟩, 30) := ⟨⟨by decide +kernel, by decide +kernel⟩, List.mem_of_getElem? (i := 548) (by decide +kernel), List.mem_of_getElem? (i := 709) (by decide +kernel), List.mem_of_getElem? (i := 710) (by decide +kernel)⟩
theorem lw_p30 : lw_okq (⟨"SpilledGroupsModel", "makes", "(IIIII)I"⟩, 30) := ⟨⟨by decide +kernel, by decide +kernel⟩, List.mem_of_getElem? (i := 548) (by decide +kernel), List.mem_of_getElem? (i := 713) (by decide +kernel), List.mem_of_getElem? (i := 714) (by decide +kernel)⟩
theorem lw_p31 : lw_okq (⟨"SpilledGroupsModel", "doPass", "(III)V"⟩, 30) := ⟨⟨by decide +kernel, by decide +kernel⟩, List.mem_of_getElem? (i := 548) (by decide +kernel), List.mem_of_getElem? (i := 717) (by decide +kernel), List.mem_of_getElem? (i := 718) (by decide +kernel)⟩
def lw_privs_2 : List (MethodName × Nat) := [(⟨"SpilledGroups$Passes", "finishMemory", "(III)V"⟩, 12), (⟨"SpilledGroups$Passes", "runFiles", "(IIII)V"⟩, 12), (⟨"SpilledGroups", "passesBy", "(II)LSpilledGroups$Passes;"⟩, 5), (⟨"SpilledGroups", "rowsInPart", "(I)I"⟩, 5), (⟨"SpilledGroups", "groupsInPart", "(I)I"⟩, 5), (⟨"SpilledGroups$Text", "readRow", "()Z"⟩, 6), (⟨"SpilledGroups$Text", "readNumber", "(I)I"⟩, 6), (⟨"SpilledGroups$Text", "readSign", "(C)Z"⟩, 6), (⟨"SpilledGroupsModel", "record", "()V"⟩, 30), (⟨"SpilledGroupsModel", "adds", "(II)V"⟩, 30), (⟨"SpilledGroupsModel", "hashOf", "(I)I"⟩, 30), (⟨"SpilledGroupsModel", "partOf", "(III)I"⟩, 30), (⟨"SpilledGroupsModel", "runNow", "()V"⟩, 30), (⟨"SpilledGroupsModel", "run", "(II)V"⟩, 30), (⟨"SpilledGroupsModel", "makes", "(IIIII)I"⟩, 30), (⟨"SpilledGroupsModel", "doPass", "(III)V"⟩, 30)]
theorem lw_r2 : ∀ q ∈ lw_privs_2, lw_okq q := List.forall_mem_cons.mpr ⟨lw_p16, List.forall_mem_cons.mpr ⟨lw_p17, List.forall_mem_cons.mpr ⟨lw_p18, List.forall_mem_cons.mpr ⟨lw_p19, List.forall_mem_cons.mpr ⟨lw_p20, List.forall_mem_cons.mpr ⟨lw_p21, List.forall_mem_cons.mpr ⟨lw_p22, List.forall_mem_cons.mpr ⟨lw_p23, List.forall_mem_cons.mpr ⟨lw_p24, List.forall_mem_cons.mpr ⟨lw_p25, List.forall_mem_cons.mpr ⟨lw_p26, List.forall_mem_cons.mpr ⟨lw_p27, List.forall_mem_cons.mpr ⟨lw_p28, List.forall_mem_cons.mpr ⟨lw_p29, List.forall_mem_cons.mpr ⟨lw_p30, List.forall_mem_cons.mpr ⟨lw_p31, fun _ h => absurd h List.not_mem_nil⟩⟩⟩⟩⟩⟩⟩⟩⟩⟩⟩⟩⟩⟩⟩⟩
theorem lw_p32 : lw_okq (⟨"SpilledGroupsModel", "of", "(II)I"⟩, 30) := ⟨⟨by decide +kernel, by decide +kernel⟩, List.mem_of_getElem? (i := 548) (by decide +kernel), List.mem_of_getElem? (i := 721) (by decide +kernel), List.mem_of_getElem? (i := 722) (by decide +kernel)⟩
theorem lw_p33 : lw_okq (⟨"SpilledGroupsModel", "counts", "(I)V"⟩, 30) := ⟨⟨by decide +kernel, by decide +kernel⟩, List.mem_of_getElem? (i := 548) (by decide +kernel), List.mem_of_getElem? (i := 725) (by decide +kernel), List.mem_of_getElem? (i := 726) (by decide +kernel)⟩
theorem lw_p34 : lw_okq (⟨"SpilledGroupsModel", "takes", "(I)Z"⟩, 30) := ⟨⟨by decide +kernel, by decide +kernel⟩, List.mem_of_getElem? (i := 548) (by decide +kernel), List.mem_of_getElem? (i := 729) (by decide +kernel), List.mem_of_getElem? (i := 730) (by decide +kernel)⟩
theorem lw_p35 : lw_okq (⟨"SpilledGroupsModel", "last", "(I)I"⟩, 30) := ⟨⟨by decide +kernel, by decide +kernel⟩, List.mem_of_getElem? (i := 548) (by decide +kernel), List.mem_of_getElem? (i := 733) (by decide +kernel), List.mem_of_getElem? (i := 734) (by decide +kernel)⟩
theorem lw_p36 : lw_okq (⟨"SpilledGroupsModel", "writes", "(II)V"⟩, 30) := ⟨⟨by decide +kernel, by decide +kernel⟩, List.mem_of_getElem? (i := 548) (by decide +kernel), List.mem_of_getElem? (i := 737) (by decide +kernel), List.mem_of_getElem? (i := 738) (by decide +kernel)⟩
theorem lw_p37 : lw_okq (⟨"SpilledGroupsModel", "inMemory", "(I)I"⟩, 30) := ⟨⟨by decide +kernel, by decide +kernel⟩, List.mem_of_getElem? (i := 548) (by decide +kernel), List.mem_of_getElem? (i := 741) (by decide +kernel), List.mem_of_getElem? (i := 742) (by decide +kernel)⟩
theorem lw_p38 : lw_okq (⟨"SpilledGroupsModel", "addsTo", "(II)V"⟩, 30) := ⟨⟨by decide +kernel, by decide +kernel⟩, List.mem_of_getElem? (i := 548) (by decide +kernel), List.mem_of_getElem? (i := 745) (by decide +kernel), List.mem_of_getElem? (i := 746) (by decide +kernel)⟩
theorem lw_p39 : lw_okq (⟨"SpilledGroupsModel", "spillsOne", "()V"⟩, 30) := ⟨⟨by decide +kernel, by decide +kernel⟩, List.mem_of_getElem? (i := 548) (by decide +kernel), List.mem_of_getElem? (i := 749) (by decide +kernel), List.mem_of_getElem? (i := 750) (by decide +kernel)⟩
theorem lw_p40 : lw_okq (⟨"SpilledGroupsModel", "manyOf", "(I)I"⟩, 30) := ⟨⟨by decide +kernel, by decide +kernel⟩, List.mem_of_getElem? (i := 548) (by decide +kernel), List.mem_of_getElem? (i := 753) (by decide +kernel), List.mem_of_getElem? (i := 754) (by decide +kernel)⟩
theorem lw_p41 : lw_okq (⟨"SpilledGroupsModel", "takesOut", "(I)V"⟩, 30) := ⟨⟨by decide +kernel, by decide +kernel⟩, List.mem_of_getElem? (i := 548) (by decide +kernel), List.mem_of_getElem? (i := 757) (by decide +kernel), List.mem_of_getElem? (i := 758) (by decide +kernel)⟩
theorem lw_p42 : lw_okq (⟨"SpilledGroupsModel", "laysGroup", "(I)V"⟩, 30) := ⟨⟨by decide +kernel, by decide +kernel⟩, List.mem_of_getElem? (i := 548) (by decide +kernel), List.mem_of_getElem? (i := 761) (by decide +kernel), List.mem_of_getElem? (i := 762) (by decide +kernel)⟩
theorem lw_p43 : lw_okq (⟨"SpilledGroupsModel", "finishes", "()V"⟩, 30) := ⟨⟨by decide +kernel, by decide +kernel⟩, List.mem_of_getElem? (i := 548) (by decide +kernel), List.mem_of_getElem? (i := 765) (by decide +kernel), List.mem_of_getElem? (i := 766) (by decide +kernel)⟩
theorem lw_p44 : lw_okq (⟨"SpilledGroupsModel", "leavesFiles", "(I)V"⟩, 30) := ⟨⟨by decide +kernel, by decide +kernel⟩, List.mem_of_getElem? (i := 548) (by decide +kernel), List.mem_of_getElem? (i := 769) (by decide +kernel), List.mem_of_getElem? (i := 770) (by decide +kernel)⟩
theorem lw_p45 : lw_okq (⟨"SpilledGroupsModel", "writtenInAll", "()I"⟩, 30) := ⟨⟨by decide +kernel, by decide +kernel⟩, List.mem_of_getElem? (i := 548) (by decide +kernel), List.mem_of_getElem? (i := 791) (by decide +kernel), List.mem_of_getElem? (i := 792) (by decide +kernel)⟩
theorem lw_p46 : lw_okq (⟨"SpilledGroupsModel", "readAgain", "()I"⟩, 30) := ⟨⟨by decide +kernel, by decide +kernel⟩, List.mem_of_getElem? (i := 548) (by decide +kernel), List.mem_of_getElem? (i := 795) (by decide +kernel), List.mem_of_getElem? (i := 796) (by decide +kernel)⟩
theorem lw_p47 : lw_okq (⟨"SpilledGroupsModel", "greatest", "(I)I"⟩, 30) := ⟨⟨by decide +kernel, by decide +kernel⟩, List.mem_of_getElem? (i := 548) (by decide +kernel), List.mem_of_getElem? (i := 799) (by decide +kernel), List.mem_of_getElem? (i := 800) (by decide +kernel)⟩
def lw_privs_3 : List (MethodName × Nat) := [(⟨"SpilledGroupsModel", "of", "(II)I"⟩, 30), (⟨"SpilledGroupsModel", "counts", "(I)V"⟩, 30), (⟨"SpilledGroupsModel", "takes", "(I)Z"⟩, 30), (⟨"SpilledGroupsModel", "last", "(I)I"⟩, 30), (⟨"SpilledGroupsModel", "writes", "(II)V"⟩, 30), (⟨"SpilledGroupsModel", "inMemory", "(I)I"⟩, 30), (⟨"SpilledGroupsModel", "addsTo", "(II)V"⟩, 30), (⟨"SpilledGroupsModel", "spillsOne", "()V"⟩, 30), (⟨"SpilledGroupsModel", "manyOf", "(I)I"⟩, 30), (⟨"SpilledGroupsModel", "takesOut", "(I)V"⟩, 30), (⟨"SpilledGroupsModel", "laysGroup", "(I)V"⟩, 30), (⟨"SpilledGroupsModel", "finishes", "()V"⟩, 30), (⟨"SpilledGroupsModel", "leavesFiles", "(I)V"⟩, 30), (⟨"SpilledGroupsModel", "writtenInAll", "()I"⟩, 30), (⟨"SpilledGroupsModel", "readAgain", "()I"⟩, 30), (⟨"SpilledGroupsModel", "greatest", "(I)I"⟩, 30)]
theorem lw_r3 : ∀ q ∈ lw_privs_3, lw_okq q := List.forall_mem_cons.mpr ⟨lw_p32, List.forall_mem_cons.mpr ⟨lw_p33, List.forall_mem_cons.mpr ⟨lw_p34, List.forall_mem_cons.mpr ⟨lw_p35, List.forall_mem_cons.mpr ⟨lw_p36, List.forall_mem_cons.mpr ⟨lw_p37, List.forall_mem_cons.mpr ⟨lw_p38, List.forall_mem_cons.mpr ⟨lw_p39, List.forall_mem_cons.mpr ⟨lw_p40, List.forall_mem_cons.mpr ⟨lw_p41, List.forall_mem_cons.mpr ⟨lw_p42, List.forall_mem_cons.mpr ⟨lw_p43, List.forall_mem_cons.mpr ⟨lw_p44, List.forall_mem_cons.mpr ⟨lw_p45, List.forall_mem_cons.mpr ⟨lw_p46, List.forall_mem_cons.mpr ⟨lw_p47, fun _ h => absurd h List.not_mem_nil⟩⟩⟩⟩⟩⟩⟩⟩⟩⟩⟩⟩⟩⟩⟩⟩
theorem lw_p48 : lw_okq (⟨"SpilledGroupsModel", "writtenBy", "(II)I"⟩, 30) := ⟨⟨by decide +kernel, by decide +kernel⟩, List.mem_of_getElem? (i := 548) (by decide +kernel), List.mem_of_getElem? (i := 807) (by decide +kernel), List.mem_of_getElem? (i := 808) (by decide +kernel)⟩
theorem lw_p49 : lw_okq (⟨"SpilledGroupsModel", "rowsIn", "(I)I"⟩, 30) := ⟨⟨by decide +kernel, by decide +kernel⟩, List.mem_of_getElem? (i := 548) (by decide +kernel), List.mem_of_getElem? (i := 824) (by decide +kernel), List.mem_of_getElem? (i := 825) (by decide +kernel)⟩
theorem lw_p50 : lw_okq (⟨"SpilledGroupsModel", "groupsIn", "(I)I"⟩, 30) := ⟨⟨by decide +kernel, by decide +kernel⟩, List.mem_of_getElem? (i := 548) (by decide +kernel), List.mem_of_getElem? (i := 828) (by decide +kernel), List.mem_of_getElem? (i := 829) (by decide +kernel)⟩
theorem lw_p51 : lw_okq (⟨"SpilledGroupsModel", "isFirst", "(I)Z"⟩, 30) := ⟨⟨by decide +kernel, by decide +kernel⟩, List.mem_of_getElem? (i := 548) (by decide +kernel), List.mem_of_getElem? (i := 832) (by decide +kernel), List.mem_of_getElem? (i := 833) (by decide +kernel)⟩
theorem lw_p52 : lw_okq (⟨"SpilledGroupsModel", "hasFault", "()Z"⟩, 30) := ⟨⟨by decide +kernel, by decide +kernel⟩, List.mem_of_getElem? (i := 548) (by decide +kernel), List.mem_of_getElem? (i := 860) (by decide +kernel), List.mem_of_getElem? (i := 861) (by decide +kernel)⟩
theorem lw_p53 : lw_okq (⟨"SpilledGroupsModel", "readsRow", "()Z"⟩, 30) := ⟨⟨by decide +kernel, by decide +kernel⟩, List.mem_of_getElem? (i := 548) (by decide +kernel), List.mem_of_getElem? (i := 864) (by decide +kernel), List.mem_of_getElem? (i := 865) (by decide +kernel)⟩
theorem lw_p54 : lw_okq (⟨"SpilledGroupsModel", "takesNumber", "(I)Z"⟩, 30) := ⟨⟨by decide +kernel, by decide +kernel⟩, List.mem_of_getElem? (i := 548) (by decide +kernel), List.mem_of_getElem? (i := 868) (by decide +kernel), List.mem_of_getElem? (i := 869) (by decide +kernel)⟩
theorem lw_p55 : lw_okq (⟨"SpilledGroupsModel", "takesOne", "(I)Z"⟩, 30) := ⟨⟨by decide +kernel, by decide +kernel⟩, List.mem_of_getElem? (i := 548) (by decide +kernel), List.mem_of_getElem? (i := 874) (by decide +kernel), List.mem_of_getElem? (i := 875) (by decide +kernel)⟩
def lw_privs_4 : List (MethodName × Nat) := [(⟨"SpilledGroupsModel", "writtenBy", "(II)I"⟩, 30), (⟨"SpilledGroupsModel", "rowsIn", "(I)I"⟩, 30), (⟨"SpilledGroupsModel", "groupsIn", "(I)I"⟩, 30), (⟨"SpilledGroupsModel", "isFirst", "(I)Z"⟩, 30), (⟨"SpilledGroupsModel", "hasFault", "()Z"⟩, 30), (⟨"SpilledGroupsModel", "readsRow", "()Z"⟩, 30), (⟨"SpilledGroupsModel", "takesNumber", "(I)Z"⟩, 30), (⟨"SpilledGroupsModel", "takesOne", "(I)Z"⟩, 30)]
theorem lw_r4 : ∀ q ∈ lw_privs_4, lw_okq q := List.forall_mem_cons.mpr ⟨lw_p48, List.forall_mem_cons.mpr ⟨lw_p49, List.forall_mem_cons.mpr ⟨lw_p50, List.forall_mem_cons.mpr ⟨lw_p51, List.forall_mem_cons.mpr ⟨lw_p52, List.forall_mem_cons.mpr ⟨lw_p53, List.forall_mem_cons.mpr ⟨lw_p54, List.forall_mem_cons.mpr ⟨lw_p55, fun _ h => absurd h List.not_mem_nil⟩⟩⟩⟩⟩⟩⟩⟩
def lw_privs : List (MethodName × Nat) := lw_privs_1 ++ (lw_privs_2 ++ (lw_privs_3 ++ (lw_privs_4)))
def lw_tbl : List Cond := k2_sels lw_privs ++ tables_1
theorem lw_privs_ok : ∀ q ∈ lw_privs, lw_okq q := by
  show ∀ q ∈ lw_privs_1 ++ (lw_privs_2 ++ (lw_privs_3 ++ (lw_privs_4))), lw_okq q
  exact List.forall_mem_append.mpr ⟨lw_r1, List.forall_mem_append.mpr ⟨lw_r2, List.forall_mem_append.mpr ⟨lw_r3, lw_r4⟩⟩⟩

/-! names (turned from claim/NAMES.whole.lean.txt by program) -/
def RX0 : String := "SpilledGroups$Groups"
def TX0 : u_T := fun k => match k with
  | 0 => ("SpilledGroups$Groups", "facts", "LSpilledGroups$Table;", true)
  | _ => ("SpilledGroups$Groups", "ofRows", "LSpilledGroups$Table;", true)
def tyX0 : Nat → FieldType := fun k => match k with
  | 0 => .object "SpilledGroups$Table"
  | _ => .object "SpilledGroups$Table"
theorem nmX0 : ∀ a, a < 2 → ∀ b, b < 2 → a ≠ b → (TX0 a).2.1 ≠ (TX0 b).2.1 := by decide +kernel
theorem tyX0_ok : ∀ k, k < 2 → parseFieldDescriptor (TX0 k).2.2.1 = some (tyX0 k) := by decide +kernel
abbrev cX0_init : ByteArray := prog_2_method_1_code
def yX0_init : MethodName := ⟨RX0, "<init>", "()V"⟩
abbrev cX0_gather : ByteArray := prog_2_method_2_code
def yX0_gather : MethodName := ⟨RX0, "gather", "(LSpilledGroups$State;)V"⟩
abbrev cX0_addRow : ByteArray := prog_2_method_3_code
def yX0_addRow : MethodName := ⟨RX0, "addRow", "(III)V"⟩
def RX1 : String := "SpilledGroups$History"
def TX1 : u_T := fun k => match k with
  | 0 => ("SpilledGroups$History", "states", "[LSpilledGroups$State;", true)
  | 1 => ("SpilledGroups$History", "oldest", "I", false)
  | _ => ("SpilledGroups$History", "length", "I", false)
def tyX1 : Nat → FieldType := fun k => match k with
  | 0 => .array (.object "SpilledGroups$State")
  | 1 => .int
  | _ => .int
theorem nmX1 : ∀ a, a < 3 → ∀ b, b < 3 → a ≠ b → (TX1 a).2.1 ≠ (TX1 b).2.1 := by decide +kernel
theorem tyX1_ok : ∀ k, k < 3 → parseFieldDescriptor (TX1 k).2.2.1 = some (tyX1 k) := by decide +kernel
abbrev cX1_init : ByteArray := prog_3_method_1_code
def yX1_init : MethodName := ⟨RX1, "<init>", "()V"⟩
abbrev cX1_length : ByteArray := prog_3_method_2_code
def yX1_length : MethodName := ⟨RX1, "length", "()I"⟩
abbrev cX1_keep : ByteArray := prog_3_method_3_code
def yX1_keep : MethodName := ⟨RX1, "keep", "(LSpilledGroups$State;)V"⟩
abbrev cX1_restore : ByteArray := prog_3_method_4_code
def yX1_restore : MethodName := ⟨RX1, "restore", "(LSpilledGroups$State;)V"⟩
abbrev cX1_stateAt : ByteArray := prog_3_method_5_code
def yX1_stateAt : MethodName := ⟨RX1, "stateAt", "(I)LSpilledGroups$State;"⟩
def RX2 : String := "SpilledGroups$Passes"
def TX2 : u_T := fun k => match k with
  | 0 => ("SpilledGroups$Passes", "groups", "LSpilledGroups$Groups;", true)
  | 1 => ("SpilledGroups$Passes", "passes", "LSpilledGroups$Table;", true)
  | 2 => ("SpilledGroups$Passes", "spills", "LSpilledGroups$Table;", true)
  | 3 => ("SpilledGroups$Passes", "ends", "LSpilledGroups$Table;", true)
  | 4 => ("SpilledGroups$Passes", "order", "LSpilledGroups$Table;", true)
  | 5 => ("SpilledGroups$Passes", "memory", "LSpilledGroups$Table;", true)
  | 6 => ("SpilledGroups$Passes", "parts", "LSpilledGroups$Table;", true)
  | 7 => ("SpilledGroups$Passes", "items", "LSpilledGroups$Table;", true)
  | 8 => ("SpilledGroups$Passes", "beyond", "I", false)
  | 9 => ("SpilledGroups$Passes", "limit", "I", false)
  | 10 => ("SpilledGroups$Passes", "bits", "I", false)
  | _ => ("SpilledGroups$Passes", "lastLevel", "I", false)
def tyX2 : Nat → FieldType := fun k => match k with
  | 0 => .object "SpilledGroups$Groups"
  | 1 => .object "SpilledGroups$Table"
  | 2 => .object "SpilledGroups$Table"
  | 3 => .object "SpilledGroups$Table"
  | 4 => .object "SpilledGroups$Table"
  | 5 => .object "SpilledGroups$Table"
  | 6 => .object "SpilledGroups$Table"
  | 7 => .object "SpilledGroups$Table"
  | 8 => .int
  | 9 => .int
  | 10 => .int
  | _ => .int
theorem nmX2 : ∀ a, a < 12 → ∀ b, b < 12 → a ≠ b → (TX2 a).2.1 ≠ (TX2 b).2.1 := by decide +kernel
theorem tyX2_ok : ∀ k, k < 12 → parseFieldDescriptor (TX2 k).2.2.1 = some (tyX2 k) := by decide +kernel
abbrev cX2_init : ByteArray := prog_4_method_1_code
def yX2_init : MethodName := ⟨RX2, "<init>", "()V"⟩
abbrev cX2_forget : ByteArray := prog_4_method_2_code
def yX2_forget : MethodName := ⟨RX2, "forget", "()V"⟩
abbrev cX2_run : ByteArray := prog_4_method_3_code
def yX2_run : MethodName := ⟨RX2, "run", "(II)V"⟩
abbrev cX2_find : ByteArray := prog_4_method_4_code
def yX2_find : MethodName := ⟨RX2, "find", "(II)I"⟩
abbrev cX2_itemsFiled : ByteArray := prog_4_method_5_code
def yX2_itemsFiled : MethodName := ⟨RX2, "itemsFiled", "()I"⟩
abbrev cX2_itemsRead : ByteArray := prog_4_method_6_code
def yX2_itemsRead : MethodName := ⟨RX2, "itemsRead", "()I"⟩
abbrev cX2_runPass : ByteArray := prog_4_method_7_code
def yX2_runPass : MethodName := ⟨RX2, "runPass", "(III)V"⟩
abbrev cX2_runFiles : ByteArray := prog_4_method_8_code
def yX2_runFiles : MethodName := ⟨RX2, "runFiles", "(IIII)V"⟩
abbrev cX2_needsSpill : ByteArray := prog_4_method_9_code
def yX2_needsSpill : MethodName := ⟨RX2, "needsSpill", "(III)Z"⟩
abbrev cX2_takeItem : ByteArray := prog_4_method_10_code
def yX2_takeItem : MethodName := ⟨RX2, "takeItem", "(III)V"⟩
abbrev cX2_layGroup : ByteArray := prog_4_method_11_code
def yX2_layGroup : MethodName := ⟨RX2, "layGroup", "(III)V"⟩
abbrev cX2_spillPart : ByteArray := prog_4_method_12_code
def yX2_spillPart : MethodName := ⟨RX2, "spillPart", "(II)V"⟩
abbrev cX2_finishMemory : ByteArray := prog_4_method_13_code
def yX2_finishMemory : MethodName := ⟨RX2, "finishMemory", "(III)V"⟩
abbrev cX2_fullestPart : ByteArray := prog_4_method_14_code
def yX2_fullestPart : MethodName := ⟨RX2, "fullestPart", "()I"⟩
abbrev cX2_isSpilled : ByteArray := prog_4_method_15_code
def yX2_isSpilled : MethodName := ⟨RX2, "isSpilled", "(II)Z"⟩
abbrev cX2_isHeld : ByteArray := prog_4_method_16_code
def yX2_isHeld : MethodName := ⟨RX2, "isHeld", "(I)Z"⟩
abbrev cX2_prefixOf : ByteArray := prog_4_method_17_code
def yX2_prefixOf : MethodName := ⟨RX2, "prefixOf", "(II)I"⟩
abbrev cX2_partOf : ByteArray := prog_4_method_18_code
def yX2_partOf : MethodName := ⟨RX2, "partOf", "(II)I"⟩
def RX3 : String := "SpilledGroups$State"
def TX3 : u_T := fun k => match k with
  | 0 => ("SpilledGroups$State", "rows", "LSpilledGroups$Table;", true)
  | _ => ("SpilledGroups$State", "settings", "LSpilledGroups$Table;", true)
def tyX3 : Nat → FieldType := fun k => match k with
  | 0 => .object "SpilledGroups$Table"
  | _ => .object "SpilledGroups$Table"
theorem nmX3 : ∀ a, a < 2 → ∀ b, b < 2 → a ≠ b → (TX3 a).2.1 ≠ (TX3 b).2.1 := by decide +kernel
theorem tyX3_ok : ∀ k, k < 2 → parseFieldDescriptor (TX3 k).2.2.1 = some (tyX3 k) := by decide +kernel
abbrev cX3_init : ByteArray := prog_5_method_1_code
def yX3_init : MethodName := ⟨RX3, "<init>", "()V"⟩
abbrev cX3_setting : ByteArray := prog_5_method_2_code
def yX3_setting : MethodName := ⟨RX3, "setting", "(I)I"⟩
abbrev cX3_keyOf : ByteArray := prog_5_method_3_code
def yX3_keyOf : MethodName := ⟨RX3, "keyOf", "(I)I"⟩
abbrev cX3_valueOf : ByteArray := prog_5_method_4_code
def yX3_valueOf : MethodName := ⟨RX3, "valueOf", "(I)I"⟩
abbrev cX3_hashOf : ByteArray := prog_5_method_5_code
def yX3_hashOf : MethodName := ⟨RX3, "hashOf", "(I)I"⟩
abbrev cX3_addRow : ByteArray := prog_5_method_6_code
def yX3_addRow : MethodName := ⟨RX3, "addRow", "(II)V"⟩
abbrev cX3_copyFrom : ByteArray := prog_5_method_7_code
def yX3_copyFrom : MethodName := ⟨RX3, "copyFrom", "(LSpilledGroups$State;)V"⟩
def RX4 : String := "SpilledGroups$Table"
def TX4 : u_T := fun k => match k with
  | 0 => ("SpilledGroups$Table", "cells", "[I", true)
  | 1 => ("SpilledGroups$Table", "width", "I", true)
  | 2 => ("SpilledGroups$Table", "room", "I", true)
  | _ => ("SpilledGroups$Table", "length", "I", false)
def tyX4 : Nat → FieldType := fun k => match k with
  | 0 => .array .int
  | 1 => .int
  | 2 => .int
  | _ => .int
theorem nmX4 : ∀ a, a < 4 → ∀ b, b < 4 → a ≠ b → (TX4 a).2.1 ≠ (TX4 b).2.1 := by decide +kernel
theorem tyX4_ok : ∀ k, k < 4 → parseFieldDescriptor (TX4 k).2.2.1 = some (tyX4 k) := by decide +kernel
abbrev cX4_init : ByteArray := prog_6_method_1_code
def yX4_init : MethodName := ⟨RX4, "<init>", "(II)V"⟩
abbrev cX4_length : ByteArray := prog_6_method_2_code
def yX4_length : MethodName := ⟨RX4, "length", "()I"⟩
abbrev cX4_at : ByteArray := prog_6_method_3_code
def yX4_at : MethodName := ⟨RX4, "at", "(II)I"⟩
abbrev cX4_put : ByteArray := prog_6_method_4_code
def yX4_put : MethodName := ⟨RX4, "put", "(III)V"⟩
abbrev cX4_raise : ByteArray := prog_6_method_5_code
def yX4_raise : MethodName := ⟨RX4, "raise", "(III)V"⟩
abbrev cX4_append : ByteArray := prog_6_method_6_code
def yX4_append : MethodName := ⟨RX4, "append", "(I)I"⟩
abbrev cX4_insert : ByteArray := prog_6_method_7_code
def yX4_insert : MethodName := ⟨RX4, "insert", "(II)V"⟩
abbrev cX4_remove : ByteArray := prog_6_method_8_code
def yX4_remove : MethodName := ⟨RX4, "remove", "(I)V"⟩
abbrev cX4_shorten : ByteArray := prog_6_method_9_code
def yX4_shorten : MethodName := ⟨RX4, "shorten", "(I)V"⟩
abbrev cX4_reset : ByteArray := prog_6_method_10_code
def yX4_reset : MethodName := ⟨RX4, "reset", "(I)V"⟩
abbrev cX4_copyFrom : ByteArray := prog_6_method_11_code
def yX4_copyFrom : MethodName := ⟨RX4, "copyFrom", "(LSpilledGroups$Table;)V"⟩
abbrev cX4_placeOf : ByteArray := prog_6_method_12_code
def yX4_placeOf : MethodName := ⟨RX4, "placeOf", "(I)I"⟩
abbrev cX4_sumOf : ByteArray := prog_6_method_13_code
def yX4_sumOf : MethodName := ⟨RX4, "sumOf", "(I)I"⟩
abbrev cX4_greatestOf : ByteArray := prog_6_method_14_code
def yX4_greatestOf : MethodName := ⟨RX4, "greatestOf", "(I)I"⟩
def RX5 : String := "SpilledGroups$Text"
def TX5 : u_T := fun k => match k with
  | 0 => ("SpilledGroups$Text", "characters", "LSpilledGroups$Table;", true)
  | 1 => ("SpilledGroups$Text", "rows", "LSpilledGroups$Table;", true)
  | 2 => ("SpilledGroups$Text", "position", "I", false)
  | 3 => ("SpilledGroups$Text", "reason", "I", false)
  | 4 => ("SpilledGroups$Text", "cause", "I", false)
  | _ => ("SpilledGroups$Text", "next", "I", false)
def tyX5 : Nat → FieldType := fun k => match k with
  | 0 => .object "SpilledGroups$Table"
  | 1 => .object "SpilledGroups$Table"
  | 2 => .int
  | 3 => .int
  | 4 => .int
  | _ => .int
theorem nmX5 : ∀ a, a < 6 → ∀ b, b < 6 → a ≠ b → (TX5 a).2.1 ≠ (TX5 b).2.1 := by decide +kernel
theorem tyX5_ok : ∀ k, k < 6 → parseFieldDescriptor (TX5 k).2.2.1 = some (tyX5 k) := by decide +kernel
abbrev cX5_init : ByteArray := prog_7_method_1_code
def yX5_init : MethodName := ⟨RX5, "<init>", "()V"⟩
abbrev cX5_read : ByteArray := prog_7_method_2_code
def yX5_read : MethodName := ⟨RX5, "read", "(I)V"⟩
abbrev cX5_readRow : ByteArray := prog_7_method_3_code
def yX5_readRow : MethodName := ⟨RX5, "readRow", "()Z"⟩
abbrev cX5_readNumber : ByteArray := prog_7_method_4_code
def yX5_readNumber : MethodName := ⟨RX5, "readNumber", "(I)I"⟩
abbrev cX5_readSign : ByteArray := prog_7_method_5_code
def yX5_readSign : MethodName := ⟨RX5, "readSign", "(C)Z"⟩
def RX6 : String := "SpilledGroups"
def TX6 : u_T := fun k => match k with
  | 0 => ("SpilledGroups", "now", "LSpilledGroups$State;", true)
  | 1 => ("SpilledGroups", "history", "LSpilledGroups$History;", true)
  | 2 => ("SpilledGroups", "passes", "LSpilledGroups$Passes;", true)
  | 3 => ("SpilledGroups", "text", "LSpilledGroups$Text;", true)
  | _ => ("SpilledGroups", "groupsAreOld", "Z", false)
def tyX6 : Nat → FieldType := fun k => match k with
  | 0 => .object "SpilledGroups$State"
  | 1 => .object "SpilledGroups$History"
  | 2 => .object "SpilledGroups$Passes"
  | 3 => .object "SpilledGroups$Text"
  | _ => .boolean
theorem nmX6 : ∀ a, a < 5 → ∀ b, b < 5 → a ≠ b → (TX6 a).2.1 ≠ (TX6 b).2.1 := by decide +kernel
theorem tyX6_ok : ∀ k, k < 5 → parseFieldDescriptor (TX6 k).2.2.1 = some (tyX6 k) := by decide +kernel
abbrev cX6_init : ByteArray := prog_1_method_1_code
def yX6_init : MethodName := ⟨RX6, "<init>", "()V"⟩
abbrev cX6_row : ByteArray := prog_1_method_2_code
def yX6_row : MethodName := ⟨RX6, "row", "(II)I"⟩
abbrev cX6_drop : ByteArray := prog_1_method_3_code
def yX6_drop : MethodName := ⟨RX6, "drop", "(I)I"⟩
abbrev cX6_clear : ByteArray := prog_1_method_4_code
def yX6_clear : MethodName := ⟨RX6, "clear", "()I"⟩
abbrev cX6_set : ByteArray := prog_1_method_5_code
def yX6_set : MethodName := ⟨RX6, "set", "(II)I"⟩
abbrev cX6_rowOf : ByteArray := prog_1_method_6_code
def yX6_rowOf : MethodName := ⟨RX6, "rowOf", "(II)I"⟩
abbrev cX6_groupOf : ByteArray := prog_1_method_7_code
def yX6_groupOf : MethodName := ⟨RX6, "groupOf", "(II)I"⟩
abbrev cX6_finished : ByteArray := prog_1_method_8_code
def yX6_finished : MethodName := ⟨RX6, "finished", "(I)I"⟩
abbrev cX6_passOf : ByteArray := prog_1_method_9_code
def yX6_passOf : MethodName := ⟨RX6, "passOf", "(III)I"⟩
abbrev cX6_spillOf : ByteArray := prog_1_method_10_code
def yX6_spillOf : MethodName := ⟨RX6, "spillOf", "(II)I"⟩
abbrev cX6_total : ByteArray := prog_1_method_11_code
def yX6_total : MethodName := ⟨RX6, "total", "(I)I"⟩
abbrev cX6_written : ByteArray := prog_1_method_12_code
def yX6_written : MethodName := ⟨RX6, "written", "(II)I"⟩
abbrev cX6_bestBits : ByteArray := prog_1_method_13_code
def yX6_bestBits : MethodName := ⟨RX6, "bestBits", "(II)I"⟩
abbrev cX6_enough : ByteArray := prog_1_method_14_code
def yX6_enough : MethodName := ⟨RX6, "enough", "()I"⟩
abbrev cX6_skewed : ByteArray := prog_1_method_15_code
def yX6_skewed : MethodName := ⟨RX6, "skewed", "(I)I"⟩
abbrev cX6_count : ByteArray := prog_1_method_16_code
def yX6_count : MethodName := ⟨RX6, "count", "(I)I"⟩
abbrev cX6_undo : ByteArray := prog_1_method_17_code
def yX6_undo : MethodName := ⟨RX6, "undo", "()I"⟩
abbrev cX6_type : ByteArray := prog_1_method_18_code
def yX6_type : MethodName := ⟨RX6, "type", "(I)I"⟩
abbrev cX6_clearText : ByteArray := prog_1_method_19_code
def yX6_clearText : MethodName := ⟨RX6, "clearText", "()I"⟩
abbrev cX6_fault : ByteArray := prog_1_method_20_code
def yX6_fault : MethodName := ⟨RX6, "fault", "(I)I"⟩
abbrev cX6_play : ByteArray := prog_1_method_21_code
def yX6_play : MethodName := ⟨RX6, "play", "()I"⟩
abbrev cX6_isOutside : ByteArray := prog_1_method_22_code
def yX6_isOutside : MethodName := ⟨RX6, "isOutside", "(III)Z"⟩
abbrev cX6_isSettingValue : ByteArray := prog_1_method_23_code
def yX6_isSettingValue : MethodName := ⟨RX6, "isSettingValue", "(II)Z"⟩
abbrev cX6_beginChange : ByteArray := prog_1_method_24_code
def yX6_beginChange : MethodName := ⟨RX6, "beginChange", "()V"⟩
abbrev cX6_groupsNow : ByteArray := prog_1_method_25_code
def yX6_groupsNow : MethodName := ⟨RX6, "groupsNow", "()LSpilledGroups$Groups;"⟩
abbrev cX6_passesNow : ByteArray := prog_1_method_26_code
def yX6_passesNow : MethodName := ⟨RX6, "passesNow", "()LSpilledGroups$Passes;"⟩
abbrev cX6_passesBy : ByteArray := prog_1_method_27_code
def yX6_passesBy : MethodName := ⟨RX6, "passesBy", "(II)LSpilledGroups$Passes;"⟩
abbrev cX6_firstPart : ByteArray := prog_1_method_28_code
def yX6_firstPart : MethodName := ⟨RX6, "firstPart", "(I)I"⟩
abbrev cX6_rowsInPart : ByteArray := prog_1_method_29_code
def yX6_rowsInPart : MethodName := ⟨RX6, "rowsInPart", "(I)I"⟩
abbrev cX6_groupsInPart : ByteArray := prog_1_method_30_code
def yX6_groupsInPart : MethodName := ⟨RX6, "groupsInPart", "(I)I"⟩
def RX7 : String := "SpilledGroupsModel"
def TX7 : u_T := fun k => match k with
  | 0 => ("SpilledGroupsModel", "all", "[I", true)
  | 1 => ("SpilledGroupsModel", "history", "[I", true)
  | 2 => ("SpilledGroupsModel", "historyLong", "I", false)
  | 3 => ("SpilledGroupsModel", "item", "[I", true)
  | 4 => ("SpilledGroupsModel", "items", "I", false)
  | 5 => ("SpilledGroupsModel", "group", "[I", true)
  | 6 => ("SpilledGroupsModel", "groups", "I", false)
  | 7 => ("SpilledGroupsModel", "pass", "[I", true)
  | 8 => ("SpilledGroupsModel", "passes", "I", false)
  | 9 => ("SpilledGroupsModel", "spill", "[I", true)
  | 10 => ("SpilledGroupsModel", "spills", "I", false)
  | 11 => ("SpilledGroupsModel", "done", "[I", true)
  | 12 => ("SpilledGroupsModel", "dones", "I", false)
  | 13 => ("SpilledGroupsModel", "beyond", "I", false)
  | 14 => ("SpilledGroupsModel", "bits", "I", false)
  | 15 => ("SpilledGroupsModel", "limit", "I", false)
  | 16 => ("SpilledGroupsModel", "waits", "[I", true)
  | 17 => ("SpilledGroupsModel", "waiting", "I", false)
  | 18 => ("SpilledGroupsModel", "first", "[I", true)
  | 19 => ("SpilledGroupsModel", "last", "[I", true)
  | 20 => ("SpilledGroupsModel", "long0", "[I", true)
  | 21 => ("SpilledGroupsModel", "text", "[I", true)
  | 22 => ("SpilledGroupsModel", "textLong", "I", false)
  | 23 => ("SpilledGroupsModel", "from", "I", false)
  | 24 => ("SpilledGroupsModel", "at", "I", false)
  | 25 => ("SpilledGroupsModel", "readKey", "I", false)
  | 26 => ("SpilledGroupsModel", "readValue", "I", false)
  | 27 => ("SpilledGroupsModel", "number", "I", false)
  | 28 => ("SpilledGroupsModel", "why", "I", false)
  | _ => ("SpilledGroupsModel", "cause", "I", false)
def tyX7 : Nat → FieldType := fun k => match k with
  | 0 => .array .int
  | 1 => .array .int
  | 2 => .int
  | 3 => .array .int
  | 4 => .int
  | 5 => .array .int
  | 6 => .int
  | 7 => .array .int
  | 8 => .int
  | 9 => .array .int
  | 10 => .int
  | 11 => .array .int
  | 12 => .int
  | 13 => .int
  | 14 => .int
  | 15 => .int
  | 16 => .array .int
  | 17 => .int
  | 18 => .array .int
  | 19 => .array .int
  | 20 => .array .int
  | 21 => .array .int
  | 22 => .int
  | 23 => .int
  | 24 => .int
  | 25 => .int
  | 26 => .int
  | 27 => .int
  | 28 => .int
  | _ => .int
theorem nmX7 : ∀ a, a < 30 → ∀ b, b < 30 → a ≠ b → (TX7 a).2.1 ≠ (TX7 b).2.1 := by decide +kernel
theorem tyX7_ok : ∀ k, k < 30 → parseFieldDescriptor (TX7 k).2.2.1 = some (tyX7 k) := by decide +kernel
abbrev cX7_init : ByteArray := prog_9_method_1_code
def yX7_init : MethodName := ⟨RX7, "<init>", "()V"⟩
abbrev cX7_in : ByteArray := prog_9_method_3_code
def yX7_in : MethodName := ⟨RX7, "in", "(JJJ)Z"⟩
abbrev cX7_record : ByteArray := prog_9_method_4_code
def yX7_record : MethodName := ⟨RX7, "record", "()V"⟩
abbrev cX7_isRow : ByteArray := prog_9_method_5_code
def yX7_isRow : MethodName := ⟨RX7, "isRow", "(II)Z"⟩
abbrev cX7_adds : ByteArray := prog_9_method_6_code
def yX7_adds : MethodName := ⟨RX7, "adds", "(II)V"⟩
abbrev cX7_row : ByteArray := prog_9_method_7_code
def yX7_row : MethodName := ⟨RX7, "row", "(II)I"⟩
abbrev cX7_drop : ByteArray := prog_9_method_8_code
def yX7_drop : MethodName := ⟨RX7, "drop", "(I)I"⟩
abbrev cX7_clear : ByteArray := prog_9_method_9_code
def yX7_clear : MethodName := ⟨RX7, "clear", "()I"⟩
abbrev cX7_set : ByteArray := prog_9_method_10_code
def yX7_set : MethodName := ⟨RX7, "set", "(II)I"⟩
abbrev cX7_hashOf : ByteArray := prog_9_method_11_code
def yX7_hashOf : MethodName := ⟨RX7, "hashOf", "(I)I"⟩
abbrev cX7_partOf : ByteArray := prog_9_method_12_code
def yX7_partOf : MethodName := ⟨RX7, "partOf", "(III)I"⟩
abbrev cX7_rowOf : ByteArray := prog_9_method_13_code
def yX7_rowOf : MethodName := ⟨RX7, "rowOf", "(II)I"⟩
abbrev cX7_makes : ByteArray := prog_9_method_14_code
def yX7_makes : MethodName := ⟨RX7, "makes", "(IIIII)I"⟩
abbrev cX7_of : ByteArray := prog_9_method_15_code
def yX7_of : MethodName := ⟨RX7, "of", "(II)I"⟩
abbrev cX7_inMemory : ByteArray := prog_9_method_16_code
def yX7_inMemory : MethodName := ⟨RX7, "inMemory", "(I)I"⟩
abbrev cX7_addsTo : ByteArray := prog_9_method_17_code
def yX7_addsTo : MethodName := ⟨RX7, "addsTo", "(II)V"⟩
abbrev cX7_laysGroup : ByteArray := prog_9_method_18_code
def yX7_laysGroup : MethodName := ⟨RX7, "laysGroup", "(I)V"⟩
abbrev cX7_takesOut : ByteArray := prog_9_method_19_code
def yX7_takesOut : MethodName := ⟨RX7, "takesOut", "(I)V"⟩
abbrev cX7_last : ByteArray := prog_9_method_20_code
def yX7_last : MethodName := ⟨RX7, "last", "(I)I"⟩
abbrev cX7_counts : ByteArray := prog_9_method_21_code
def yX7_counts : MethodName := ⟨RX7, "counts", "(I)V"⟩
abbrev cX7_writes : ByteArray := prog_9_method_22_code
def yX7_writes : MethodName := ⟨RX7, "writes", "(II)V"⟩
abbrev cX7_manyOf : ByteArray := prog_9_method_23_code
def yX7_manyOf : MethodName := ⟨RX7, "manyOf", "(I)I"⟩
abbrev cX7_spillsOne : ByteArray := prog_9_method_24_code
def yX7_spillsOne : MethodName := ⟨RX7, "spillsOne", "()V"⟩
abbrev cX7_takes : ByteArray := prog_9_method_25_code
def yX7_takes : MethodName := ⟨RX7, "takes", "(I)Z"⟩
abbrev cX7_finishes : ByteArray := prog_9_method_26_code
def yX7_finishes : MethodName := ⟨RX7, "finishes", "()V"⟩
abbrev cX7_leavesFiles : ByteArray := prog_9_method_27_code
def yX7_leavesFiles : MethodName := ⟨RX7, "leavesFiles", "(I)V"⟩
abbrev cX7_doPass : ByteArray := prog_9_method_28_code
def yX7_doPass : MethodName := ⟨RX7, "doPass", "(III)V"⟩
abbrev cX7_run : ByteArray := prog_9_method_29_code
def yX7_run : MethodName := ⟨RX7, "run", "(II)V"⟩
abbrev cX7_runNow : ByteArray := prog_9_method_30_code
def yX7_runNow : MethodName := ⟨RX7, "runNow", "()V"⟩
abbrev cX7_groupOf : ByteArray := prog_9_method_31_code
def yX7_groupOf : MethodName := ⟨RX7, "groupOf", "(II)I"⟩
abbrev cX7_finished : ByteArray := prog_9_method_32_code
def yX7_finished : MethodName := ⟨RX7, "finished", "(I)I"⟩
abbrev cX7_passOf : ByteArray := prog_9_method_33_code
def yX7_passOf : MethodName := ⟨RX7, "passOf", "(III)I"⟩
abbrev cX7_spillOf : ByteArray := prog_9_method_34_code
def yX7_spillOf : MethodName := ⟨RX7, "spillOf", "(II)I"⟩
abbrev cX7_writtenInAll : ByteArray := prog_9_method_35_code
def yX7_writtenInAll : MethodName := ⟨RX7, "writtenInAll", "()I"⟩
abbrev cX7_readAgain : ByteArray := prog_9_method_36_code
def yX7_readAgain : MethodName := ⟨RX7, "readAgain", "()I"⟩
abbrev cX7_greatest : ByteArray := prog_9_method_37_code
def yX7_greatest : MethodName := ⟨RX7, "greatest", "(I)I"⟩
abbrev cX7_total : ByteArray := prog_9_method_38_code
def yX7_total : MethodName := ⟨RX7, "total", "(I)I"⟩
abbrev cX7_writtenBy : ByteArray := prog_9_method_39_code
def yX7_writtenBy : MethodName := ⟨RX7, "writtenBy", "(II)I"⟩
abbrev cX7_written : ByteArray := prog_9_method_40_code
def yX7_written : MethodName := ⟨RX7, "written", "(II)I"⟩
abbrev cX7_bestBits : ByteArray := prog_9_method_41_code
def yX7_bestBits : MethodName := ⟨RX7, "bestBits", "(II)I"⟩
abbrev cX7_enough : ByteArray := prog_9_method_42_code
def yX7_enough : MethodName := ⟨RX7, "enough", "()I"⟩
abbrev cX7_rowsIn : ByteArray := prog_9_method_43_code
def yX7_rowsIn : MethodName := ⟨RX7, "rowsIn", "(I)I"⟩
abbrev cX7_isFirst : ByteArray := prog_9_method_44_code
def yX7_isFirst : MethodName := ⟨RX7, "isFirst", "(I)Z"⟩
abbrev cX7_groupsIn : ByteArray := prog_9_method_45_code
def yX7_groupsIn : MethodName := ⟨RX7, "groupsIn", "(I)I"⟩
abbrev cX7_skewed : ByteArray := prog_9_method_46_code
def yX7_skewed : MethodName := ⟨RX7, "skewed", "(I)I"⟩
abbrev cX7_count : ByteArray := prog_9_method_47_code
def yX7_count : MethodName := ⟨RX7, "count", "(I)I"⟩
abbrev cX7_undo : ByteArray := prog_9_method_48_code
def yX7_undo : MethodName := ⟨RX7, "undo", "()I"⟩
abbrev cX7_type : ByteArray := prog_9_method_49_code
def yX7_type : MethodName := ⟨RX7, "type", "(I)I"⟩
abbrev cX7_clearText : ByteArray := prog_9_method_50_code
def yX7_clearText : MethodName := ⟨RX7, "clearText", "()I"⟩
abbrev cX7_takesOne : ByteArray := prog_9_method_51_code
def yX7_takesOne : MethodName := ⟨RX7, "takesOne", "(I)Z"⟩
abbrev cX7_takesNumber : ByteArray := prog_9_method_52_code
def yX7_takesNumber : MethodName := ⟨RX7, "takesNumber", "(I)Z"⟩
abbrev cX7_readsRow : ByteArray := prog_9_method_53_code
def yX7_readsRow : MethodName := ⟨RX7, "readsRow", "()Z"⟩
abbrev cX7_hasFault : ByteArray := prog_9_method_54_code
def yX7_hasFault : MethodName := ⟨RX7, "hasFault", "()Z"⟩
abbrev cX7_fault : ByteArray := prog_9_method_55_code
def yX7_fault : MethodName := ⟨RX7, "fault", "(I)I"⟩
abbrev cX7_play : ByteArray := prog_9_method_56_code
def yX7_play : MethodName := ⟨RX7, "play", "()I"⟩
def RJ9 : String := "java/lang/Math"
abbrev cJ9_max_7cf53 : ByteArray := prog_10_method_65_code
def yJ9_max_7cf53 : MethodName := ⟨RJ9, "max", "(II)I"⟩
abbrev cJ9_min_7cf53 : ByteArray := prog_10_method_69_code
def yJ9_min_7cf53 : MethodName := ⟨RJ9, "min", "(II)I"⟩
def RJ10 : String := "java/lang/System"
def RJ7 : String := "java/util/Arrays"
abbrev cJ7_rangeCheck_23922 : ByteArray := prog_12_method_30_code
def yJ7_rangeCheck_23922 : MethodName := ⟨RJ7, "rangeCheck", "(III)V"⟩
abbrev cJ7_fill_fda19 : ByteArray := prog_12_method_104_code
def yJ7_fill_fda19 : MethodName := ⟨RJ7, "fill", "([IIII)V"⟩
def RL : String := "SpilledGroupsLaw"
abbrev cL_law : ByteArray := code
def yL_law : MethodName := ⟨RL, "law", "([I)Z"⟩
abbrev vwCl : List vw_C := [(RX0, TX0, 2), (RX1, TX1, 3), (RX2, TX2, 12), (RX3, TX3, 2), (RX4, TX4, 4), (RX5, TX5, 6), (RX6, TX6, 5), (RX7, TX7, 30)]
