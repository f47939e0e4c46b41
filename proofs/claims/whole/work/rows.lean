section
-- ===== PART A: goes FIRST, ahead of the names: the tables' words, and 'selects' of the private methods out of them =====
/-- a private method of a class that the tables say can be made, by its rows of tables_1 -/
def lw_okq (q : MethodName × Nat) : Prop := (q.1.cls ≠ "java/lang/invoke/MethodHandle" ∧ q.1.cls ≠ "java/lang/invoke/VarHandle") ∧ Cond.instantiable q.1.cls q.2 ∈ tables_1 ∧ Cond.privateMethod q.1 ∈ tables_1 ∧ Cond.instanceMethod q.1 ∈ tables_1
theorem lw_p0 : lw_okq (⟨"SpilledGroups", "beginChange", "()V"⟩, 6) := ⟨⟨by decide +kernel, by decide +kernel⟩, List.mem_of_getElem? (i := 13) (by decide +kernel), List.mem_of_getElem? (i := 222) (by decide +kernel), List.mem_of_getElem? (i := 223) (by decide +kernel)⟩
theorem lw_p1 : lw_okq (⟨"SpilledGroups$History", "stateAt", "(I)LSpilledGroups$State;"⟩, 3) := ⟨⟨by decide +kernel, by decide +kernel⟩, List.mem_of_getElem? (i := 71) (by decide +kernel), List.mem_of_getElem? (i := 230) (by decide +kernel), List.mem_of_getElem? (i := 231) (by decide +kernel)⟩
theorem lw_p2 : lw_okq (⟨"SpilledGroups", "firstPart", "(I)I"⟩, 6) := ⟨⟨by decide +kernel, by decide +kernel⟩, List.mem_of_getElem? (i := 13) (by decide +kernel), List.mem_of_getElem? (i := 307) (by decide +kernel), List.mem_of_getElem? (i := 308) (by decide +kernel)⟩
theorem lw_p3 : lw_okq (⟨"SpilledGroups", "groupsNow", "()LSpilledGroups$Groups;"⟩, 6) := ⟨⟨by decide +kernel, by decide +kernel⟩, List.mem_of_getElem? (i := 13) (by decide +kernel), List.mem_of_getElem? (i := 315) (by decide +kernel), List.mem_of_getElem? (i := 316) (by decide +kernel)⟩
theorem lw_p4 : lw_okq (⟨"SpilledGroups$Groups", "addRow", "(III)V"⟩, 2) := ⟨⟨by decide +kernel, by decide +kernel⟩, List.mem_of_getElem? (i := 90) (by decide +kernel), List.mem_of_getElem? (i := 328) (by decide +kernel), List.mem_of_getElem? (i := 329) (by decide +kernel)⟩
theorem lw_p5 : lw_okq (⟨"SpilledGroups", "passesNow", "()LSpilledGroups$Passes;"⟩, 6) := ⟨⟨by decide +kernel, by decide +kernel⟩, List.mem_of_getElem? (i := 13) (by decide +kernel), List.mem_of_getElem? (i := 356) (by decide +kernel), List.mem_of_getElem? (i := 357) (by decide +kernel)⟩
theorem lw_p6 : lw_okq (⟨"SpilledGroups$Passes", "runPass", "(III)V"⟩, 12) := ⟨⟨by decide +kernel, by decide +kernel⟩, List.mem_of_getElem? (i := 108) (by decide +kernel), List.mem_of_getElem? (i := 372) (by decide +kernel), List.mem_of_getElem? (i := 373) (by decide +kernel)⟩
theorem lw_p7 : lw_okq (⟨"SpilledGroups$Passes", "prefixOf", "(II)I"⟩, 12) := ⟨⟨by decide +kernel, by decide +kernel⟩, List.mem_of_getElem? (i := 108) (by decide +kernel), List.mem_of_getElem? (i := 379) (by decide +kernel), List.mem_of_getElem? (i := 380) (by decide +kernel)⟩
theorem lw_p8 : lw_okq (⟨"SpilledGroups$Passes", "needsSpill", "(III)Z"⟩, 12) := ⟨⟨by decide +kernel, by decide +kernel⟩, List.mem_of_getElem? (i := 108) (by decide +kernel), List.mem_of_getElem? (i := 383) (by decide +kernel), List.mem_of_getElem? (i := 384) (by decide +kernel)⟩
theorem lw_p9 : lw_okq (⟨"SpilledGroups$Passes", "partOf", "(II)I"⟩, 12) := ⟨⟨by decide +kernel, by decide +kernel⟩, List.mem_of_getElem? (i := 108) (by decide +kernel), List.mem_of_getElem? (i := 387) (by decide +kernel), List.mem_of_getElem? (i := 388) (by decide +kernel)⟩
theorem lw_p10 : lw_okq (⟨"SpilledGroups$Passes", "isSpilled", "(II)Z"⟩, 12) := ⟨⟨by decide +kernel, by decide +kernel⟩, List.mem_of_getElem? (i := 108) (by decide +kernel), List.mem_of_getElem? (i := 391) (by decide +kernel), List.mem_of_getElem? (i := 392) (by decide +kernel)⟩
theorem lw_p11 : lw_okq (⟨"SpilledGroups$Passes", "isHeld", "(I)Z"⟩, 12) := ⟨⟨by decide +kernel, by decide +kernel⟩, List.mem_of_getElem? (i := 108) (by decide +kernel), List.mem_of_getElem? (i := 395) (by decide +kernel), List.mem_of_getElem? (i := 396) (by decide +kernel)⟩
theorem lw_p12 : lw_okq (⟨"SpilledGroups$Passes", "fullestPart", "()I"⟩, 12) := ⟨⟨by decide +kernel, by decide +kernel⟩, List.mem_of_getElem? (i := 108) (by decide +kernel), List.mem_of_getElem? (i := 400) (by decide +kernel), List.mem_of_getElem? (i := 401) (by decide +kernel)⟩
theorem lw_p13 : lw_okq (⟨"SpilledGroups$Passes", "spillPart", "(II)V"⟩, 12) := ⟨⟨by decide +kernel, by decide +kernel⟩, List.mem_of_getElem? (i := 108) (by decide +kernel), List.mem_of_getElem? (i := 404) (by decide +kernel), List.mem_of_getElem? (i := 405) (by decide +kernel)⟩
theorem lw_p14 : lw_okq (⟨"SpilledGroups$Passes", "takeItem", "(III)V"⟩, 12) := ⟨⟨by decide +kernel, by decide +kernel⟩, List.mem_of_getElem? (i := 108) (by decide +kernel), List.mem_of_getElem? (i := 409) (by decide +kernel), List.mem_of_getElem? (i := 410) (by decide +kernel)⟩
theorem lw_p15 : lw_okq (⟨"SpilledGroups$Passes", "layGroup", "(III)V"⟩, 12) := ⟨⟨by decide +kernel, by decide +kernel⟩, List.mem_of_getElem? (i := 108) (by decide +kernel), List.mem_of_getElem? (i := 413) (by decide +kernel), List.mem_of_getElem? (i := 414) (by decide +kernel)⟩
def lw_privs_1 : List (MethodName × Nat) := [(⟨"SpilledGroups", "beginChange", "()V"⟩, 6), (⟨"SpilledGroups$History", "stateAt", "(I)LSpilledGroups$State;"⟩, 3), (⟨"SpilledGroups", "firstPart", "(I)I"⟩, 6), (⟨"SpilledGroups", "groupsNow", "()LSpilledGroups$Groups;"⟩, 6), (⟨"SpilledGroups$Groups", "addRow", "(III)V"⟩, 2), (⟨"SpilledGroups", "passesNow", "()LSpilledGroups$Passes;"⟩, 6), (⟨"SpilledGroups$Passes", "runPass", "(III)V"⟩, 12), (⟨"SpilledGroups$Passes", "prefixOf", "(II)I"⟩, 12), (⟨"SpilledGroups$Passes", "needsSpill", "(III)Z"⟩, 12), (⟨"SpilledGroups$Passes", "partOf", "(II)I"⟩, 12), (⟨"SpilledGroups$Passes", "isSpilled", "(II)Z"⟩, 12), (⟨"SpilledGroups$Passes", "isHeld", "(I)Z"⟩, 12), (⟨"SpilledGroups$Passes", "fullestPart", "()I"⟩, 12), (⟨"SpilledGroups$Passes", "spillPart", "(II)V"⟩, 12), (⟨"SpilledGroups$Passes", "takeItem", "(III)V"⟩, 12), (⟨"SpilledGroups$Passes", "layGroup", "(III)V"⟩, 12)]
theorem lw_r1 : ∀ q ∈ lw_privs_1, lw_okq q := List.forall_mem_cons.mpr ⟨lw_p0, List.forall_mem_cons.mpr ⟨lw_p1, List.forall_mem_cons.mpr ⟨lw_p2, List.forall_mem_cons.mpr ⟨lw_p3, List.forall_mem_cons.mpr ⟨lw_p4, List.forall_mem_cons.mpr ⟨lw_p5, List.forall_mem_cons.mpr ⟨lw_p6, List.forall_mem_cons.mpr ⟨lw_p7, List.forall_mem_cons.mpr ⟨lw_p8, List.forall_mem_cons.mpr ⟨lw_p9, List.forall_mem_cons.mpr ⟨lw_p10, List.forall_mem_cons.mpr ⟨lw_p11, List.forall_mem_cons.mpr ⟨lw_p12, List.forall_mem_cons.mpr ⟨lw_p13, List.forall_mem_cons.mpr ⟨lw_p14, List.forall_mem_cons.mpr ⟨lw_p15, fun _ h => absurd h List.not_mem_nil⟩⟩⟩⟩⟩⟩⟩⟩⟩⟩⟩⟩⟩⟩⟩⟩
theorem lw_p16 : lw_okq (⟨"SpilledGroups$Passes", "finishMemory", "(III)V"⟩, 12) := ⟨⟨by decide +kernel, by decide +kernel⟩, List.mem_of_getElem? (i := 108) (by decide +kernel), List.mem_of_getElem? (i := 419) (by decide +kernel), List.mem_of_getElem? (i := 420) (by decide +kernel)⟩
theorem lw_p17 : lw_okq (⟨"SpilledGroups$Passes", "runFiles", "(IIII)V"⟩, 12) := ⟨⟨by decide +kernel, by decide +kernel⟩, List.mem_of_getElem? (i := 108) (by decide +kernel), List.mem_of_getElem? (i := 423) (by decide +kernel), List.mem_of_getElem? (i := 424) (by decide +kernel)⟩
theorem lw_p18 : lw_okq (⟨"SpilledGroups", "passesBy", "(II)LSpilledGroups$Passes;"⟩, 6) := ⟨⟨by decide +kernel, by decide +kernel⟩, List.mem_of_getElem? (i := 13) (by decide +kernel), List.mem_of_getElem? (i := 468) (by decide +kernel), List.mem_of_getElem? (i := 469) (by decide +kernel)⟩
theorem lw_p19 : lw_okq (⟨"SpilledGroups", "rowsInPart", "(I)I"⟩, 6) := ⟨⟨by decide +kernel, by decide +kernel⟩, List.mem_of_getElem? (i := 13) (by decide +kernel), List.mem_of_getElem? (i := 485) (by decide +kernel), List.mem_of_getElem? (i := 486) (by decide +kernel)⟩
theorem lw_p20 : lw_okq (⟨"SpilledGroups", "groupsInPart", "(I)I"⟩, 6) := ⟨⟨by decide +kernel, by decide +kernel⟩, List.mem_of_getElem? (i := 13) (by decide +kernel), List.mem_of_getElem? (i := 489) (by decide +kernel), List.mem_of_getElem? (i := 490) (by decide +kernel)⟩
theorem lw_p21 : lw_okq (⟨"SpilledGroups$Text", "readRow", "()Z"⟩, 6) := ⟨⟨by decide +kernel, by decide +kernel⟩, List.mem_of_getElem? (i := 158) (by decide +kernel), List.mem_of_getElem? (i := 529) (by decide +kernel), List.mem_of_getElem? (i := 530) (by decide +kernel)⟩
theorem lw_p22 : lw_okq (⟨"SpilledGroups$Text", "readNumber", "(I)I"⟩, 6) := ⟨⟨by decide +kernel, by decide +kernel⟩, List.mem_of_getElem? (i := 158) (by decide +kernel), List.mem_of_getElem? (i := 533) (by decide +kernel), List.mem_of_getElem? (i := 534) (by decide +kernel)⟩
theorem lw_p23 : lw_okq (⟨"SpilledGroups$Text", "readSign", "(C)Z"⟩, 6) := ⟨⟨by decide +kernel, by decide +kernel⟩, List.mem_of_getElem? (i := 158) (by decide +kernel), List.mem_of_getElem? (i := 540) (by decide +kernel), List.mem_of_getElem? (i := 541) (by decide +kernel)⟩
theorem lw_p24 : lw_okq (⟨"SpilledGroupsModel", "record", "()V"⟩, 30) := ⟨⟨by decide +kernel, by decide +kernel⟩, List.mem_of_getElem? (i := 550) (by decide +kernel), List.mem_of_getElem? (i := 663) (by decide +kernel), List.mem_of_getElem? (i := 664) (by decide +kernel)⟩
theorem lw_p25 : lw_okq (⟨"SpilledGroupsModel", "adds", "(II)V"⟩, 30) := ⟨⟨by decide +kernel, by decide +kernel⟩, List.mem_of_getElem? (i := 550) (by decide +kernel), List.mem_of_getElem? (i := 667) (by decide +kernel), List.mem_of_getElem? (i := 668) (by decide +kernel)⟩
theorem lw_p26 : lw_okq (⟨"SpilledGroupsModel", "hashOf", "(I)I"⟩, 30) := ⟨⟨by decide +kernel, by decide +kernel⟩, List.mem_of_getElem? (i := 550) (by decide +kernel), List.mem_of_getElem? (i := 693) (by decide +kernel), List.mem_of_getElem? (i := 694) (by decide +kernel)⟩
theorem lw_p27 : lw_okq (⟨"SpilledGroupsModel", "partOf", "(III)I"⟩, 30) := ⟨⟨by decide +kernel, by decide +kernel⟩, List.mem_of_getElem? (i := 550) (by decide +kernel), List.mem_of_getElem? (i := 698) (by decide +kernel), List.mem_of_getElem? (i := 699) (by decide +kernel)⟩
theorem lw_p28 : lw_okq (⟨"SpilledGroupsModel", "runNow", "()V"⟩, 30) := ⟨⟨by decide +kernel, by decide +kernel⟩, List.mem_of_getElem? (i := 550) (by decide +kernel), List.mem_of_getElem? (i := 707) (by decide +kernel), List.mem_of_getElem? (i := 708) (by decide +kernel)⟩
theorem lw_p29 : lw_okq (⟨"SpilledGroupsModel", "run", "(II)V"⟩, 30) := ⟨⟨by decide +kernel, by decide +kernel⟩, List.mem_of_getElem? (i := 550) (by decide +kernel), List.mem_of_getElem? (i := 711) (by decide +kernel), List.mem_of_getElem? (i := 712) (by decide +kernel)⟩
theorem lw_p30 : lw_okq (⟨"SpilledGroupsModel", "makes", "(IIIII)I"⟩, 30) := ⟨⟨by decide +kernel, by decide +kernel⟩, List.mem_of_getElem? (i := 550) (by decide +kernel), List.mem_of_getElem? (i := 715) (by decide +kernel), List.mem_of_getElem? (i := 716) (by decide +kernel)⟩
theorem lw_p31 : lw_okq (⟨"SpilledGroupsModel", "doPass", "(III)V"⟩, 30) := ⟨⟨by decide +kernel, by decide +kernel⟩, List.mem_of_getElem? (i := 550) (by decide +kernel), List.mem_of_getElem? (i := 719) (by decide +kernel), List.mem_of_getElem? (i := 720) (by decide +kernel)⟩
def lw_privs_2 : List (MethodName × Nat) := [(⟨"SpilledGroups$Passes", "finishMemory", "(III)V"⟩, 12), (⟨"SpilledGroups$Passes", "runFiles", "(IIII)V"⟩, 12), (⟨"SpilledGroups", "passesBy", "(II)LSpilledGroups$Passes;"⟩, 6), (⟨"SpilledGroups", "rowsInPart", "(I)I"⟩, 6), (⟨"SpilledGroups", "groupsInPart", "(I)I"⟩, 6), (⟨"SpilledGroups$Text", "readRow", "()Z"⟩, 6), (⟨"SpilledGroups$Text", "readNumber", "(I)I"⟩, 6), (⟨"SpilledGroups$Text", "readSign", "(C)Z"⟩, 6), (⟨"SpilledGroupsModel", "record", "()V"⟩, 30), (⟨"SpilledGroupsModel", "adds", "(II)V"⟩, 30), (⟨"SpilledGroupsModel", "hashOf", "(I)I"⟩, 30), (⟨"SpilledGroupsModel", "partOf", "(III)I"⟩, 30), (⟨"SpilledGroupsModel", "runNow", "()V"⟩, 30), (⟨"SpilledGroupsModel", "run", "(II)V"⟩, 30), (⟨"SpilledGroupsModel", "makes", "(IIIII)I"⟩, 30), (⟨"SpilledGroupsModel", "doPass", "(III)V"⟩, 30)]
theorem lw_r2 : ∀ q ∈ lw_privs_2, lw_okq q := List.forall_mem_cons.mpr ⟨lw_p16, List.forall_mem_cons.mpr ⟨lw_p17, List.forall_mem_cons.mpr ⟨lw_p18, List.forall_mem_cons.mpr ⟨lw_p19, List.forall_mem_cons.mpr ⟨lw_p20, List.forall_mem_cons.mpr ⟨lw_p21, List.forall_mem_cons.mpr ⟨lw_p22, List.forall_mem_cons.mpr ⟨lw_p23, List.forall_mem_cons.mpr ⟨lw_p24, List.forall_mem_cons.mpr ⟨lw_p25, List.forall_mem_cons.mpr ⟨lw_p26, List.forall_mem_cons.mpr ⟨lw_p27, List.forall_mem_cons.mpr ⟨lw_p28, List.forall_mem_cons.mpr ⟨lw_p29, List.forall_mem_cons.mpr ⟨lw_p30, List.forall_mem_cons.mpr ⟨lw_p31, fun _ h => absurd h List.not_mem_nil⟩⟩⟩⟩⟩⟩⟩⟩⟩⟩⟩⟩⟩⟩⟩⟩
theorem lw_p32 : lw_okq (⟨"SpilledGroupsModel", "of", "(II)I"⟩, 30) := ⟨⟨by decide +kernel, by decide +kernel⟩, List.mem_of_getElem? (i := 550) (by decide +kernel), List.mem_of_getElem? (i := 723) (by decide +kernel), List.mem_of_getElem? (i := 724) (by decide +kernel)⟩
theorem lw_p33 : lw_okq (⟨"SpilledGroupsModel", "counts", "(I)V"⟩, 30) := ⟨⟨by decide +kernel, by decide +kernel⟩, List.mem_of_getElem? (i := 550) (by decide +kernel), List.mem_of_getElem? (i := 727) (by decide +kernel), List.mem_of_getElem? (i := 728) (by decide +kernel)⟩
theorem lw_p34 : lw_okq (⟨"SpilledGroupsModel", "takes", "(I)Z"⟩, 30) := ⟨⟨by decide +kernel, by decide +kernel⟩, List.mem_of_getElem? (i := 550) (by decide +kernel), List.mem_of_getElem? (i := 731) (by decide +kernel), List.mem_of_getElem? (i := 732) (by decide +kernel)⟩
theorem lw_p35 : lw_okq (⟨"SpilledGroupsModel", "last", "(I)I"⟩, 30) := ⟨⟨by decide +kernel, by decide +kernel⟩, List.mem_of_getElem? (i := 550) (by decide +kernel), List.mem_of_getElem? (i := 735) (by decide +kernel), List.mem_of_getElem? (i := 736) (by decide +kernel)⟩
theorem lw_p36 : lw_okq (⟨"SpilledGroupsModel", "writes", "(II)V"⟩, 30) := ⟨⟨by decide +kernel, by decide +kernel⟩, List.mem_of_getElem? (i := 550) (by decide +kernel), List.mem_of_getElem? (i := 739) (by decide +kernel), List.mem_of_getElem? (i := 740) (by decide +kernel)⟩
theorem lw_p37 : lw_okq (⟨"SpilledGroupsModel", "inMemory", "(I)I"⟩, 30) := ⟨⟨by decide +kernel, by decide +kernel⟩, List.mem_of_getElem? (i := 550) (by decide +kernel), List.mem_of_getElem? (i := 743) (by decide +kernel), List.mem_of_getElem? (i := 744) (by decide +kernel)⟩
theorem lw_p38 : lw_okq (⟨"SpilledGroupsModel", "addsTo", "(II)V"⟩, 30) := ⟨⟨by decide +kernel, by decide +kernel⟩, List.mem_of_getElem? (i := 550) (by decide +kernel), List.mem_of_getElem? (i := 747) (by decide +kernel), List.mem_of_getElem? (i := 748) (by decide +kernel)⟩
theorem lw_p39 : lw_okq (⟨"SpilledGroupsModel", "spillsOne", "()V"⟩, 30) := ⟨⟨by decide +kernel, by decide +kernel⟩, List.mem_of_getElem? (i := 550) (by decide +kernel), List.mem_of_getElem? (i := 751) (by decide +kernel), List.mem_of_getElem? (i := 752) (by decide +kernel)⟩
theorem lw_p40 : lw_okq (⟨"SpilledGroupsModel", "manyOf", "(I)I"⟩, 30) := ⟨⟨by decide +kernel, by decide +kernel⟩, List.mem_of_getElem? (i := 550) (by decide +kernel), List.mem_of_getElem? (i := 755) (by decide +kernel), List.mem_of_getElem? (i := 756) (by decide +kernel)⟩
theorem lw_p41 : lw_okq (⟨"SpilledGroupsModel", "takesOut", "(I)V"⟩, 30) := ⟨⟨by decide +kernel, by decide +kernel⟩, List.mem_of_getElem? (i := 550) (by decide +kernel), List.mem_of_getElem? (i := 759) (by decide +kernel), List.mem_of_getElem? (i := 760) (by decide +kernel)⟩
theorem lw_p42 : lw_okq (⟨"SpilledGroupsModel", "laysGroup", "(I)V"⟩, 30) := ⟨⟨by decide +kernel, by decide +kernel⟩, List.mem_of_getElem? (i := 550) (by decide +kernel), List.mem_of_getElem? (i := 763) (by decide +kernel), List.mem_of_getElem? (i := 764) (by decide +kernel)⟩
theorem lw_p43 : lw_okq (⟨"SpilledGroupsModel", "finishes", "()V"⟩, 30) := ⟨⟨by decide +kernel, by decide +kernel⟩, List.mem_of_getElem? (i := 550) (by decide +kernel), List.mem_of_getElem? (i := 767) (by decide +kernel), List.mem_of_getElem? (i := 768) (by decide +kernel)⟩
theorem lw_p44 : lw_okq (⟨"SpilledGroupsModel", "leavesFiles", "(I)V"⟩, 30) := ⟨⟨by decide +kernel, by decide +kernel⟩, List.mem_of_getElem? (i := 550) (by decide +kernel), List.mem_of_getElem? (i := 771) (by decide +kernel), List.mem_of_getElem? (i := 772) (by decide +kernel)⟩
theorem lw_p45 : lw_okq (⟨"SpilledGroupsModel", "writtenInAll", "()I"⟩, 30) := ⟨⟨by decide +kernel, by decide +kernel⟩, List.mem_of_getElem? (i := 550) (by decide +kernel), List.mem_of_getElem? (i := 793) (by decide +kernel), List.mem_of_getElem? (i := 794) (by decide +kernel)⟩
theorem lw_p46 : lw_okq (⟨"SpilledGroupsModel", "readAgain", "()I"⟩, 30) := ⟨⟨by decide +kernel, by decide +kernel⟩, List.mem_of_getElem? (i := 550) (by decide +kernel), List.mem_of_getElem? (i := 797) (by decide +kernel), List.mem_of_getElem? (i := 798) (by decide +kernel)⟩
theorem lw_p47 : lw_okq (⟨"SpilledGroupsModel", "greatest", "(I)I"⟩, 30) := ⟨⟨by decide +kernel, by decide +kernel⟩, List.mem_of_getElem? (i := 550) (by decide +kernel), List.mem_of_getElem? (i := 801) (by decide +kernel), List.mem_of_getElem? (i := 802) (by decide +kernel)⟩
def lw_privs_3 : List (MethodName × Nat) := [(⟨"SpilledGroupsModel", "of", "(II)I"⟩, 30), (⟨"SpilledGroupsModel", "counts", "(I)V"⟩, 30), (⟨"SpilledGroupsModel", "takes", "(I)Z"⟩, 30), (⟨"SpilledGroupsModel", "last", "(I)I"⟩, 30), (⟨"SpilledGroupsModel", "writes", "(II)V"⟩, 30), (⟨"SpilledGroupsModel", "inMemory", "(I)I"⟩, 30), (⟨"SpilledGroupsModel", "addsTo", "(II)V"⟩, 30), (⟨"SpilledGroupsModel", "spillsOne", "()V"⟩, 30), (⟨"SpilledGroupsModel", "manyOf", "(I)I"⟩, 30), (⟨"SpilledGroupsModel", "takesOut", "(I)V"⟩, 30), (⟨"SpilledGroupsModel", "laysGroup", "(I)V"⟩, 30), (⟨"SpilledGroupsModel", "finishes", "()V"⟩, 30), (⟨"SpilledGroupsModel", "leavesFiles", "(I)V"⟩, 30), (⟨"SpilledGroupsModel", "writtenInAll", "()I"⟩, 30), (⟨"SpilledGroupsModel", "readAgain", "()I"⟩, 30), (⟨"SpilledGroupsModel", "greatest", "(I)I"⟩, 30)]
theorem lw_r3 : ∀ q ∈ lw_privs_3, lw_okq q := List.forall_mem_cons.mpr ⟨lw_p32, List.forall_mem_cons.mpr ⟨lw_p33, List.forall_mem_cons.mpr ⟨lw_p34, List.forall_mem_cons.mpr ⟨lw_p35, List.forall_mem_cons.mpr ⟨lw_p36, List.forall_mem_cons.mpr ⟨lw_p37, List.forall_mem_cons.mpr ⟨lw_p38, List.forall_mem_cons.mpr ⟨lw_p39, List.forall_mem_cons.mpr ⟨lw_p40, List.forall_mem_cons.mpr ⟨lw_p41, List.forall_mem_cons.mpr ⟨lw_p42, List.forall_mem_cons.mpr ⟨lw_p43, List.forall_mem_cons.mpr ⟨lw_p44, List.forall_mem_cons.mpr ⟨lw_p45, List.forall_mem_cons.mpr ⟨lw_p46, List.forall_mem_cons.mpr ⟨lw_p47, fun _ h => absurd h List.not_mem_nil⟩⟩⟩⟩⟩⟩⟩⟩⟩⟩⟩⟩⟩⟩⟩⟩
theorem lw_p48 : lw_okq (⟨"SpilledGroupsModel", "writtenBy", "(II)I"⟩, 30) := ⟨⟨by decide +kernel, by decide +kernel⟩, List.mem_of_getElem? (i := 550) (by decide +kernel), List.mem_of_getElem? (i := 809) (by decide +kernel), List.mem_of_getElem? (i := 810) (by decide +kernel)⟩
theorem lw_p49 : lw_okq (⟨"SpilledGroupsModel", "rowsIn", "(I)I"⟩, 30) := ⟨⟨by decide +kernel, by decide +kernel⟩, List.mem_of_getElem? (i := 550) (by decide +kernel), List.mem_of_getElem? (i := 826) (by decide +kernel), List.mem_of_getElem? (i := 827) (by decide +kernel)⟩
theorem lw_p50 : lw_okq (⟨"SpilledGroupsModel", "groupsIn", "(I)I"⟩, 30) := ⟨⟨by decide +kernel, by decide +kernel⟩, List.mem_of_getElem? (i := 550) (by decide +kernel), List.mem_of_getElem? (i := 830) (by decide +kernel), List.mem_of_getElem? (i := 831) (by decide +kernel)⟩
theorem lw_p51 : lw_okq (⟨"SpilledGroupsModel", "isFirst", "(I)Z"⟩, 30) := ⟨⟨by decide +kernel, by decide +kernel⟩, List.mem_of_getElem? (i := 550) (by decide +kernel), List.mem_of_getElem? (i := 834) (by decide +kernel), List.mem_of_getElem? (i := 835) (by decide +kernel)⟩
theorem lw_p52 : lw_okq (⟨"SpilledGroupsModel", "hasFault", "()Z"⟩, 30) := ⟨⟨by decide +kernel, by decide +kernel⟩, List.mem_of_getElem? (i := 550) (by decide +kernel), List.mem_of_getElem? (i := 862) (by decide +kernel), List.mem_of_getElem? (i := 863) (by decide +kernel)⟩
theorem lw_p53 : lw_okq (⟨"SpilledGroupsModel", "readsRow", "()Z"⟩, 30) := ⟨⟨by decide +kernel, by decide +kernel⟩, List.mem_of_getElem? (i := 550) (by decide +kernel), List.mem_of_getElem? (i := 866) (by decide +kernel), List.mem_of_getElem? (i := 867) (by decide +kernel)⟩
theorem lw_p54 : lw_okq (⟨"SpilledGroupsModel", "takesNumber", "(I)Z"⟩, 30) := ⟨⟨by decide +kernel, by decide +kernel⟩, List.mem_of_getElem? (i := 550) (by decide +kernel), List.mem_of_getElem? (i := 870) (by decide +kernel), List.mem_of_getElem? (i := 871) (by decide +kernel)⟩
theorem lw_p55 : lw_okq (⟨"SpilledGroupsModel", "takesOne", "(I)Z"⟩, 30) := ⟨⟨by decide +kernel, by decide +kernel⟩, List.mem_of_getElem? (i := 550) (by decide +kernel), List.mem_of_getElem? (i := 876) (by decide +kernel), List.mem_of_getElem? (i := 877) (by decide +kernel)⟩
def lw_privs_4 : List (MethodName × Nat) := [(⟨"SpilledGroupsModel", "writtenBy", "(II)I"⟩, 30), (⟨"SpilledGroupsModel", "rowsIn", "(I)I"⟩, 30), (⟨"SpilledGroupsModel", "groupsIn", "(I)I"⟩, 30), (⟨"SpilledGroupsModel", "isFirst", "(I)Z"⟩, 30), (⟨"SpilledGroupsModel", "hasFault", "()Z"⟩, 30), (⟨"SpilledGroupsModel", "readsRow", "()Z"⟩, 30), (⟨"SpilledGroupsModel", "takesNumber", "(I)Z"⟩, 30), (⟨"SpilledGroupsModel", "takesOne", "(I)Z"⟩, 30)]
theorem lw_r4 : ∀ q ∈ lw_privs_4, lw_okq q := List.forall_mem_cons.mpr ⟨lw_p48, List.forall_mem_cons.mpr ⟨lw_p49, List.forall_mem_cons.mpr ⟨lw_p50, List.forall_mem_cons.mpr ⟨lw_p51, List.forall_mem_cons.mpr ⟨lw_p52, List.forall_mem_cons.mpr ⟨lw_p53, List.forall_mem_cons.mpr ⟨lw_p54, List.forall_mem_cons.mpr ⟨lw_p55, fun _ h => absurd h List.not_mem_nil⟩⟩⟩⟩⟩⟩⟩⟩
def lw_privs : List (MethodName × Nat) := lw_privs_1 ++ (lw_privs_2 ++ (lw_privs_3 ++ (lw_privs_4)))
def lw_tbl : List Cond := k2_sels lw_privs ++ tables_1
theorem lw_privs_ok : ∀ q ∈ lw_privs, lw_okq q := by
  show ∀ q ∈ lw_privs_1 ++ (lw_privs_2 ++ (lw_privs_3 ++ (lw_privs_4))), lw_okq q
  exact List.forall_mem_append.mpr ⟨lw_r1, List.forall_mem_append.mpr ⟨lw_r2, List.forall_mem_append.mpr ⟨lw_r3, lw_r4⟩⟩⟩

/-! names (turned from claim/NAMES.whole.lean.txt by program) -/
def RX0 : String := "SpilledGroups$Groups"
def TX0 : u_T := fun k => match k with
  | 0 => ("SpilledGroups$Groups", "facts", "LSpilledGroups$Table;", true)
  | _ => ("SpilledGroups$Groups", "ofRows", "LSpilledGroups$Table;", true)
def tyX0 : Nat → FieldType := fun k => match k with
  | 0 => .object "SpilledGroups$Table"
  | _ => .object "SpilledGroups$Table"
theorem nmX0 : ∀ a, a < 2 → ∀ b, b < 2 → a ≠ b → (TX0 a).2.1 ≠ (TX0 b).2.1 := by decide +kernel
theorem tyX0_ok : ∀ k, k < 2 → parseFieldDescriptor (TX0 k).2.2.1 = some (tyX0 k) := by decide +kernel
abbrev cX0_init : ByteArray := prog_2_method_1_code
def yX0_init : MethodName := ⟨RX0, "<init>", "()V"⟩
abbrev cX0_gather : ByteArray := prog_2_method_2_code
def yX0_gather : MethodName := ⟨RX0, "gather", "(LSpilledGroups$State;)V"⟩
abbrev cX0_addRow : ByteArray := prog_2_method_3_code
def yX0_addRow : MethodName := ⟨RX0, "addRow", "(III)V"⟩
def RX1 : String := "SpilledGroups$History"
def TX1 : u_T := fun k => match k with
  | 0 => ("SpilledGroups$History", "states", "[LSpilledGroups$State;", true)
  | 1 => ("SpilledGroups$History", "oldest", "I", false)
  | _ => ("SpilledGroups$History", "length", "I", false)
def tyX1 : Nat → FieldType := fun k => match k with
  | 0 => .array (.object "SpilledGroups$State")
  | 1 => .int
  | _ => .int
theorem nmX1 : ∀ a, a < 3 → ∀ b, b < 3 → a ≠ b → (TX1 a).2.1 ≠ (TX1 b).2.1 := by decide +kernel
theorem tyX1_ok : ∀ k, k < 3 → parseFieldDescriptor (TX1 k).2.2.1 = some (tyX1 k) := by decide +kernel
abbrev cX1_init : ByteArray := prog_3_method_1_code
def yX1_init : MethodName := ⟨RX1, "<init>", "()V"⟩
abbrev cX1_length : ByteArray := prog_3_method_2_code
def yX1_length : MethodName := ⟨RX1, "length", "()I"⟩
abbrev cX1_keep : ByteArray := prog_3_method_3_code
def yX1_keep : MethodName := ⟨RX1, "keep", "(LSpilledGroups$State;)V"⟩
abbrev cX1_restore : ByteArray := prog_3_method_4_code
def yX1_restore : MethodName := ⟨RX1, "restore", "(LSpilledGroups$State;)V"⟩
abbrev cX1_stateAt : ByteArray := prog_3_method_5_code
def yX1_stateAt : MethodName := ⟨RX1, "stateAt", "(I)LSpilledGroups$State;"⟩
def RX2 : String := "SpilledGroups$Passes"
def TX2 : u_T := fun k => match k with
  | 0 => ("SpilledGroups$Passes", "groups", "LSpilledGroups$Groups;", true)
  | 1 => ("SpilledGroups$Passes", "passes", "LSpilledGroups$Table;", true)
  | 2 => ("SpilledGroups$Passes", "spills", "LSpilledGroups$Table;", true)
  | 3 => ("SpilledGroups$Passes", "ends", "LSpilledGroups$Table;", true)
  | 4 => ("SpilledGroups$Passes", "order", "LSpilledGroups$Table;", true)
  | 5 => ("SpilledGroups$Passes", "memory", "LSpilledGroups$Table;", true)
  | 6 => ("SpilledGroups$Passes", "parts", "LSpilledGroups$Table;", true)
  | 7 => ("SpilledGroups$Passes", "items", "LSpilledGroups$Table;", true)
  | 8 => ("SpilledGroups$Passes", "beyond", "I", false)
  | 9 => ("SpilledGroups$Passes", "limit", "I", false)
  | 10 => ("SpilledGroups$Passes", "bits", "I", false)
  | _ => ("SpilledGroups$Passes", "lastLevel", "I", false)
def tyX2 : Nat → FieldType := fun k => match k with
  | 0 => .object "SpilledGroups$Groups"
  | 1 => .object "SpilledGroups$Table"
  | 2 => .object "SpilledGroups$Table"
  | 3 => .object "SpilledGroups$Table"
  | 4 => .object "SpilledGroups$Table"
  | 5 => .object "SpilledGroups$Table"
  | 6 => .object "SpilledGroups$Table"
  | 7 => .object "SpilledGroups$Table"
  | 8 => .int
  | 9 => .int
  | 10 => .int
  | _ => .int
theorem nmX2 : ∀ a, a < 12 → ∀ b, b < 12 → a ≠ b → (TX2 a).2.1 ≠ (TX2 b).2.1 := by decide +kernel
theorem tyX2_ok : ∀ k, k < 12 → parseFieldDescriptor (TX2 k).2.2.1 = some (tyX2 k) := by decide +kernel
abbrev cX2_init : ByteArray := prog_4_method_1_code
def yX2_init : MethodName := ⟨RX2, "<init>", "(LSpilledGroups$Groups;)V"⟩
abbrev cX2_forget : ByteArray := prog_4_method_2_code
def yX2_forget : MethodName := ⟨RX2, "forget", "()V"⟩
abbrev cX2_run : ByteArray := prog_4_method_3_code
def yX2_run : MethodName := ⟨RX2, "run", "(II)V"⟩
abbrev cX2_find : ByteArray := prog_4_method_4_code
def yX2_find : MethodName := ⟨RX2, "find", "(II)I"⟩
abbrev cX2_itemsFiled : ByteArray := prog_4_method_5_code
def yX2_itemsFiled : MethodName := ⟨RX2, "itemsFiled", "()I"⟩
abbrev cX2_itemsRead : ByteArray := prog_4_method_6_code
def yX2_itemsRead : MethodName := ⟨RX2, "itemsRead", "()I"⟩
abbrev cX2_runPass : ByteArray := prog_4_method_7_code
def yX2_runPass : MethodName := ⟨RX2, "runPass", "(III)V"⟩
abbrev cX2_runFiles : ByteArray := prog_4_method_8_code
def yX2_runFiles : MethodName := ⟨RX2, "runFiles", "(IIII)V"⟩
abbrev cX2_needsSpill : ByteArray := prog_4_method_9_code
def yX2_needsSpill : MethodName := ⟨RX2, "needsSpill", "(III)Z"⟩
abbrev cX2_takeItem : ByteArray := prog_4_method_10_code
def yX2_takeItem : MethodName := ⟨RX2, "takeItem", "(III)V"⟩
abbrev cX2_layGroup : ByteArray := prog_4_method_11_code
def yX2_layGroup : MethodName := ⟨RX2, "layGroup", "(III)V"⟩
abbrev cX2_spillPart : ByteArray := prog_4_method_12_code
def yX2_spillPart : MethodName := ⟨RX2, "spillPart", "(II)V"⟩
abbrev cX2_finishMemory : ByteArray := prog_4_method_13_code
def yX2_finishMemory : MethodName := ⟨RX2, "finishMemory", "(III)V"⟩
abbrev cX2_fullestPart : ByteArray := prog_4_method_14_code
def yX2_fullestPart : MethodName := ⟨RX2, "fullestPart", "()I"⟩
abbrev cX2_isSpilled : ByteArray := prog_4_method_15_code
def yX2_isSpilled : MethodName := ⟨RX2, "isSpilled", "(II)Z"⟩
abbrev cX2_isHeld : ByteArray := prog_4_method_16_code
def yX2_isHeld : MethodName := ⟨RX2, "isHeld", "(I)Z"⟩
abbrev cX2_prefixOf : ByteArray := prog_4_method_17_code
def yX2_prefixOf : MethodName := ⟨RX2, "prefixOf", "(II)I"⟩
abbrev cX2_partOf : ByteArray := prog_4_method_18_code
def yX2_partOf : MethodName := ⟨RX2, "partOf", "(II)I"⟩
def RX3 : String := "SpilledGroups$State"
def TX3 : u_T := fun k => match k with
  | 0 => ("SpilledGroups$State", "rows", "LSpilledGroups$Table;", true)
  | _ => ("SpilledGroups$State", "settings", "LSpilledGroups$Table;", true)
def tyX3 : Nat → FieldType := fun k => match k with
  | 0 => .object "SpilledGroups$Table"
  | _ => .object "SpilledGroups$Table"
theorem nmX3 : ∀ a, a < 2 → ∀ b, b < 2 → a ≠ b → (TX3 a).2.1 ≠ (TX3 b).2.1 := by decide +kernel
theorem tyX3_ok : ∀ k, k < 2 → parseFieldDescriptor (TX3 k).2.2.1 = some (tyX3 k) := by decide +kernel
abbrev cX3_init : ByteArray := prog_5_method_1_code
def yX3_init : MethodName := ⟨RX3, "<init>", "()V"⟩
abbrev cX3_setting : ByteArray := prog_5_method_2_code
def yX3_setting : MethodName := ⟨RX3, "setting", "(I)I"⟩
abbrev cX3_keyOf : ByteArray := prog_5_method_3_code
def yX3_keyOf : MethodName := ⟨RX3, "keyOf", "(I)I"⟩
abbrev cX3_valueOf : ByteArray := prog_5_method_4_code
def yX3_valueOf : MethodName := ⟨RX3, "valueOf", "(I)I"⟩
abbrev cX3_hashOf : ByteArray := prog_5_method_5_code
def yX3_hashOf : MethodName := ⟨RX3, "hashOf", "(I)I"⟩
abbrev cX3_addRow : ByteArray := prog_5_method_6_code
def yX3_addRow : MethodName := ⟨RX3, "addRow", "(II)V"⟩
abbrev cX3_copyFrom : ByteArray := prog_5_method_7_code
def yX3_copyFrom : MethodName := ⟨RX3, "copyFrom", "(LSpilledGroups$State;)V"⟩
def RX4 : String := "SpilledGroups$Table"
def TX4 : u_T := fun k => match k with
  | 0 => ("SpilledGroups$Table", "cells", "[I", true)
  | 1 => ("SpilledGroups$Table", "width", "I", true)
  | 2 => ("SpilledGroups$Table", "room", "I", true)
  | _ => ("SpilledGroups$Table", "length", "I", false)
def tyX4 : Nat → FieldType := fun k => match k with
  | 0 => .array .int
  | 1 => .int
  | 2 => .int
  | _ => .int
theorem nmX4 : ∀ a, a < 4 → ∀ b, b < 4 → a ≠ b → (TX4 a).2.1 ≠ (TX4 b).2.1 := by decide +kernel
theorem tyX4_ok : ∀ k, k < 4 → parseFieldDescriptor (TX4 k).2.2.1 = some (tyX4 k) := by decide +kernel
abbrev cX4_init : ByteArray := prog_6_method_1_code
def yX4_init : MethodName := ⟨RX4, "<init>", "(II)V"⟩
abbrev cX4_length : ByteArray := prog_6_method_2_code
def yX4_length : MethodName := ⟨RX4, "length", "()I"⟩
abbrev cX4_at : ByteArray := prog_6_method_3_code
def yX4_at : MethodName := ⟨RX4, "at", "(II)I"⟩
abbrev cX4_put : ByteArray := prog_6_method_4_code
def yX4_put : MethodName := ⟨RX4, "put", "(III)V"⟩
abbrev cX4_raise : ByteArray := prog_6_method_5_code
def yX4_raise : MethodName := ⟨RX4, "raise", "(III)V"⟩
abbrev cX4_append : ByteArray := prog_6_method_6_code
def yX4_append : MethodName := ⟨RX4, "append", "(I)I"⟩
abbrev cX4_insert : ByteArray := prog_6_method_7_code
def yX4_insert : MethodName := ⟨RX4, "insert", "(II)V"⟩
abbrev cX4_remove : ByteArray := prog_6_method_8_code
def yX4_remove : MethodName := ⟨RX4, "remove", "(I)V"⟩
abbrev cX4_shorten : ByteArray := prog_6_method_9_code
def yX4_shorten : MethodName := ⟨RX4, "shorten", "(I)V"⟩
abbrev cX4_reset : ByteArray := prog_6_method_10_code
def yX4_reset : MethodName := ⟨RX4, "reset", "(I)V"⟩
abbrev cX4_copyFrom : ByteArray := prog_6_method_11_code
def yX4_copyFrom : MethodName := ⟨RX4, "copyFrom", "(LSpilledGroups$Table;)V"⟩
abbrev cX4_placeOf : ByteArray := prog_6_method_12_code
def yX4_placeOf : MethodName := ⟨RX4, "placeOf", "(I)I"⟩
abbrev cX4_sumOf : ByteArray := prog_6_method_13_code
def yX4_sumOf : MethodName := ⟨RX4, "sumOf", "(I)I"⟩
abbrev cX4_greatestOf : ByteArray := prog_6_method_14_code
def yX4_greatestOf : MethodName := ⟨RX4, "greatestOf", "(I)I"⟩
def RX5 : String := "SpilledGroups$Text"
def TX5 : u_T := fun k => match k with
  | 0 => ("SpilledGroups$Text", "characters", "LSpilledGroups$Table;", true)
  | 1 => ("SpilledGroups$Text", "rows", "LSpilledGroups$Table;", true)
  | 2 => ("SpilledGroups$Text", "position", "I", false)
  | 3 => ("SpilledGroups$Text", "reason", "I", false)
  | 4 => ("SpilledGroups$Text", "cause", "I", false)
  | _ => ("SpilledGroups$Text", "next", "I", false)
def tyX5 : Nat → FieldType := fun k => match k with
  | 0 => .object "SpilledGroups$Table"
  | 1 => .object "SpilledGroups$Table"
  | 2 => .int
  | 3 => .int
  | 4 => .int
  | _ => .int
theorem nmX5 : ∀ a, a < 6 → ∀ b, b < 6 → a ≠ b → (TX5 a).2.1 ≠ (TX5 b).2.1 := by decide +kernel
theorem tyX5_ok : ∀ k, k < 6 → parseFieldDescriptor (TX5 k).2.2.1 = some (tyX5 k) := by decide +kernel
abbrev cX5_init : ByteArray := prog_7_method_1_code
def yX5_init : MethodName := ⟨RX5, "<init>", "()V"⟩
abbrev cX5_read : ByteArray := prog_7_method_2_code
def yX5_read : MethodName := ⟨RX5, "read", "(I)V"⟩
abbrev cX5_readRow : ByteArray := prog_7_method_3_code
def yX5_readRow : MethodName := ⟨RX5, "readRow", "()Z"⟩
abbrev cX5_readNumber : ByteArray := prog_7_method_4_code
def yX5_readNumber : MethodName := ⟨RX5, "readNumber", "(I)I"⟩
abbrev cX5_readSign : ByteArray := prog_7_method_5_code
def yX5_readSign : MethodName := ⟨RX5, "readSign", "(C)Z"⟩
def RX6 : String := "SpilledGroups"
def TX6 : u_T := fun k => match k with
  | 0 => ("SpilledGroups", "now", "LSpilledGroups$State;", true)
  | 1 => ("SpilledGroups", "history", "LSpilledGroups$History;", true)
  | 2 => ("SpilledGroups", "groups", "LSpilledGroups$Groups;", true)
  | 3 => ("SpilledGroups", "passes", "LSpilledGroups$Passes;", true)
  | 4 => ("SpilledGroups", "text", "LSpilledGroups$Text;", true)
  | _ => ("SpilledGroups", "groupsAreOld", "Z", false)
def tyX6 : Nat → FieldType := fun k => match k with
  | 0 => .object "SpilledGroups$State"
  | 1 => .object "SpilledGroups$History"
  | 2 => .object "SpilledGroups$Groups"
  | 3 => .object "SpilledGroups$Passes"
  | 4 => .object "SpilledGroups$Text"
  | _ => .boolean
theorem nmX6 : ∀ a, a < 6 → ∀ b, b < 6 → a ≠ b → (TX6 a).2.1 ≠ (TX6 b).2.1 := by decide +kernel
theorem tyX6_ok : ∀ k, k < 6 → parseFieldDescriptor (TX6 k).2.2.1 = some (tyX6 k) := by decide +kernel
abbrev cX6_init : ByteArray := prog_1_method_1_code
def yX6_init : MethodName := ⟨RX6, "<init>", "()V"⟩
abbrev cX6_row : ByteArray := prog_1_method_2_code
def yX6_row : MethodName := ⟨RX6, "row", "(II)I"⟩
abbrev cX6_drop : ByteArray := prog_1_method_3_code
def yX6_drop : MethodName := ⟨RX6, "drop", "(I)I"⟩
abbrev cX6_clear : ByteArray := prog_1_method_4_code
def yX6_clear : MethodName := ⟨RX6, "clear", "()I"⟩
abbrev cX6_set : ByteArray := prog_1_method_5_code
def yX6_set : MethodName := ⟨RX6, "set", "(II)I"⟩
abbrev cX6_rowOf : ByteArray := prog_1_method_6_code
def yX6_rowOf : MethodName := ⟨RX6, "rowOf", "(II)I"⟩
abbrev cX6_groupOf : ByteArray := prog_1_method_7_code
def yX6_groupOf : MethodName := ⟨RX6, "groupOf", "(II)I"⟩
abbrev cX6_finished : ByteArray := prog_1_method_8_code
def yX6_finished : MethodName := ⟨RX6, "finished", "(I)I"⟩
abbrev cX6_passOf : ByteArray := prog_1_method_9_code
def yX6_passOf : MethodName := ⟨RX6, "passOf", "(III)I"⟩
abbrev cX6_spillOf : ByteArray := prog_1_method_10_code
def yX6_spillOf : MethodName := ⟨RX6, "spillOf", "(II)I"⟩
abbrev cX6_total : ByteArray := prog_1_method_11_code
def yX6_total : MethodName := ⟨RX6, "total", "(I)I"⟩
abbrev cX6_written : ByteArray := prog_1_method_12_code
def yX6_written : MethodName := ⟨RX6, "written", "(II)I"⟩
abbrev cX6_bestBits : ByteArray := prog_1_method_13_code
def yX6_bestBits : MethodName := ⟨RX6, "bestBits", "(II)I"⟩
abbrev cX6_enough : ByteArray := prog_1_method_14_code
def yX6_enough : MethodName := ⟨RX6, "enough", "()I"⟩
abbrev cX6_skewed : ByteArray := prog_1_method_15_code
def yX6_skewed : MethodName := ⟨RX6, "skewed", "(I)I"⟩
abbrev cX6_count : ByteArray := prog_1_method_16_code
def yX6_count : MethodName := ⟨RX6, "count", "(I)I"⟩
abbrev cX6_undo : ByteArray := prog_1_method_17_code
def yX6_undo : MethodName := ⟨RX6, "undo", "()I"⟩
abbrev cX6_type : ByteArray := prog_1_method_18_code
def yX6_type : MethodName := ⟨RX6, "type", "(I)I"⟩
abbrev cX6_clearText : ByteArray := prog_1_method_19_code
def yX6_clearText : MethodName := ⟨RX6, "clearText", "()I"⟩
abbrev cX6_fault : ByteArray := prog_1_method_20_code
def yX6_fault : MethodName := ⟨RX6, "fault", "(I)I"⟩
abbrev cX6_play : ByteArray := prog_1_method_21_code
def yX6_play : MethodName := ⟨RX6, "play", "()I"⟩
abbrev cX6_isOutside : ByteArray := prog_1_method_22_code
def yX6_isOutside : MethodName := ⟨RX6, "isOutside", "(III)Z"⟩
abbrev cX6_isSettingValue : ByteArray := prog_1_method_23_code
def yX6_isSettingValue : MethodName := ⟨RX6, "isSettingValue", "(II)Z"⟩
abbrev cX6_beginChange : ByteArray := prog_1_method_24_code
def yX6_beginChange : MethodName := ⟨RX6, "beginChange", "()V"⟩
abbrev cX6_groupsNow : ByteArray := prog_1_method_25_code
def yX6_groupsNow : MethodName := ⟨RX6, "groupsNow", "()LSpilledGroups$Groups;"⟩
abbrev cX6_passesNow : ByteArray := prog_1_method_26_code
def yX6_passesNow : MethodName := ⟨RX6, "passesNow", "()LSpilledGroups$Passes;"⟩
abbrev cX6_passesBy : ByteArray := prog_1_method_27_code
def yX6_passesBy : MethodName := ⟨RX6, "passesBy", "(II)LSpilledGroups$Passes;"⟩
abbrev cX6_firstPart : ByteArray := prog_1_method_28_code
def yX6_firstPart : MethodName := ⟨RX6, "firstPart", "(I)I"⟩
abbrev cX6_rowsInPart : ByteArray := prog_1_method_29_code
def yX6_rowsInPart : MethodName := ⟨RX6, "rowsInPart", "(I)I"⟩
abbrev cX6_groupsInPart : ByteArray := prog_1_method_30_code
def yX6_groupsInPart : MethodName := ⟨RX6, "groupsInPart", "(I)I"⟩
def RX7 : String := "SpilledGroupsModel"
def TX7 : u_T := fun k => match k with
  | 0 => ("SpilledGroupsModel", "all", "[I", true)
  | 1 => ("SpilledGroupsModel", "history", "[I", true)
  | 2 => ("SpilledGroupsModel", "historyLong", "I", false)
  | 3 => ("SpilledGroupsModel", "item", "[I", true)
  | 4 => ("SpilledGroupsModel", "items", "I", false)
  | 5 => ("SpilledGroupsModel", "group", "[I", true)
  | 6 => ("SpilledGroupsModel", "groups", "I", false)
  | 7 => ("SpilledGroupsModel", "pass", "[I", true)
  | 8 => ("SpilledGroupsModel", "passes", "I", false)
  | 9 => ("SpilledGroupsModel", "spill", "[I", true)
  | 10 => ("SpilledGroupsModel", "spills", "I", false)
  | 11 => ("SpilledGroupsModel", "done", "[I", true)
  | 12 => ("SpilledGroupsModel", "dones", "I", false)
  | 13 => ("SpilledGroupsModel", "beyond", "I", false)
  | 14 => ("SpilledGroupsModel", "bits", "I", false)
  | 15 => ("SpilledGroupsModel", "limit", "I", false)
  | 16 => ("SpilledGroupsModel", "waits", "[I", true)
  | 17 => ("SpilledGroupsModel", "waiting", "I", false)
  | 18 => ("SpilledGroupsModel", "first", "[I", true)
  | 19 => ("SpilledGroupsModel", "last", "[I", true)
  | 20 => ("SpilledGroupsModel", "long0", "[I", true)
  | 21 => ("SpilledGroupsModel", "text", "[I", true)
  | 22 => ("SpilledGroupsModel", "textLong", "I", false)
  | 23 => ("SpilledGroupsModel", "from", "I", false)
  | 24 => ("SpilledGroupsModel", "at", "I", false)
  | 25 => ("SpilledGroupsModel", "readKey", "I", false)
  | 26 => ("SpilledGroupsModel", "readValue", "I", false)
  | 27 => ("SpilledGroupsModel", "number", "I", false)
  | 28 => ("SpilledGroupsModel", "why", "I", false)
  | _ => ("SpilledGroupsModel", "cause", "I", false)
def tyX7 : Nat → FieldType := fun k => match k with
  | 0 => .array .int
  | 1 => .array .int
  | 2 => .int
  | 3 => .array .int
  | 4 => .int
  | 5 => .array .int
  | 6 => .int
  | 7 => .array .int
  | 8 => .int
  | 9 => .array .int
  | 10 => .int
  | 11 => .array .int
  | 12 => .int
  | 13 => .int
  | 14 => .int
  | 15 => .int
  | 16 => .array .int
  | 17 => .int
  | 18 => .array .int
  | 19 => .array .int
  | 20 => .array .int
  | 21 => .array .int
  | 22 => .int
  | 23 => .int
  | 24 => .int
  | 25 => .int
  | 26 => .int
  | 27 => .int
  | 28 => .int
  | _ => .int
theorem nmX7 : ∀ a, a < 30 → ∀ b, b < 30 → a ≠ b → (TX7 a).2.1 ≠ (TX7 b).2.1 := by decide +kernel
theorem tyX7_ok : ∀ k, k < 30 → parseFieldDescriptor (TX7 k).2.2.1 = some (tyX7 k) := by decide +kernel
abbrev cX7_init : ByteArray := prog_9_method_1_code
def yX7_init : MethodName := ⟨RX7, "<init>", "()V"⟩
abbrev cX7_in : ByteArray := prog_9_method_3_code
def yX7_in : MethodName := ⟨RX7, "in", "(JJJ)Z"⟩
abbrev cX7_record : ByteArray := prog_9_method_4_code
def yX7_record : MethodName := ⟨RX7, "record", "()V"⟩
abbrev cX7_isRow : ByteArray := prog_9_method_5_code
def yX7_isRow : MethodName := ⟨RX7, "isRow", "(II)Z"⟩
abbrev cX7_adds : ByteArray := prog_9_method_6_code
def yX7_adds : MethodName := ⟨RX7, "adds", "(II)V"⟩
abbrev cX7_row : ByteArray := prog_9_method_7_code
def yX7_row : MethodName := ⟨RX7, "row", "(II)I"⟩
abbrev cX7_drop : ByteArray := prog_9_method_8_code
def yX7_drop : MethodName := ⟨RX7, "drop", "(I)I"⟩
abbrev cX7_clear : ByteArray := prog_9_method_9_code
def yX7_clear : MethodName := ⟨RX7, "clear", "()I"⟩
abbrev cX7_set : ByteArray := prog_9_method_10_code
def yX7_set : MethodName := ⟨RX7, "set", "(II)I"⟩
abbrev cX7_hashOf : ByteArray := prog_9_method_11_code
def yX7_hashOf : MethodName := ⟨RX7, "hashOf", "(I)I"⟩
abbrev cX7_partOf : ByteArray := prog_9_method_12_code
def yX7_partOf : MethodName := ⟨RX7, "partOf", "(III)I"⟩
abbrev cX7_rowOf : ByteArray := prog_9_method_13_code
def yX7_rowOf : MethodName := ⟨RX7, "rowOf", "(II)I"⟩
abbrev cX7_makes : ByteArray := prog_9_method_14_code
def yX7_makes : MethodName := ⟨RX7, "makes", "(IIIII)I"⟩
abbrev cX7_of : ByteArray := prog_9_method_15_code
def yX7_of : MethodName := ⟨RX7, "of", "(II)I"⟩
abbrev cX7_inMemory : ByteArray := prog_9_method_16_code
def yX7_inMemory : MethodName := ⟨RX7, "inMemory", "(I)I"⟩
abbrev cX7_addsTo : ByteArray := prog_9_method_17_code
def yX7_addsTo : MethodName := ⟨RX7, "addsTo", "(II)V"⟩
abbrev cX7_laysGroup : ByteArray := prog_9_method_18_code
def yX7_laysGroup : MethodName := ⟨RX7, "laysGroup", "(I)V"⟩
abbrev cX7_takesOut : ByteArray := prog_9_method_19_code
def yX7_takesOut : MethodName := ⟨RX7, "takesOut", "(I)V"⟩
abbrev cX7_last : ByteArray := prog_9_method_20_code
def yX7_last : MethodName := ⟨RX7, "last", "(I)I"⟩
abbrev cX7_counts : ByteArray := prog_9_method_21_code
def yX7_counts : MethodName := ⟨RX7, "counts", "(I)V"⟩
abbrev cX7_writes : ByteArray := prog_9_method_22_code
def yX7_writes : MethodName := ⟨RX7, "writes", "(II)V"⟩
abbrev cX7_manyOf : ByteArray := prog_9_method_23_code
def yX7_manyOf : MethodName := ⟨RX7, "manyOf", "(I)I"⟩
abbrev cX7_spillsOne : ByteArray := prog_9_method_24_code
def yX7_spillsOne : MethodName := ⟨RX7, "spillsOne", "()V"⟩
abbrev cX7_takes : ByteArray := prog_9_method_25_code
def yX7_takes : MethodName := ⟨RX7, "takes", "(I)Z"⟩
abbrev cX7_finishes : ByteArray := prog_9_method_26_code
def yX7_finishes : MethodName := ⟨RX7, "finishes", "()V"⟩
abbrev cX7_leavesFiles : ByteArray := prog_9_method_27_code
def yX7_leavesFiles : MethodName := ⟨RX7, "leavesFiles", "(I)V"⟩
abbrev cX7_doPass : ByteArray := prog_9_method_28_code
def yX7_doPass : MethodName := ⟨RX7, "doPass", "(III)V"⟩
abbrev cX7_run : ByteArray := prog_9_method_29_code
def yX7_run : MethodName := ⟨RX7, "run", "(II)V"⟩
abbrev cX7_runNow : ByteArray := prog_9_method_30_code
def yX7_runNow : MethodName := ⟨RX7, "runNow", "()V"⟩
abbrev cX7_groupOf : ByteArray := prog_9_method_31_code
def yX7_groupOf : MethodName := ⟨RX7, "groupOf", "(II)I"⟩
abbrev cX7_finished : ByteArray := prog_9_method_32_code
def yX7_finished : MethodName := ⟨RX7, "finished", "(I)I"⟩
abbrev cX7_passOf : ByteArray := prog_9_method_33_code
def yX7_passOf : MethodName := ⟨RX7, "passOf", "(III)I"⟩
abbrev cX7_spillOf : ByteArray := prog_9_method_34_code
def yX7_spillOf : MethodName := ⟨RX7, "spillOf", "(II)I"⟩
abbrev cX7_writtenInAll : ByteArray := prog_9_method_35_code
def yX7_writtenInAll : MethodName := ⟨RX7, "writtenInAll", "()I"⟩
abbrev cX7_readAgain : ByteArray := prog_9_method_36_code
def yX7_readAgain : MethodName := ⟨RX7, "readAgain", "()I"⟩
abbrev cX7_greatest : ByteArray := prog_9_method_37_code
def yX7_greatest : MethodName := ⟨RX7, "greatest", "(I)I"⟩
abbrev cX7_total : ByteArray := prog_9_method_38_code
def yX7_total : MethodName := ⟨RX7, "total", "(I)I"⟩
abbrev cX7_writtenBy : ByteArray := prog_9_method_39_code
def yX7_writtenBy : MethodName := ⟨RX7, "writtenBy", "(II)I"⟩
abbrev cX7_written : ByteArray := prog_9_method_40_code
def yX7_written : MethodName := ⟨RX7, "written", "(II)I"⟩
abbrev cX7_bestBits : ByteArray := prog_9_method_41_code
def yX7_bestBits : MethodName := ⟨RX7, "bestBits", "(II)I"⟩
abbrev cX7_enough : ByteArray := prog_9_method_42_code
def yX7_enough : MethodName := ⟨RX7, "enough", "()I"⟩
abbrev cX7_rowsIn : ByteArray := prog_9_method_43_code
def yX7_rowsIn : MethodName := ⟨RX7, "rowsIn", "(I)I"⟩
abbrev cX7_isFirst : ByteArray := prog_9_method_44_code
def yX7_isFirst : MethodName := ⟨RX7, "isFirst", "(I)Z"⟩
abbrev cX7_groupsIn : ByteArray := prog_9_method_45_code
def yX7_groupsIn : MethodName := ⟨RX7, "groupsIn", "(I)I"⟩
abbrev cX7_skewed : ByteArray := prog_9_method_46_code
def yX7_skewed : MethodName := ⟨RX7, "skewed", "(I)I"⟩
abbrev cX7_count : ByteArray := prog_9_method_47_code
def yX7_count : MethodName := ⟨RX7, "count", "(I)I"⟩
abbrev cX7_undo : ByteArray := prog_9_method_48_code
def yX7_undo : MethodName := ⟨RX7, "undo", "()I"⟩
abbrev cX7_type : ByteArray := prog_9_method_49_code
def yX7_type : MethodName := ⟨RX7, "type", "(I)I"⟩
abbrev cX7_clearText : ByteArray := prog_9_method_50_code
def yX7_clearText : MethodName := ⟨RX7, "clearText", "()I"⟩
abbrev cX7_takesOne : ByteArray := prog_9_method_51_code
def yX7_takesOne : MethodName := ⟨RX7, "takesOne", "(I)Z"⟩
abbrev cX7_takesNumber : ByteArray := prog_9_method_52_code
def yX7_takesNumber : MethodName := ⟨RX7, "takesNumber", "(I)Z"⟩
abbrev cX7_readsRow : ByteArray := prog_9_method_53_code
def yX7_readsRow : MethodName := ⟨RX7, "readsRow", "()Z"⟩
abbrev cX7_hasFault : ByteArray := prog_9_method_54_code
def yX7_hasFault : MethodName := ⟨RX7, "hasFault", "()Z"⟩
abbrev cX7_fault : ByteArray := prog_9_method_55_code
def yX7_fault : MethodName := ⟨RX7, "fault", "(I)I"⟩
abbrev cX7_play : ByteArray := prog_9_method_56_code
def yX7_play : MethodName := ⟨RX7, "play", "()I"⟩
def RJ9 : String := "java/lang/Math"
abbrev cJ9_max_7cf53 : ByteArray := prog_10_method_65_code
def yJ9_max_7cf53 : MethodName := ⟨RJ9, "max", "(II)I"⟩
abbrev cJ9_min_7cf53 : ByteArray := prog_10_method_69_code
def yJ9_min_7cf53 : MethodName := ⟨RJ9, "min", "(II)I"⟩
def RJ10 : String := "java/lang/System"
def RJ7 : String := "java/util/Arrays"
abbrev cJ7_rangeCheck_23922 : ByteArray := prog_12_method_30_code
def yJ7_rangeCheck_23922 : MethodName := ⟨RJ7, "rangeCheck", "(III)V"⟩
abbrev cJ7_fill_fda19 : ByteArray := prog_12_method_104_code
def yJ7_fill_fda19 : MethodName := ⟨RJ7, "fill", "([IIII)V"⟩
def RL : String := "SpilledGroupsLaw"
abbrev cL_law : ByteArray := code
def yL_law : MethodName := ⟨RL, "law", "([I)Z"⟩
abbrev vwCl : List vw_C := [(RX0, TX0, 2), (RX1, TX1, 3), (RX2, TX2, 12), (RX3, TX3, 2), (RX4, TX4, 4), (RX5, TX5, 6), (RX6, TX6, 6), (RX7, TX7, 30)]
end
section
/-! words of the tables, by their places; the good ones (kept by warming) -/
def TB : List Cond := lw_tbl.filter goodWord
theorem tb_of {w : Cond} {i : Nat} (h : tables_1[i]? = some w) (g : goodWord w = true) : w ∈ TB := List.mem_filter.mpr ⟨List.mem_append_right _ (List.mem_of_getElem? h), g⟩
theorem q_0 : (Jvm.Cond.initialized "SpilledGroupsLaw") ∈ TB := tb_of (i := 0) (by decide +kernel) rfl
theorem q_1 : (Jvm.Cond.initialized "SpilledGroups") ∈ TB := tb_of (i := 1) (by decide +kernel) rfl
theorem q_2 : (Jvm.Cond.initialized "SpilledGroups$State") ∈ TB := tb_of (i := 2) (by decide +kernel) rfl
theorem q_3 : (Jvm.Cond.initialized "SpilledGroups$Table") ∈ TB := tb_of (i := 3) (by decide +kernel) rfl
theorem q_4 : (Jvm.Cond.initialized "java/lang/Math") ∈ TB := tb_of (i := 4) (by decide +kernel) rfl
theorem q_5 : (Jvm.Cond.initialized "java/util/Arrays") ∈ TB := tb_of (i := 5) (by decide +kernel) rfl
theorem q_6 : (Jvm.Cond.initialized "SpilledGroups$History") ∈ TB := tb_of (i := 6) (by decide +kernel) rfl
theorem q_7 : (Jvm.Cond.initialized "SpilledGroups$Groups") ∈ TB := tb_of (i := 7) (by decide +kernel) rfl
theorem q_8 : (Jvm.Cond.initialized "SpilledGroups$Passes") ∈ TB := tb_of (i := 8) (by decide +kernel) rfl
theorem q_9 : (Jvm.Cond.initialized "SpilledGroups$Text") ∈ TB := tb_of (i := 9) (by decide +kernel) rfl
theorem q_10 : (Jvm.Cond.initialized "SpilledGroupsModel") ∈ TB := tb_of (i := 10) (by decide +kernel) rfl
theorem q_11 : (Jvm.Cond.initialized "java/lang/System") ∈ TB := tb_of (i := 11) (by decide +kernel) rfl
theorem q_12 : (Jvm.Cond.classLink "SpilledGroupsLaw" (7 : Nat) "SpilledGroups") ∈ TB := tb_of (i := 12) (by decide +kernel) rfl
theorem q_13 : (Jvm.Cond.instantiable "SpilledGroups" (6 : Nat)) ∈ TB := tb_of (i := 13) (by decide +kernel) rfl
theorem q_14 : (Jvm.Cond.methodLink "SpilledGroupsLaw" (9 : Nat) ({ cls := "SpilledGroups", name := "<init>", desc := "()V" } : Jvm.MethodName)) ∈ TB := tb_of (i := 14) (by decide +kernel) rfl
theorem q_15 : (Jvm.Cond.instanceMethod ({ cls := "SpilledGroups", name := "<init>", desc := "()V" } : Jvm.MethodName)) ∈ TB := tb_of (i := 15) (by decide +kernel) rfl
theorem q_16 : (Jvm.Cond.code ({ cls := "SpilledGroups", name := "<init>", desc := "()V" } : Jvm.MethodName) prog_1_method_1_code (1 : Nat) (Option.none : Option Jvm.ClassFile.FieldType)) ∈ TB := tb_of (i := 16) (by decide +kernel) rfl
theorem q_17 : (Jvm.Cond.methodLink "SpilledGroups" (1 : Nat) ({ cls := "java/lang/Object", name := "<init>", desc := "()V" } : Jvm.MethodName)) ∈ TB := tb_of (i := 17) (by decide +kernel) rfl
theorem q_18 : (Jvm.Cond.instanceMethod ({ cls := "java/lang/Object", name := "<init>", desc := "()V" } : Jvm.MethodName)) ∈ TB := tb_of (i := 18) (by decide +kernel) rfl
theorem q_19 : (Jvm.Cond.code ({ cls := "java/lang/Object", name := "<init>", desc := "()V" } : Jvm.MethodName) object_method_1_code (1 : Nat) (Option.none : Option Jvm.ClassFile.FieldType)) ∈ TB := tb_of (i := 19) (by decide +kernel) rfl
theorem q_20 : (Jvm.Cond.classLink "SpilledGroups" (7 : Nat) "SpilledGroups$State") ∈ TB := tb_of (i := 20) (by decide +kernel) rfl
theorem q_21 : (Jvm.Cond.instantiable "SpilledGroups$State" (2 : Nat)) ∈ TB := tb_of (i := 21) (by decide +kernel) rfl
theorem q_22 : (Jvm.Cond.methodLink "SpilledGroups" (9 : Nat) ({ cls := "SpilledGroups$State", name := "<init>", desc := "()V" } : Jvm.MethodName)) ∈ TB := tb_of (i := 22) (by decide +kernel) rfl
theorem q_23 : (Jvm.Cond.instanceMethod ({ cls := "SpilledGroups$State", name := "<init>", desc := "()V" } : Jvm.MethodName)) ∈ TB := tb_of (i := 23) (by decide +kernel) rfl
theorem q_24 : (Jvm.Cond.code ({ cls := "SpilledGroups$State", name := "<init>", desc := "()V" } : Jvm.MethodName) prog_5_method_1_code (1 : Nat) (Option.none : Option Jvm.ClassFile.FieldType)) ∈ TB := tb_of (i := 24) (by decide +kernel) rfl
theorem q_25 : (Jvm.Cond.methodLink "SpilledGroups$State" (3 : Nat) ({ cls := "java/lang/Object", name := "<init>", desc := "()V" } : Jvm.MethodName)) ∈ TB := tb_of (i := 25) (by decide +kernel) rfl
theorem q_26 : (Jvm.Cond.classLink "SpilledGroups$State" (9 : Nat) "SpilledGroups$Table") ∈ TB := tb_of (i := 26) (by decide +kernel) rfl
theorem q_27 : (Jvm.Cond.instantiable "SpilledGroups$Table" (4 : Nat)) ∈ TB := tb_of (i := 27) (by decide +kernel) rfl
theorem q_28 : (Jvm.Cond.methodLink "SpilledGroups$State" (13 : Nat) ({ cls := "SpilledGroups$Table", name := "<init>", desc := "(II)V" } : Jvm.MethodName)) ∈ TB := tb_of (i := 28) (by decide +kernel) rfl
theorem q_29 : (Jvm.Cond.instanceMethod ({ cls := "SpilledGroups$Table", name := "<init>", desc := "(II)V" } : Jvm.MethodName)) ∈ TB := tb_of (i := 29) (by decide +kernel) rfl
theorem q_30 : (Jvm.Cond.code ({ cls := "SpilledGroups$Table", name := "<init>", desc := "(II)V" } : Jvm.MethodName) prog_6_method_1_code (3 : Nat) (Option.none : Option Jvm.ClassFile.FieldType)) ∈ TB := tb_of (i := 30) (by decide +kernel) rfl
theorem q_31 : (Jvm.Cond.methodLink "SpilledGroups$Table" (1 : Nat) ({ cls := "java/lang/Object", name := "<init>", desc := "()V" } : Jvm.MethodName)) ∈ TB := tb_of (i := 31) (by decide +kernel) rfl
theorem q_32 : (Jvm.Cond.methodLink "SpilledGroups$Table" (7 : Nat) ({ cls := "java/lang/Math", name := "max", desc := "(II)I" } : Jvm.MethodName)) ∈ TB := tb_of (i := 32) (by decide +kernel) rfl
theorem q_33 : (Jvm.Cond.static ({ cls := "java/lang/Math", name := "max", desc := "(II)I" } : Jvm.MethodName)) ∈ TB := tb_of (i := 33) (by decide +kernel) rfl
theorem q_34 : (Jvm.Cond.code ({ cls := "java/lang/Math", name := "max", desc := "(II)I" } : Jvm.MethodName) prog_10_method_65_code (2 : Nat) (Option.some Jvm.ClassFile.FieldType.int)) ∈ TB := tb_of (i := 34) (by decide +kernel) rfl
theorem q_35 : (Jvm.Cond.fieldLink "SpilledGroups$Table" (22 : Nat) "SpilledGroups$Table" "cells" "[I") ∈ TB := tb_of (i := 35) (by decide +kernel) rfl
theorem q_36 : (Jvm.Cond.fieldLink "SpilledGroups$Table" (19 : Nat) "SpilledGroups$Table" "width" "I") ∈ TB := tb_of (i := 36) (by decide +kernel) rfl
theorem q_37 : (Jvm.Cond.fieldLink "SpilledGroups$Table" (13 : Nat) "SpilledGroups$Table" "room" "I") ∈ TB := tb_of (i := 37) (by decide +kernel) rfl
theorem q_38 : (Jvm.Cond.fieldLink "SpilledGroups$Table" (26 : Nat) "SpilledGroups$Table" "length" "I") ∈ TB := tb_of (i := 38) (by decide +kernel) rfl
theorem q_48 : (Jvm.Cond.arrayClass Jvm.ClassFile.FieldType.int) ∈ TB := tb_of (i := 48) (by decide +kernel) rfl
theorem q_49 : (Jvm.Cond.methodLink "SpilledGroups$State" (23 : Nat) ({ cls := "SpilledGroups$Table", name := "append", desc := "(I)I" } : Jvm.MethodName)) ∈ TB := tb_of (i := 49) (by decide +kernel) rfl
theorem q_50 : (Jvm.Cond.instanceMethod ({ cls := "SpilledGroups$Table", name := "append", desc := "(I)I" } : Jvm.MethodName)) ∈ TB := tb_of (i := 50) (by decide +kernel) rfl
theorem q_51 : (Jvm.Cond.selects "SpilledGroups$Table" ({ cls := "SpilledGroups$Table", name := "append", desc := "(I)I" } : Jvm.MethodName) ({ cls := "SpilledGroups$Table", name := "append", desc := "(I)I" } : Jvm.MethodName)) ∈ TB := tb_of (i := 51) (by decide +kernel) rfl
theorem q_52 : (Jvm.Cond.code ({ cls := "SpilledGroups$Table", name := "append", desc := "(I)I" } : Jvm.MethodName) prog_6_method_6_code (3 : Nat) (Option.some Jvm.ClassFile.FieldType.int)) ∈ TB := tb_of (i := 52) (by decide +kernel) rfl
theorem q_53 : (Jvm.Cond.methodLink "SpilledGroups$Table" (29 : Nat) ({ cls := "java/util/Arrays", name := "fill", desc := "([IIII)V" } : Jvm.MethodName)) ∈ TB := tb_of (i := 53) (by decide +kernel) rfl
theorem q_54 : (Jvm.Cond.static ({ cls := "java/util/Arrays", name := "fill", desc := "([IIII)V" } : Jvm.MethodName)) ∈ TB := tb_of (i := 54) (by decide +kernel) rfl
theorem q_55 : (Jvm.Cond.code ({ cls := "java/util/Arrays", name := "fill", desc := "([IIII)V" } : Jvm.MethodName) prog_12_method_104_code (5 : Nat) (Option.none : Option Jvm.ClassFile.FieldType)) ∈ TB := tb_of (i := 55) (by decide +kernel) rfl
theorem q_56 : (Jvm.Cond.methodLink "java/util/Arrays" (13 : Nat) ({ cls := "java/util/Arrays", name := "rangeCheck", desc := "(III)V" } : Jvm.MethodName)) ∈ TB := tb_of (i := 56) (by decide +kernel) rfl
theorem q_57 : (Jvm.Cond.static ({ cls := "java/util/Arrays", name := "rangeCheck", desc := "(III)V" } : Jvm.MethodName)) ∈ TB := tb_of (i := 57) (by decide +kernel) rfl
theorem q_58 : (Jvm.Cond.code ({ cls := "java/util/Arrays", name := "rangeCheck", desc := "(III)V" } : Jvm.MethodName) prog_12_method_30_code (3 : Nat) (Option.none : Option Jvm.ClassFile.FieldType)) ∈ TB := tb_of (i := 58) (by decide +kernel) rfl
theorem q_59 : (Jvm.Cond.constant "SpilledGroups$State" (27 : Nat) (40503 : Int32)) ∈ TB := tb_of (i := 59) (by decide +kernel) rfl
theorem q_60 : (Jvm.Cond.fieldLink "SpilledGroups$State" (16 : Nat) "SpilledGroups$State" "rows" "LSpilledGroups$Table;") ∈ TB := tb_of (i := 60) (by decide +kernel) rfl
theorem q_63 : (Jvm.Cond.fieldLink "SpilledGroups$State" (20 : Nat) "SpilledGroups$State" "settings" "LSpilledGroups$Table;") ∈ TB := tb_of (i := 63) (by decide +kernel) rfl
theorem q_70 : (Jvm.Cond.classLink "SpilledGroups" (16 : Nat) "SpilledGroups$History") ∈ TB := tb_of (i := 70) (by decide +kernel) rfl
theorem q_71 : (Jvm.Cond.instantiable "SpilledGroups$History" (3 : Nat)) ∈ TB := tb_of (i := 71) (by decide +kernel) rfl
theorem q_72 : (Jvm.Cond.methodLink "SpilledGroups" (18 : Nat) ({ cls := "SpilledGroups$History", name := "<init>", desc := "()V" } : Jvm.MethodName)) ∈ TB := tb_of (i := 72) (by decide +kernel) rfl
theorem q_73 : (Jvm.Cond.instanceMethod ({ cls := "SpilledGroups$History", name := "<init>", desc := "()V" } : Jvm.MethodName)) ∈ TB := tb_of (i := 73) (by decide +kernel) rfl
theorem q_74 : (Jvm.Cond.code ({ cls := "SpilledGroups$History", name := "<init>", desc := "()V" } : Jvm.MethodName) prog_3_method_1_code (2 : Nat) (Option.none : Option Jvm.ClassFile.FieldType)) ∈ TB := tb_of (i := 74) (by decide +kernel) rfl
theorem q_75 : (Jvm.Cond.methodLink "SpilledGroups$History" (3 : Nat) ({ cls := "java/lang/Object", name := "<init>", desc := "()V" } : Jvm.MethodName)) ∈ TB := tb_of (i := 75) (by decide +kernel) rfl
theorem q_76 : (Jvm.Cond.classLink "SpilledGroups$History" (9 : Nat) "SpilledGroups$State") ∈ TB := tb_of (i := 76) (by decide +kernel) rfl
theorem q_78 : (Jvm.Cond.methodLink "SpilledGroups$History" (17 : Nat) ({ cls := "SpilledGroups$State", name := "<init>", desc := "()V" } : Jvm.MethodName)) ∈ TB := tb_of (i := 78) (by decide +kernel) rfl
theorem q_79 : (Jvm.Cond.fieldLink "SpilledGroups$History" (11 : Nat) "SpilledGroups$History" "states" "[LSpilledGroups$State;") ∈ TB := tb_of (i := 79) (by decide +kernel) rfl
theorem q_80 : (Jvm.Cond.fieldLink "SpilledGroups$History" (22 : Nat) "SpilledGroups$History" "oldest" "I") ∈ TB := tb_of (i := 80) (by decide +kernel) rfl
theorem q_81 : (Jvm.Cond.fieldLink "SpilledGroups$History" (18 : Nat) "SpilledGroups$History" "length" "I") ∈ TB := tb_of (i := 81) (by decide +kernel) rfl
theorem q_89 : (Jvm.Cond.classLink "SpilledGroups" (23 : Nat) "SpilledGroups$Groups") ∈ TB := tb_of (i := 89) (by decide +kernel) rfl
theorem q_90 : (Jvm.Cond.instantiable "SpilledGroups$Groups" (2 : Nat)) ∈ TB := tb_of (i := 90) (by decide +kernel) rfl
theorem q_91 : (Jvm.Cond.methodLink "SpilledGroups" (25 : Nat) ({ cls := "SpilledGroups$Groups", name := "<init>", desc := "()V" } : Jvm.MethodName)) ∈ TB := tb_of (i := 91) (by decide +kernel) rfl
theorem q_92 : (Jvm.Cond.instanceMethod ({ cls := "SpilledGroups$Groups", name := "<init>", desc := "()V" } : Jvm.MethodName)) ∈ TB := tb_of (i := 92) (by decide +kernel) rfl
theorem q_93 : (Jvm.Cond.code ({ cls := "SpilledGroups$Groups", name := "<init>", desc := "()V" } : Jvm.MethodName) prog_2_method_1_code (1 : Nat) (Option.none : Option Jvm.ClassFile.FieldType)) ∈ TB := tb_of (i := 93) (by decide +kernel) rfl
theorem q_94 : (Jvm.Cond.methodLink "SpilledGroups$Groups" (3 : Nat) ({ cls := "java/lang/Object", name := "<init>", desc := "()V" } : Jvm.MethodName)) ∈ TB := tb_of (i := 94) (by decide +kernel) rfl
theorem q_95 : (Jvm.Cond.classLink "SpilledGroups$Groups" (9 : Nat) "SpilledGroups$Table") ∈ TB := tb_of (i := 95) (by decide +kernel) rfl
theorem q_96 : (Jvm.Cond.methodLink "SpilledGroups$Groups" (13 : Nat) ({ cls := "SpilledGroups$Table", name := "<init>", desc := "(II)V" } : Jvm.MethodName)) ∈ TB := tb_of (i := 96) (by decide +kernel) rfl
theorem q_97 : (Jvm.Cond.fieldLink "SpilledGroups$Groups" (16 : Nat) "SpilledGroups$Groups" "facts" "LSpilledGroups$Table;") ∈ TB := tb_of (i := 97) (by decide +kernel) rfl
theorem q_100 : (Jvm.Cond.fieldLink "SpilledGroups$Groups" (20 : Nat) "SpilledGroups$Groups" "ofRows" "LSpilledGroups$Table;") ∈ TB := tb_of (i := 100) (by decide +kernel) rfl
theorem q_107 : (Jvm.Cond.classLink "SpilledGroups" (30 : Nat) "SpilledGroups$Passes") ∈ TB := tb_of (i := 107) (by decide +kernel) rfl
theorem q_108 : (Jvm.Cond.instantiable "SpilledGroups$Passes" (12 : Nat)) ∈ TB := tb_of (i := 108) (by decide +kernel) rfl
theorem q_109 : (Jvm.Cond.methodLink "SpilledGroups" (32 : Nat) ({ cls := "SpilledGroups$Passes", name := "<init>", desc := "(LSpilledGroups$Groups;)V" } : Jvm.MethodName)) ∈ TB := tb_of (i := 109) (by decide +kernel) rfl
theorem q_110 : (Jvm.Cond.instanceMethod ({ cls := "SpilledGroups$Passes", name := "<init>", desc := "(LSpilledGroups$Groups;)V" } : Jvm.MethodName)) ∈ TB := tb_of (i := 110) (by decide +kernel) rfl
theorem q_111 : (Jvm.Cond.code ({ cls := "SpilledGroups$Passes", name := "<init>", desc := "(LSpilledGroups$Groups;)V" } : Jvm.MethodName) prog_4_method_1_code (2 : Nat) (Option.none : Option Jvm.ClassFile.FieldType)) ∈ TB := tb_of (i := 111) (by decide +kernel) rfl
theorem q_112 : (Jvm.Cond.methodLink "SpilledGroups$Passes" (3 : Nat) ({ cls := "java/lang/Object", name := "<init>", desc := "()V" } : Jvm.MethodName)) ∈ TB := tb_of (i := 112) (by decide +kernel) rfl
theorem q_113 : (Jvm.Cond.classLink "SpilledGroups$Passes" (15 : Nat) "SpilledGroups$Table") ∈ TB := tb_of (i := 113) (by decide +kernel) rfl
theorem q_114 : (Jvm.Cond.methodLink "SpilledGroups$Passes" (17 : Nat) ({ cls := "SpilledGroups$Table", name := "<init>", desc := "(II)V" } : Jvm.MethodName)) ∈ TB := tb_of (i := 114) (by decide +kernel) rfl
theorem q_115 : (Jvm.Cond.fieldLink "SpilledGroups$Passes" (9 : Nat) "SpilledGroups$Passes" "groups" "LSpilledGroups$Groups;") ∈ TB := tb_of (i := 115) (by decide +kernel) rfl
theorem q_116 : (Jvm.Cond.fieldLink "SpilledGroups$Passes" (20 : Nat) "SpilledGroups$Passes" "passes" "LSpilledGroups$Table;") ∈ TB := tb_of (i := 116) (by decide +kernel) rfl
theorem q_118 : (Jvm.Cond.fieldLink "SpilledGroups$Passes" (24 : Nat) "SpilledGroups$Passes" "spills" "LSpilledGroups$Table;") ∈ TB := tb_of (i := 118) (by decide +kernel) rfl
theorem q_120 : (Jvm.Cond.fieldLink "SpilledGroups$Passes" (27 : Nat) "SpilledGroups$Passes" "ends" "LSpilledGroups$Table;") ∈ TB := tb_of (i := 120) (by decide +kernel) rfl
theorem q_122 : (Jvm.Cond.fieldLink "SpilledGroups$Passes" (30 : Nat) "SpilledGroups$Passes" "order" "LSpilledGroups$Table;") ∈ TB := tb_of (i := 122) (by decide +kernel) rfl
theorem q_124 : (Jvm.Cond.fieldLink "SpilledGroups$Passes" (33 : Nat) "SpilledGroups$Passes" "memory" "LSpilledGroups$Table;") ∈ TB := tb_of (i := 124) (by decide +kernel) rfl
theorem q_125 : (Jvm.Cond.fieldLink "SpilledGroups$Passes" (36 : Nat) "SpilledGroups$Passes" "parts" "LSpilledGroups$Table;") ∈ TB := tb_of (i := 125) (by decide +kernel) rfl
theorem q_126 : (Jvm.Cond.fieldLink "SpilledGroups$Passes" (39 : Nat) "SpilledGroups$Passes" "items" "LSpilledGroups$Table;") ∈ TB := tb_of (i := 126) (by decide +kernel) rfl
theorem q_127 : (Jvm.Cond.fieldLink "SpilledGroups$Passes" (52 : Nat) "SpilledGroups$Passes" "beyond" "I") ∈ TB := tb_of (i := 127) (by decide +kernel) rfl
theorem q_129 : (Jvm.Cond.fieldLink "SpilledGroups$Passes" (42 : Nat) "SpilledGroups$Passes" "limit" "I") ∈ TB := tb_of (i := 129) (by decide +kernel) rfl
theorem q_130 : (Jvm.Cond.fieldLink "SpilledGroups$Passes" (46 : Nat) "SpilledGroups$Passes" "bits" "I") ∈ TB := tb_of (i := 130) (by decide +kernel) rfl
theorem q_131 : (Jvm.Cond.fieldLink "SpilledGroups$Passes" (49 : Nat) "SpilledGroups$Passes" "lastLevel" "I") ∈ TB := tb_of (i := 131) (by decide +kernel) rfl
theorem q_157 : (Jvm.Cond.classLink "SpilledGroups" (39 : Nat) "SpilledGroups$Text") ∈ TB := tb_of (i := 157) (by decide +kernel) rfl
theorem q_158 : (Jvm.Cond.instantiable "SpilledGroups$Text" (6 : Nat)) ∈ TB := tb_of (i := 158) (by decide +kernel) rfl
theorem q_159 : (Jvm.Cond.methodLink "SpilledGroups" (41 : Nat) ({ cls := "SpilledGroups$Text", name := "<init>", desc := "()V" } : Jvm.MethodName)) ∈ TB := tb_of (i := 159) (by decide +kernel) rfl
theorem q_160 : (Jvm.Cond.instanceMethod ({ cls := "SpilledGroups$Text", name := "<init>", desc := "()V" } : Jvm.MethodName)) ∈ TB := tb_of (i := 160) (by decide +kernel) rfl
theorem q_161 : (Jvm.Cond.code ({ cls := "SpilledGroups$Text", name := "<init>", desc := "()V" } : Jvm.MethodName) prog_7_method_1_code (1 : Nat) (Option.none : Option Jvm.ClassFile.FieldType)) ∈ TB := tb_of (i := 161) (by decide +kernel) rfl
theorem q_162 : (Jvm.Cond.methodLink "SpilledGroups$Text" (3 : Nat) ({ cls := "java/lang/Object", name := "<init>", desc := "()V" } : Jvm.MethodName)) ∈ TB := tb_of (i := 162) (by decide +kernel) rfl
theorem q_163 : (Jvm.Cond.classLink "SpilledGroups$Text" (9 : Nat) "SpilledGroups$Table") ∈ TB := tb_of (i := 163) (by decide +kernel) rfl
theorem q_164 : (Jvm.Cond.methodLink "SpilledGroups$Text" (11 : Nat) ({ cls := "SpilledGroups$Table", name := "<init>", desc := "(II)V" } : Jvm.MethodName)) ∈ TB := tb_of (i := 164) (by decide +kernel) rfl
theorem q_165 : (Jvm.Cond.fieldLink "SpilledGroups$Text" (14 : Nat) "SpilledGroups$Text" "characters" "LSpilledGroups$Table;") ∈ TB := tb_of (i := 165) (by decide +kernel) rfl
theorem q_167 : (Jvm.Cond.fieldLink "SpilledGroups$Text" (22 : Nat) "SpilledGroups$Text" "rows" "LSpilledGroups$Table;") ∈ TB := tb_of (i := 167) (by decide +kernel) rfl
theorem q_169 : (Jvm.Cond.fieldLink "SpilledGroups$Text" (40 : Nat) "SpilledGroups$Text" "position" "I") ∈ TB := tb_of (i := 169) (by decide +kernel) rfl
theorem q_171 : (Jvm.Cond.fieldLink "SpilledGroups$Text" (25 : Nat) "SpilledGroups$Text" "reason" "I") ∈ TB := tb_of (i := 171) (by decide +kernel) rfl
theorem q_173 : (Jvm.Cond.fieldLink "SpilledGroups$Text" (47 : Nat) "SpilledGroups$Text" "cause" "I") ∈ TB := tb_of (i := 173) (by decide +kernel) rfl
theorem q_175 : (Jvm.Cond.fieldLink "SpilledGroups$Text" (33 : Nat) "SpilledGroups$Text" "next" "I") ∈ TB := tb_of (i := 175) (by decide +kernel) rfl
theorem q_189 : (Jvm.Cond.fieldLink "SpilledGroups" (10 : Nat) "SpilledGroups" "now" "LSpilledGroups$State;") ∈ TB := tb_of (i := 189) (by decide +kernel) rfl
theorem q_190 : (Jvm.Cond.fieldLink "SpilledGroups" (19 : Nat) "SpilledGroups" "history" "LSpilledGroups$History;") ∈ TB := tb_of (i := 190) (by decide +kernel) rfl
theorem q_191 : (Jvm.Cond.fieldLink "SpilledGroups" (26 : Nat) "SpilledGroups" "groups" "LSpilledGroups$Groups;") ∈ TB := tb_of (i := 191) (by decide +kernel) rfl
theorem q_192 : (Jvm.Cond.fieldLink "SpilledGroups" (35 : Nat) "SpilledGroups" "passes" "LSpilledGroups$Passes;") ∈ TB := tb_of (i := 192) (by decide +kernel) rfl
theorem q_193 : (Jvm.Cond.fieldLink "SpilledGroups" (42 : Nat) "SpilledGroups" "text" "LSpilledGroups$Text;") ∈ TB := tb_of (i := 193) (by decide +kernel) rfl
theorem q_194 : (Jvm.Cond.fieldLink "SpilledGroups" (46 : Nat) "SpilledGroups" "groupsAreOld" "Z") ∈ TB := tb_of (i := 194) (by decide +kernel) rfl
theorem q_208 : (Jvm.Cond.methodLink "SpilledGroupsLaw" (13 : Nat) ({ cls := "SpilledGroups", name := "row", desc := "(II)I" } : Jvm.MethodName)) ∈ TB := tb_of (i := 208) (by decide +kernel) rfl
theorem q_209 : (Jvm.Cond.instanceMethod ({ cls := "SpilledGroups", name := "row", desc := "(II)I" } : Jvm.MethodName)) ∈ TB := tb_of (i := 209) (by decide +kernel) rfl
theorem q_210 : (Jvm.Cond.selects "SpilledGroups" ({ cls := "SpilledGroups", name := "row", desc := "(II)I" } : Jvm.MethodName) ({ cls := "SpilledGroups", name := "row", desc := "(II)I" } : Jvm.MethodName)) ∈ TB := tb_of (i := 210) (by decide +kernel) rfl
theorem q_211 : (Jvm.Cond.code ({ cls := "SpilledGroups", name := "row", desc := "(II)I" } : Jvm.MethodName) prog_1_method_2_code (3 : Nat) (Option.some Jvm.ClassFile.FieldType.int)) ∈ TB := tb_of (i := 211) (by decide +kernel) rfl
theorem q_212 : (Jvm.Cond.methodLink "SpilledGroups" (50 : Nat) ({ cls := "SpilledGroups", name := "isOutside", desc := "(III)Z" } : Jvm.MethodName)) ∈ TB := tb_of (i := 212) (by decide +kernel) rfl
theorem q_213 : (Jvm.Cond.static ({ cls := "SpilledGroups", name := "isOutside", desc := "(III)Z" } : Jvm.MethodName)) ∈ TB := tb_of (i := 213) (by decide +kernel) rfl
theorem q_214 : (Jvm.Cond.code ({ cls := "SpilledGroups", name := "isOutside", desc := "(III)Z" } : Jvm.MethodName) prog_1_method_22_code (3 : Nat) (Option.some Jvm.ClassFile.FieldType.boolean)) ∈ TB := tb_of (i := 214) (by decide +kernel) rfl
theorem q_215 : (Jvm.Cond.constant "SpilledGroups" (54 : Nat) (-1000001 : Int32)) ∈ TB := tb_of (i := 215) (by decide +kernel) rfl
theorem q_216 : (Jvm.Cond.methodLink "SpilledGroups" (59 : Nat) ({ cls := "SpilledGroups$Table", name := "length", desc := "()I" } : Jvm.MethodName)) ∈ TB := tb_of (i := 216) (by decide +kernel) rfl
theorem q_217 : (Jvm.Cond.instanceMethod ({ cls := "SpilledGroups$Table", name := "length", desc := "()I" } : Jvm.MethodName)) ∈ TB := tb_of (i := 217) (by decide +kernel) rfl
theorem q_218 : (Jvm.Cond.selects "SpilledGroups$Table" ({ cls := "SpilledGroups$Table", name := "length", desc := "()I" } : Jvm.MethodName) ({ cls := "SpilledGroups$Table", name := "length", desc := "()I" } : Jvm.MethodName)) ∈ TB := tb_of (i := 218) (by decide +kernel) rfl
theorem q_219 : (Jvm.Cond.code ({ cls := "SpilledGroups$Table", name := "length", desc := "()I" } : Jvm.MethodName) prog_6_method_2_code (1 : Nat) (Option.some Jvm.ClassFile.FieldType.int)) ∈ TB := tb_of (i := 219) (by decide +kernel) rfl
theorem q_220 : (Jvm.Cond.constant "SpilledGroups" (65 : Nat) (-1000003 : Int32)) ∈ TB := tb_of (i := 220) (by decide +kernel) rfl
theorem q_221 : (Jvm.Cond.methodLink "SpilledGroups" (66 : Nat) ({ cls := "SpilledGroups", name := "beginChange", desc := "()V" } : Jvm.MethodName)) ∈ TB := tb_of (i := 221) (by decide +kernel) rfl
theorem q_223 : (Jvm.Cond.instanceMethod ({ cls := "SpilledGroups", name := "beginChange", desc := "()V" } : Jvm.MethodName)) ∈ TB := tb_of (i := 223) (by decide +kernel) rfl
theorem q_224 : (Jvm.Cond.code ({ cls := "SpilledGroups", name := "beginChange", desc := "()V" } : Jvm.MethodName) prog_1_method_24_code (1 : Nat) (Option.none : Option Jvm.ClassFile.FieldType)) ∈ TB := tb_of (i := 224) (by decide +kernel) rfl
theorem q_225 : (Jvm.Cond.methodLink "SpilledGroups" (194 : Nat) ({ cls := "SpilledGroups$History", name := "keep", desc := "(LSpilledGroups$State;)V" } : Jvm.MethodName)) ∈ TB := tb_of (i := 225) (by decide +kernel) rfl
theorem q_226 : (Jvm.Cond.instanceMethod ({ cls := "SpilledGroups$History", name := "keep", desc := "(LSpilledGroups$State;)V" } : Jvm.MethodName)) ∈ TB := tb_of (i := 226) (by decide +kernel) rfl
theorem q_227 : (Jvm.Cond.selects "SpilledGroups$History" ({ cls := "SpilledGroups$History", name := "keep", desc := "(LSpilledGroups$State;)V" } : Jvm.MethodName) ({ cls := "SpilledGroups$History", name := "keep", desc := "(LSpilledGroups$State;)V" } : Jvm.MethodName)) ∈ TB := tb_of (i := 227) (by decide +kernel) rfl
theorem q_228 : (Jvm.Cond.code ({ cls := "SpilledGroups$History", name := "keep", desc := "(LSpilledGroups$State;)V" } : Jvm.MethodName) prog_3_method_3_code (3 : Nat) (Option.none : Option Jvm.ClassFile.FieldType)) ∈ TB := tb_of (i := 228) (by decide +kernel) rfl
theorem q_229 : (Jvm.Cond.methodLink "SpilledGroups$History" (25 : Nat) ({ cls := "SpilledGroups$History", name := "stateAt", desc := "(I)LSpilledGroups$State;" } : Jvm.MethodName)) ∈ TB := tb_of (i := 229) (by decide +kernel) rfl
theorem q_231 : (Jvm.Cond.instanceMethod ({ cls := "SpilledGroups$History", name := "stateAt", desc := "(I)LSpilledGroups$State;" } : Jvm.MethodName)) ∈ TB := tb_of (i := 231) (by decide +kernel) rfl
theorem q_232 : (Jvm.Cond.code ({ cls := "SpilledGroups$History", name := "stateAt", desc := "(I)LSpilledGroups$State;" } : Jvm.MethodName) prog_3_method_5_code (3 : Nat) (Option.some (Jvm.ClassFile.FieldType.object "SpilledGroups$State"))) ∈ TB := tb_of (i := 232) (by decide +kernel) rfl
theorem q_233 : (Jvm.Cond.methodLink "SpilledGroups$History" (29 : Nat) ({ cls := "SpilledGroups$State", name := "copyFrom", desc := "(LSpilledGroups$State;)V" } : Jvm.MethodName)) ∈ TB := tb_of (i := 233) (by decide +kernel) rfl
theorem q_234 : (Jvm.Cond.instanceMethod ({ cls := "SpilledGroups$State", name := "copyFrom", desc := "(LSpilledGroups$State;)V" } : Jvm.MethodName)) ∈ TB := tb_of (i := 234) (by decide +kernel) rfl
theorem q_235 : (Jvm.Cond.selects "SpilledGroups$State" ({ cls := "SpilledGroups$State", name := "copyFrom", desc := "(LSpilledGroups$State;)V" } : Jvm.MethodName) ({ cls := "SpilledGroups$State", name := "copyFrom", desc := "(LSpilledGroups$State;)V" } : Jvm.MethodName)) ∈ TB := tb_of (i := 235) (by decide +kernel) rfl
theorem q_236 : (Jvm.Cond.code ({ cls := "SpilledGroups$State", name := "copyFrom", desc := "(LSpilledGroups$State;)V" } : Jvm.MethodName) prog_5_method_7_code (2 : Nat) (Option.none : Option Jvm.ClassFile.FieldType)) ∈ TB := tb_of (i := 236) (by decide +kernel) rfl
theorem q_237 : (Jvm.Cond.methodLink "SpilledGroups$State" (43 : Nat) ({ cls := "SpilledGroups$Table", name := "copyFrom", desc := "(LSpilledGroups$Table;)V" } : Jvm.MethodName)) ∈ TB := tb_of (i := 237) (by decide +kernel) rfl
theorem q_238 : (Jvm.Cond.instanceMethod ({ cls := "SpilledGroups$Table", name := "copyFrom", desc := "(LSpilledGroups$Table;)V" } : Jvm.MethodName)) ∈ TB := tb_of (i := 238) (by decide +kernel) rfl
theorem q_239 : (Jvm.Cond.selects "SpilledGroups$Table" ({ cls := "SpilledGroups$Table", name := "copyFrom", desc := "(LSpilledGroups$Table;)V" } : Jvm.MethodName) ({ cls := "SpilledGroups$Table", name := "copyFrom", desc := "(LSpilledGroups$Table;)V" } : Jvm.MethodName)) ∈ TB := tb_of (i := 239) (by decide +kernel) rfl
theorem q_240 : (Jvm.Cond.code ({ cls := "SpilledGroups$Table", name := "copyFrom", desc := "(LSpilledGroups$Table;)V" } : Jvm.MethodName) prog_6_method_11_code (2 : Nat) (Option.none : Option Jvm.ClassFile.FieldType)) ∈ TB := tb_of (i := 240) (by decide +kernel) rfl
theorem q_241 : (Jvm.Cond.methodLink "SpilledGroups$Table" (35 : Nat) ({ cls := "java/lang/System", name := "arraycopy", desc := "(Ljava/lang/Object;ILjava/lang/Object;II)V" } : Jvm.MethodName)) ∈ TB := tb_of (i := 241) (by decide +kernel) rfl
theorem q_242 : (Jvm.Cond.static ({ cls := "java/lang/System", name := "arraycopy", desc := "(Ljava/lang/Object;ILjava/lang/Object;II)V" } : Jvm.MethodName)) ∈ TB := tb_of (i := 242) (by decide +kernel) rfl
theorem q_243 : (Jvm.Cond.native ({ cls := "java/lang/System", name := "arraycopy", desc := "(Ljava/lang/Object;ILjava/lang/Object;II)V" } : Jvm.MethodName)) ∈ TB := tb_of (i := 243) (by decide +kernel) rfl
theorem q_244 : (Jvm.Cond.methodLink "SpilledGroups" (69 : Nat) ({ cls := "SpilledGroups$State", name := "addRow", desc := "(II)V" } : Jvm.MethodName)) ∈ TB := tb_of (i := 244) (by decide +kernel) rfl
theorem q_245 : (Jvm.Cond.instanceMethod ({ cls := "SpilledGroups$State", name := "addRow", desc := "(II)V" } : Jvm.MethodName)) ∈ TB := tb_of (i := 245) (by decide +kernel) rfl
theorem q_246 : (Jvm.Cond.selects "SpilledGroups$State" ({ cls := "SpilledGroups$State", name := "addRow", desc := "(II)V" } : Jvm.MethodName) ({ cls := "SpilledGroups$State", name := "addRow", desc := "(II)V" } : Jvm.MethodName)) ∈ TB := tb_of (i := 246) (by decide +kernel) rfl
theorem q_247 : (Jvm.Cond.code ({ cls := "SpilledGroups$State", name := "addRow", desc := "(II)V" } : Jvm.MethodName) prog_5_method_6_code (3 : Nat) (Option.none : Option Jvm.ClassFile.FieldType)) ∈ TB := tb_of (i := 247) (by decide +kernel) rfl
theorem q_248 : (Jvm.Cond.methodLink "SpilledGroups$State" (39 : Nat) ({ cls := "SpilledGroups$Table", name := "put", desc := "(III)V" } : Jvm.MethodName)) ∈ TB := tb_of (i := 248) (by decide +kernel) rfl
theorem q_249 : (Jvm.Cond.instanceMethod ({ cls := "SpilledGroups$Table", name := "put", desc := "(III)V" } : Jvm.MethodName)) ∈ TB := tb_of (i := 249) (by decide +kernel) rfl
theorem q_250 : (Jvm.Cond.selects "SpilledGroups$Table" ({ cls := "SpilledGroups$Table", name := "put", desc := "(III)V" } : Jvm.MethodName) ({ cls := "SpilledGroups$Table", name := "put", desc := "(III)V" } : Jvm.MethodName)) ∈ TB := tb_of (i := 250) (by decide +kernel) rfl
theorem q_251 : (Jvm.Cond.code ({ cls := "SpilledGroups$Table", name := "put", desc := "(III)V" } : Jvm.MethodName) prog_6_method_4_code (4 : Nat) (Option.none : Option Jvm.ClassFile.FieldType)) ∈ TB := tb_of (i := 251) (by decide +kernel) rfl
theorem q_252 : (Jvm.Cond.methodLink "SpilledGroupsLaw" (18 : Nat) ({ cls := "SpilledGroups", name := "drop", desc := "(I)I" } : Jvm.MethodName)) ∈ TB := tb_of (i := 252) (by decide +kernel) rfl
theorem q_253 : (Jvm.Cond.instanceMethod ({ cls := "SpilledGroups", name := "drop", desc := "(I)I" } : Jvm.MethodName)) ∈ TB := tb_of (i := 253) (by decide +kernel) rfl
theorem q_254 : (Jvm.Cond.selects "SpilledGroups" ({ cls := "SpilledGroups", name := "drop", desc := "(I)I" } : Jvm.MethodName) ({ cls := "SpilledGroups", name := "drop", desc := "(I)I" } : Jvm.MethodName)) ∈ TB := tb_of (i := 254) (by decide +kernel) rfl
theorem q_255 : (Jvm.Cond.code ({ cls := "SpilledGroups", name := "drop", desc := "(I)I" } : Jvm.MethodName) prog_1_method_3_code (2 : Nat) (Option.some Jvm.ClassFile.FieldType.int)) ∈ TB := tb_of (i := 255) (by decide +kernel) rfl
theorem q_256 : (Jvm.Cond.constant "SpilledGroups" (73 : Nat) (-1000002 : Int32)) ∈ TB := tb_of (i := 256) (by decide +kernel) rfl
theorem q_257 : (Jvm.Cond.methodLink "SpilledGroups" (74 : Nat) ({ cls := "SpilledGroups$Table", name := "remove", desc := "(I)V" } : Jvm.MethodName)) ∈ TB := tb_of (i := 257) (by decide +kernel) rfl
theorem q_258 : (Jvm.Cond.instanceMethod ({ cls := "SpilledGroups$Table", name := "remove", desc := "(I)V" } : Jvm.MethodName)) ∈ TB := tb_of (i := 258) (by decide +kernel) rfl
theorem q_259 : (Jvm.Cond.selects "SpilledGroups$Table" ({ cls := "SpilledGroups$Table", name := "remove", desc := "(I)V" } : Jvm.MethodName) ({ cls := "SpilledGroups$Table", name := "remove", desc := "(I)V" } : Jvm.MethodName)) ∈ TB := tb_of (i := 259) (by decide +kernel) rfl
theorem q_260 : (Jvm.Cond.code ({ cls := "SpilledGroups$Table", name := "remove", desc := "(I)V" } : Jvm.MethodName) prog_6_method_8_code (3 : Nat) (Option.none : Option Jvm.ClassFile.FieldType)) ∈ TB := tb_of (i := 260) (by decide +kernel) rfl
theorem q_261 : (Jvm.Cond.methodLink "SpilledGroupsLaw" (23 : Nat) ({ cls := "SpilledGroups", name := "clear", desc := "()I" } : Jvm.MethodName)) ∈ TB := tb_of (i := 261) (by decide +kernel) rfl
theorem q_262 : (Jvm.Cond.instanceMethod ({ cls := "SpilledGroups", name := "clear", desc := "()I" } : Jvm.MethodName)) ∈ TB := tb_of (i := 262) (by decide +kernel) rfl
theorem q_263 : (Jvm.Cond.selects "SpilledGroups" ({ cls := "SpilledGroups", name := "clear", desc := "()I" } : Jvm.MethodName) ({ cls := "SpilledGroups", name := "clear", desc := "()I" } : Jvm.MethodName)) ∈ TB := tb_of (i := 263) (by decide +kernel) rfl
theorem q_264 : (Jvm.Cond.code ({ cls := "SpilledGroups", name := "clear", desc := "()I" } : Jvm.MethodName) prog_1_method_4_code (2 : Nat) (Option.some Jvm.ClassFile.FieldType.int)) ∈ TB := tb_of (i := 264) (by decide +kernel) rfl
theorem q_265 : (Jvm.Cond.methodLink "SpilledGroups" (78 : Nat) ({ cls := "SpilledGroups$Table", name := "shorten", desc := "(I)V" } : Jvm.MethodName)) ∈ TB := tb_of (i := 265) (by decide +kernel) rfl
theorem q_266 : (Jvm.Cond.instanceMethod ({ cls := "SpilledGroups$Table", name := "shorten", desc := "(I)V" } : Jvm.MethodName)) ∈ TB := tb_of (i := 266) (by decide +kernel) rfl
theorem q_267 : (Jvm.Cond.selects "SpilledGroups$Table" ({ cls := "SpilledGroups$Table", name := "shorten", desc := "(I)V" } : Jvm.MethodName) ({ cls := "SpilledGroups$Table", name := "shorten", desc := "(I)V" } : Jvm.MethodName)) ∈ TB := tb_of (i := 267) (by decide +kernel) rfl
theorem q_268 : (Jvm.Cond.code ({ cls := "SpilledGroups$Table", name := "shorten", desc := "(I)V" } : Jvm.MethodName) prog_6_method_9_code (2 : Nat) (Option.none : Option Jvm.ClassFile.FieldType)) ∈ TB := tb_of (i := 268) (by decide +kernel) rfl
theorem q_269 : (Jvm.Cond.methodLink "SpilledGroupsLaw" (28 : Nat) ({ cls := "SpilledGroups", name := "set", desc := "(II)I" } : Jvm.MethodName)) ∈ TB := tb_of (i := 269) (by decide +kernel) rfl
theorem q_270 : (Jvm.Cond.instanceMethod ({ cls := "SpilledGroups", name := "set", desc := "(II)I" } : Jvm.MethodName)) ∈ TB := tb_of (i := 270) (by decide +kernel) rfl
theorem q_271 : (Jvm.Cond.selects "SpilledGroups" ({ cls := "SpilledGroups", name := "set", desc := "(II)I" } : Jvm.MethodName) ({ cls := "SpilledGroups", name := "set", desc := "(II)I" } : Jvm.MethodName)) ∈ TB := tb_of (i := 271) (by decide +kernel) rfl
theorem q_272 : (Jvm.Cond.code ({ cls := "SpilledGroups", name := "set", desc := "(II)I" } : Jvm.MethodName) prog_1_method_5_code (4 : Nat) (Option.some Jvm.ClassFile.FieldType.int)) ∈ TB := tb_of (i := 272) (by decide +kernel) rfl
theorem q_273 : (Jvm.Cond.methodLink "SpilledGroups" (81 : Nat) ({ cls := "SpilledGroups", name := "isSettingValue", desc := "(II)Z" } : Jvm.MethodName)) ∈ TB := tb_of (i := 273) (by decide +kernel) rfl
theorem q_274 : (Jvm.Cond.static ({ cls := "SpilledGroups", name := "isSettingValue", desc := "(II)Z" } : Jvm.MethodName)) ∈ TB := tb_of (i := 274) (by decide +kernel) rfl
theorem q_275 : (Jvm.Cond.code ({ cls := "SpilledGroups", name := "isSettingValue", desc := "(II)Z" } : Jvm.MethodName) prog_1_method_23_code (2 : Nat) (Option.some Jvm.ClassFile.FieldType.boolean)) ∈ TB := tb_of (i := 275) (by decide +kernel) rfl
theorem q_276 : (Jvm.Cond.constant "SpilledGroups" (130 : Nat) (65535 : Int32)) ∈ TB := tb_of (i := 276) (by decide +kernel) rfl
theorem q_277 : (Jvm.Cond.methodLink "SpilledGroups" (85 : Nat) ({ cls := "SpilledGroups$State", name := "setting", desc := "(I)I" } : Jvm.MethodName)) ∈ TB := tb_of (i := 277) (by decide +kernel) rfl
theorem q_278 : (Jvm.Cond.instanceMethod ({ cls := "SpilledGroups$State", name := "setting", desc := "(I)I" } : Jvm.MethodName)) ∈ TB := tb_of (i := 278) (by decide +kernel) rfl
theorem q_279 : (Jvm.Cond.selects "SpilledGroups$State" ({ cls := "SpilledGroups$State", name := "setting", desc := "(I)I" } : Jvm.MethodName) ({ cls := "SpilledGroups$State", name := "setting", desc := "(I)I" } : Jvm.MethodName)) ∈ TB := tb_of (i := 279) (by decide +kernel) rfl
theorem q_280 : (Jvm.Cond.code ({ cls := "SpilledGroups$State", name := "setting", desc := "(I)I" } : Jvm.MethodName) prog_5_method_2_code (2 : Nat) (Option.some Jvm.ClassFile.FieldType.int)) ∈ TB := tb_of (i := 280) (by decide +kernel) rfl
theorem q_281 : (Jvm.Cond.methodLink "SpilledGroups$State" (28 : Nat) ({ cls := "SpilledGroups$Table", name := "at", desc := "(II)I" } : Jvm.MethodName)) ∈ TB := tb_of (i := 281) (by decide +kernel) rfl
theorem q_282 : (Jvm.Cond.instanceMethod ({ cls := "SpilledGroups$Table", name := "at", desc := "(II)I" } : Jvm.MethodName)) ∈ TB := tb_of (i := 282) (by decide +kernel) rfl
theorem q_283 : (Jvm.Cond.selects "SpilledGroups$Table" ({ cls := "SpilledGroups$Table", name := "at", desc := "(II)I" } : Jvm.MethodName) ({ cls := "SpilledGroups$Table", name := "at", desc := "(II)I" } : Jvm.MethodName)) ∈ TB := tb_of (i := 283) (by decide +kernel) rfl
theorem q_284 : (Jvm.Cond.code ({ cls := "SpilledGroups$Table", name := "at", desc := "(II)I" } : Jvm.MethodName) prog_6_method_3_code (3 : Nat) (Option.some Jvm.ClassFile.FieldType.int)) ∈ TB := tb_of (i := 284) (by decide +kernel) rfl
theorem q_285 : (Jvm.Cond.methodLink "SpilledGroups" (92 : Nat) ({ cls := "SpilledGroups$Table", name := "put", desc := "(III)V" } : Jvm.MethodName)) ∈ TB := tb_of (i := 285) (by decide +kernel) rfl
theorem q_286 : (Jvm.Cond.methodLink "SpilledGroupsLaw" (32 : Nat) ({ cls := "SpilledGroups", name := "rowOf", desc := "(II)I" } : Jvm.MethodName)) ∈ TB := tb_of (i := 286) (by decide +kernel) rfl
theorem q_287 : (Jvm.Cond.instanceMethod ({ cls := "SpilledGroups", name := "rowOf", desc := "(II)I" } : Jvm.MethodName)) ∈ TB := tb_of (i := 287) (by decide +kernel) rfl
theorem q_288 : (Jvm.Cond.selects "SpilledGroups" ({ cls := "SpilledGroups", name := "rowOf", desc := "(II)I" } : Jvm.MethodName) ({ cls := "SpilledGroups", name := "rowOf", desc := "(II)I" } : Jvm.MethodName)) ∈ TB := tb_of (i := 288) (by decide +kernel) rfl
theorem q_289 : (Jvm.Cond.code ({ cls := "SpilledGroups", name := "rowOf", desc := "(II)I" } : Jvm.MethodName) prog_1_method_6_code (3 : Nat) (Option.some Jvm.ClassFile.FieldType.int)) ∈ TB := tb_of (i := 289) (by decide +kernel) rfl
theorem q_290 : (Jvm.Cond.constant "SpilledGroups" (96 : Nat) (-1000004 : Int32)) ∈ TB := tb_of (i := 290) (by decide +kernel) rfl
theorem q_291 : (Jvm.Cond.methodLink "SpilledGroups" (97 : Nat) ({ cls := "SpilledGroups$State", name := "keyOf", desc := "(I)I" } : Jvm.MethodName)) ∈ TB := tb_of (i := 291) (by decide +kernel) rfl
theorem q_292 : (Jvm.Cond.instanceMethod ({ cls := "SpilledGroups$State", name := "keyOf", desc := "(I)I" } : Jvm.MethodName)) ∈ TB := tb_of (i := 292) (by decide +kernel) rfl
theorem q_293 : (Jvm.Cond.selects "SpilledGroups$State" ({ cls := "SpilledGroups$State", name := "keyOf", desc := "(I)I" } : Jvm.MethodName) ({ cls := "SpilledGroups$State", name := "keyOf", desc := "(I)I" } : Jvm.MethodName)) ∈ TB := tb_of (i := 293) (by decide +kernel) rfl
theorem q_294 : (Jvm.Cond.code ({ cls := "SpilledGroups$State", name := "keyOf", desc := "(I)I" } : Jvm.MethodName) prog_5_method_3_code (2 : Nat) (Option.some Jvm.ClassFile.FieldType.int)) ∈ TB := tb_of (i := 294) (by decide +kernel) rfl
theorem q_295 : (Jvm.Cond.methodLink "SpilledGroups" (100 : Nat) ({ cls := "SpilledGroups$State", name := "valueOf", desc := "(I)I" } : Jvm.MethodName)) ∈ TB := tb_of (i := 295) (by decide +kernel) rfl
theorem q_296 : (Jvm.Cond.instanceMethod ({ cls := "SpilledGroups$State", name := "valueOf", desc := "(I)I" } : Jvm.MethodName)) ∈ TB := tb_of (i := 296) (by decide +kernel) rfl
theorem q_297 : (Jvm.Cond.selects "SpilledGroups$State" ({ cls := "SpilledGroups$State", name := "valueOf", desc := "(I)I" } : Jvm.MethodName) ({ cls := "SpilledGroups$State", name := "valueOf", desc := "(I)I" } : Jvm.MethodName)) ∈ TB := tb_of (i := 297) (by decide +kernel) rfl
theorem q_298 : (Jvm.Cond.code ({ cls := "SpilledGroups$State", name := "valueOf", desc := "(I)I" } : Jvm.MethodName) prog_5_method_4_code (2 : Nat) (Option.some Jvm.ClassFile.FieldType.int)) ∈ TB := tb_of (i := 298) (by decide +kernel) rfl
theorem q_299 : (Jvm.Cond.methodLink "SpilledGroups" (103 : Nat) ({ cls := "SpilledGroups$State", name := "hashOf", desc := "(I)I" } : Jvm.MethodName)) ∈ TB := tb_of (i := 299) (by decide +kernel) rfl
theorem q_300 : (Jvm.Cond.instanceMethod ({ cls := "SpilledGroups$State", name := "hashOf", desc := "(I)I" } : Jvm.MethodName)) ∈ TB := tb_of (i := 300) (by decide +kernel) rfl
theorem q_301 : (Jvm.Cond.selects "SpilledGroups$State" ({ cls := "SpilledGroups$State", name := "hashOf", desc := "(I)I" } : Jvm.MethodName) ({ cls := "SpilledGroups$State", name := "hashOf", desc := "(I)I" } : Jvm.MethodName)) ∈ TB := tb_of (i := 301) (by decide +kernel) rfl
theorem q_302 : (Jvm.Cond.code ({ cls := "SpilledGroups$State", name := "hashOf", desc := "(I)I" } : Jvm.MethodName) prog_5_method_5_code (2 : Nat) (Option.some Jvm.ClassFile.FieldType.int)) ∈ TB := tb_of (i := 302) (by decide +kernel) rfl
theorem q_303 : (Jvm.Cond.methodLink "SpilledGroups$State" (32 : Nat) ({ cls := "SpilledGroups$State", name := "keyOf", desc := "(I)I" } : Jvm.MethodName)) ∈ TB := tb_of (i := 303) (by decide +kernel) rfl
theorem q_304 : (Jvm.Cond.methodLink "SpilledGroups$State" (35 : Nat) ({ cls := "SpilledGroups$State", name := "setting", desc := "(I)I" } : Jvm.MethodName)) ∈ TB := tb_of (i := 304) (by decide +kernel) rfl
theorem q_305 : (Jvm.Cond.constant "SpilledGroups$State" (38 : Nat) (65535 : Int32)) ∈ TB := tb_of (i := 305) (by decide +kernel) rfl
theorem q_306 : (Jvm.Cond.methodLink "SpilledGroups" (106 : Nat) ({ cls := "SpilledGroups", name := "firstPart", desc := "(I)I" } : Jvm.MethodName)) ∈ TB := tb_of (i := 306) (by decide +kernel) rfl
theorem q_308 : (Jvm.Cond.instanceMethod ({ cls := "SpilledGroups", name := "firstPart", desc := "(I)I" } : Jvm.MethodName)) ∈ TB := tb_of (i := 308) (by decide +kernel) rfl
theorem q_309 : (Jvm.Cond.code ({ cls := "SpilledGroups", name := "firstPart", desc := "(I)I" } : Jvm.MethodName) prog_1_method_28_code (2 : Nat) (Option.some Jvm.ClassFile.FieldType.int)) ∈ TB := tb_of (i := 309) (by decide +kernel) rfl
theorem q_310 : (Jvm.Cond.methodLink "SpilledGroupsLaw" (36 : Nat) ({ cls := "SpilledGroups", name := "groupOf", desc := "(II)I" } : Jvm.MethodName)) ∈ TB := tb_of (i := 310) (by decide +kernel) rfl
theorem q_311 : (Jvm.Cond.instanceMethod ({ cls := "SpilledGroups", name := "groupOf", desc := "(II)I" } : Jvm.MethodName)) ∈ TB := tb_of (i := 311) (by decide +kernel) rfl
theorem q_312 : (Jvm.Cond.selects "SpilledGroups" ({ cls := "SpilledGroups", name := "groupOf", desc := "(II)I" } : Jvm.MethodName) ({ cls := "SpilledGroups", name := "groupOf", desc := "(II)I" } : Jvm.MethodName)) ∈ TB := tb_of (i := 312) (by decide +kernel) rfl
theorem q_313 : (Jvm.Cond.code ({ cls := "SpilledGroups", name := "groupOf", desc := "(II)I" } : Jvm.MethodName) prog_1_method_7_code (3 : Nat) (Option.some Jvm.ClassFile.FieldType.int)) ∈ TB := tb_of (i := 313) (by decide +kernel) rfl
theorem q_314 : (Jvm.Cond.methodLink "SpilledGroups" (109 : Nat) ({ cls := "SpilledGroups", name := "groupsNow", desc := "()LSpilledGroups$Groups;" } : Jvm.MethodName)) ∈ TB := tb_of (i := 314) (by decide +kernel) rfl
theorem q_316 : (Jvm.Cond.instanceMethod ({ cls := "SpilledGroups", name := "groupsNow", desc := "()LSpilledGroups$Groups;" } : Jvm.MethodName)) ∈ TB := tb_of (i := 316) (by decide +kernel) rfl
theorem q_317 : (Jvm.Cond.code ({ cls := "SpilledGroups", name := "groupsNow", desc := "()LSpilledGroups$Groups;" } : Jvm.MethodName) prog_1_method_25_code (1 : Nat) (Option.some (Jvm.ClassFile.FieldType.object "SpilledGroups$Groups"))) ∈ TB := tb_of (i := 317) (by decide +kernel) rfl
theorem q_318 : (Jvm.Cond.methodLink "SpilledGroups" (197 : Nat) ({ cls := "SpilledGroups$Groups", name := "gather", desc := "(LSpilledGroups$State;)V" } : Jvm.MethodName)) ∈ TB := tb_of (i := 318) (by decide +kernel) rfl
theorem q_319 : (Jvm.Cond.instanceMethod ({ cls := "SpilledGroups$Groups", name := "gather", desc := "(LSpilledGroups$State;)V" } : Jvm.MethodName)) ∈ TB := tb_of (i := 319) (by decide +kernel) rfl
theorem q_320 : (Jvm.Cond.selects "SpilledGroups$Groups" ({ cls := "SpilledGroups$Groups", name := "gather", desc := "(LSpilledGroups$State;)V" } : Jvm.MethodName) ({ cls := "SpilledGroups$Groups", name := "gather", desc := "(LSpilledGroups$State;)V" } : Jvm.MethodName)) ∈ TB := tb_of (i := 320) (by decide +kernel) rfl
theorem q_321 : (Jvm.Cond.code ({ cls := "SpilledGroups$Groups", name := "gather", desc := "(LSpilledGroups$State;)V" } : Jvm.MethodName) prog_2_method_2_code (3 : Nat) (Option.none : Option Jvm.ClassFile.FieldType)) ∈ TB := tb_of (i := 321) (by decide +kernel) rfl
theorem q_322 : (Jvm.Cond.methodLink "SpilledGroups$Groups" (23 : Nat) ({ cls := "SpilledGroups$Table", name := "shorten", desc := "(I)V" } : Jvm.MethodName)) ∈ TB := tb_of (i := 322) (by decide +kernel) rfl
theorem q_323 : (Jvm.Cond.methodLink "SpilledGroups$Groups" (32 : Nat) ({ cls := "SpilledGroups$Table", name := "length", desc := "()I" } : Jvm.MethodName)) ∈ TB := tb_of (i := 323) (by decide +kernel) rfl
theorem q_324 : (Jvm.Cond.methodLink "SpilledGroups$Groups" (36 : Nat) ({ cls := "SpilledGroups$State", name := "keyOf", desc := "(I)I" } : Jvm.MethodName)) ∈ TB := tb_of (i := 324) (by decide +kernel) rfl
theorem q_325 : (Jvm.Cond.methodLink "SpilledGroups$Groups" (40 : Nat) ({ cls := "SpilledGroups$State", name := "valueOf", desc := "(I)I" } : Jvm.MethodName)) ∈ TB := tb_of (i := 325) (by decide +kernel) rfl
theorem q_326 : (Jvm.Cond.methodLink "SpilledGroups$Groups" (43 : Nat) ({ cls := "SpilledGroups$State", name := "hashOf", desc := "(I)I" } : Jvm.MethodName)) ∈ TB := tb_of (i := 326) (by decide +kernel) rfl
theorem q_327 : (Jvm.Cond.methodLink "SpilledGroups$Groups" (46 : Nat) ({ cls := "SpilledGroups$Groups", name := "addRow", desc := "(III)V" } : Jvm.MethodName)) ∈ TB := tb_of (i := 327) (by decide +kernel) rfl
theorem q_329 : (Jvm.Cond.instanceMethod ({ cls := "SpilledGroups$Groups", name := "addRow", desc := "(III)V" } : Jvm.MethodName)) ∈ TB := tb_of (i := 329) (by decide +kernel) rfl
theorem q_330 : (Jvm.Cond.code ({ cls := "SpilledGroups$Groups", name := "addRow", desc := "(III)V" } : Jvm.MethodName) prog_2_method_3_code (5 : Nat) (Option.none : Option Jvm.ClassFile.FieldType)) ∈ TB := tb_of (i := 330) (by decide +kernel) rfl
theorem q_331 : (Jvm.Cond.methodLink "SpilledGroups$Groups" (50 : Nat) ({ cls := "SpilledGroups$Table", name := "placeOf", desc := "(I)I" } : Jvm.MethodName)) ∈ TB := tb_of (i := 331) (by decide +kernel) rfl
theorem q_332 : (Jvm.Cond.instanceMethod ({ cls := "SpilledGroups$Table", name := "placeOf", desc := "(I)I" } : Jvm.MethodName)) ∈ TB := tb_of (i := 332) (by decide +kernel) rfl
theorem q_333 : (Jvm.Cond.selects "SpilledGroups$Table" ({ cls := "SpilledGroups$Table", name := "placeOf", desc := "(I)I" } : Jvm.MethodName) ({ cls := "SpilledGroups$Table", name := "placeOf", desc := "(I)I" } : Jvm.MethodName)) ∈ TB := tb_of (i := 333) (by decide +kernel) rfl
theorem q_334 : (Jvm.Cond.code ({ cls := "SpilledGroups$Table", name := "placeOf", desc := "(I)I" } : Jvm.MethodName) prog_6_method_12_code (4 : Nat) (Option.some Jvm.ClassFile.FieldType.int)) ∈ TB := tb_of (i := 334) (by decide +kernel) rfl
theorem q_335 : (Jvm.Cond.methodLink "SpilledGroups$Groups" (56 : Nat) ({ cls := "SpilledGroups$Table", name := "at", desc := "(II)I" } : Jvm.MethodName)) ∈ TB := tb_of (i := 335) (by decide +kernel) rfl
theorem q_336 : (Jvm.Cond.methodLink "SpilledGroups$Groups" (60 : Nat) ({ cls := "SpilledGroups$Table", name := "insert", desc := "(II)V" } : Jvm.MethodName)) ∈ TB := tb_of (i := 336) (by decide +kernel) rfl
theorem q_337 : (Jvm.Cond.instanceMethod ({ cls := "SpilledGroups$Table", name := "insert", desc := "(II)V" } : Jvm.MethodName)) ∈ TB := tb_of (i := 337) (by decide +kernel) rfl
theorem q_338 : (Jvm.Cond.selects "SpilledGroups$Table" ({ cls := "SpilledGroups$Table", name := "insert", desc := "(II)V" } : Jvm.MethodName) ({ cls := "SpilledGroups$Table", name := "insert", desc := "(II)V" } : Jvm.MethodName)) ∈ TB := tb_of (i := 338) (by decide +kernel) rfl
theorem q_339 : (Jvm.Cond.code ({ cls := "SpilledGroups$Table", name := "insert", desc := "(II)V" } : Jvm.MethodName) prog_6_method_7_code (4 : Nat) (Option.none : Option Jvm.ClassFile.FieldType)) ∈ TB := tb_of (i := 339) (by decide +kernel) rfl
theorem q_340 : (Jvm.Cond.methodLink "SpilledGroups$Groups" (63 : Nat) ({ cls := "SpilledGroups$Table", name := "put", desc := "(III)V" } : Jvm.MethodName)) ∈ TB := tb_of (i := 340) (by decide +kernel) rfl
theorem q_341 : (Jvm.Cond.methodLink "SpilledGroups$Groups" (66 : Nat) ({ cls := "SpilledGroups$Table", name := "raise", desc := "(III)V" } : Jvm.MethodName)) ∈ TB := tb_of (i := 341) (by decide +kernel) rfl
theorem q_342 : (Jvm.Cond.instanceMethod ({ cls := "SpilledGroups$Table", name := "raise", desc := "(III)V" } : Jvm.MethodName)) ∈ TB := tb_of (i := 342) (by decide +kernel) rfl
theorem q_343 : (Jvm.Cond.selects "SpilledGroups$Table" ({ cls := "SpilledGroups$Table", name := "raise", desc := "(III)V" } : Jvm.MethodName) ({ cls := "SpilledGroups$Table", name := "raise", desc := "(III)V" } : Jvm.MethodName)) ∈ TB := tb_of (i := 343) (by decide +kernel) rfl
theorem q_344 : (Jvm.Cond.code ({ cls := "SpilledGroups$Table", name := "raise", desc := "(III)V" } : Jvm.MethodName) prog_6_method_5_code (4 : Nat) (Option.none : Option Jvm.ClassFile.FieldType)) ∈ TB := tb_of (i := 344) (by decide +kernel) rfl
theorem q_345 : (Jvm.Cond.methodLink "SpilledGroups$Groups" (69 : Nat) ({ cls := "java/lang/Math", name := "min", desc := "(II)I" } : Jvm.MethodName)) ∈ TB := tb_of (i := 345) (by decide +kernel) rfl
theorem q_346 : (Jvm.Cond.static ({ cls := "java/lang/Math", name := "min", desc := "(II)I" } : Jvm.MethodName)) ∈ TB := tb_of (i := 346) (by decide +kernel) rfl
theorem q_347 : (Jvm.Cond.code ({ cls := "java/lang/Math", name := "min", desc := "(II)I" } : Jvm.MethodName) prog_10_method_69_code (2 : Nat) (Option.some Jvm.ClassFile.FieldType.int)) ∈ TB := tb_of (i := 347) (by decide +kernel) rfl
theorem q_348 : (Jvm.Cond.methodLink "SpilledGroups$Groups" (74 : Nat) ({ cls := "java/lang/Math", name := "max", desc := "(II)I" } : Jvm.MethodName)) ∈ TB := tb_of (i := 348) (by decide +kernel) rfl
theorem q_349 : (Jvm.Cond.methodLink "SpilledGroups$Groups" (53 : Nat) ({ cls := "SpilledGroups$Table", name := "append", desc := "(I)I" } : Jvm.MethodName)) ∈ TB := tb_of (i := 349) (by decide +kernel) rfl
theorem q_350 : (Jvm.Cond.methodLink "SpilledGroups" (200 : Nat) ({ cls := "SpilledGroups$Passes", name := "forget", desc := "()V" } : Jvm.MethodName)) ∈ TB := tb_of (i := 350) (by decide +kernel) rfl
theorem q_351 : (Jvm.Cond.instanceMethod ({ cls := "SpilledGroups$Passes", name := "forget", desc := "()V" } : Jvm.MethodName)) ∈ TB := tb_of (i := 351) (by decide +kernel) rfl
theorem q_352 : (Jvm.Cond.selects "SpilledGroups$Passes" ({ cls := "SpilledGroups$Passes", name := "forget", desc := "()V" } : Jvm.MethodName) ({ cls := "SpilledGroups$Passes", name := "forget", desc := "()V" } : Jvm.MethodName)) ∈ TB := tb_of (i := 352) (by decide +kernel) rfl
theorem q_353 : (Jvm.Cond.code ({ cls := "SpilledGroups$Passes", name := "forget", desc := "()V" } : Jvm.MethodName) prog_4_method_2_code (1 : Nat) (Option.none : Option Jvm.ClassFile.FieldType)) ∈ TB := tb_of (i := 353) (by decide +kernel) rfl
theorem q_354 : (Jvm.Cond.methodLink "SpilledGroups" (116 : Nat) ({ cls := "SpilledGroups$Table", name := "at", desc := "(II)I" } : Jvm.MethodName)) ∈ TB := tb_of (i := 354) (by decide +kernel) rfl
theorem q_355 : (Jvm.Cond.methodLink "SpilledGroups" (120 : Nat) ({ cls := "SpilledGroups", name := "passesNow", desc := "()LSpilledGroups$Passes;" } : Jvm.MethodName)) ∈ TB := tb_of (i := 355) (by decide +kernel) rfl
theorem q_357 : (Jvm.Cond.instanceMethod ({ cls := "SpilledGroups", name := "passesNow", desc := "()LSpilledGroups$Passes;" } : Jvm.MethodName)) ∈ TB := tb_of (i := 357) (by decide +kernel) rfl
theorem q_358 : (Jvm.Cond.code ({ cls := "SpilledGroups", name := "passesNow", desc := "()LSpilledGroups$Passes;" } : Jvm.MethodName) prog_1_method_26_code (1 : Nat) (Option.some (Jvm.ClassFile.FieldType.object "SpilledGroups$Passes"))) ∈ TB := tb_of (i := 358) (by decide +kernel) rfl
theorem q_359 : (Jvm.Cond.methodLink "SpilledGroups" (203 : Nat) ({ cls := "SpilledGroups$Passes", name := "run", desc := "(II)V" } : Jvm.MethodName)) ∈ TB := tb_of (i := 359) (by decide +kernel) rfl
theorem q_360 : (Jvm.Cond.instanceMethod ({ cls := "SpilledGroups$Passes", name := "run", desc := "(II)V" } : Jvm.MethodName)) ∈ TB := tb_of (i := 360) (by decide +kernel) rfl
theorem q_361 : (Jvm.Cond.selects "SpilledGroups$Passes" ({ cls := "SpilledGroups$Passes", name := "run", desc := "(II)V" } : Jvm.MethodName) ({ cls := "SpilledGroups$Passes", name := "run", desc := "(II)V" } : Jvm.MethodName)) ∈ TB := tb_of (i := 361) (by decide +kernel) rfl
theorem q_362 : (Jvm.Cond.code ({ cls := "SpilledGroups$Passes", name := "run", desc := "(II)V" } : Jvm.MethodName) prog_4_method_3_code (3 : Nat) (Option.none : Option Jvm.ClassFile.FieldType)) ∈ TB := tb_of (i := 362) (by decide +kernel) rfl
theorem q_363 : (Jvm.Cond.methodLink "SpilledGroups$Passes" (55 : Nat) ({ cls := "SpilledGroups$Table", name := "shorten", desc := "(I)V" } : Jvm.MethodName)) ∈ TB := tb_of (i := 363) (by decide +kernel) rfl
theorem q_364 : (Jvm.Cond.methodLink "SpilledGroups$Passes" (64 : Nat) ({ cls := "SpilledGroups$Table", name := "length", desc := "()I" } : Jvm.MethodName)) ∈ TB := tb_of (i := 364) (by decide +kernel) rfl
theorem q_365 : (Jvm.Cond.methodLink "SpilledGroups$Passes" (68 : Nat) ({ cls := "SpilledGroups$Table", name := "reset", desc := "(I)V" } : Jvm.MethodName)) ∈ TB := tb_of (i := 365) (by decide +kernel) rfl
theorem q_366 : (Jvm.Cond.instanceMethod ({ cls := "SpilledGroups$Table", name := "reset", desc := "(I)V" } : Jvm.MethodName)) ∈ TB := tb_of (i := 366) (by decide +kernel) rfl
theorem q_367 : (Jvm.Cond.selects "SpilledGroups$Table" ({ cls := "SpilledGroups$Table", name := "reset", desc := "(I)V" } : Jvm.MethodName) ({ cls := "SpilledGroups$Table", name := "reset", desc := "(I)V" } : Jvm.MethodName)) ∈ TB := tb_of (i := 367) (by decide +kernel) rfl
theorem q_368 : (Jvm.Cond.code ({ cls := "SpilledGroups$Table", name := "reset", desc := "(I)V" } : Jvm.MethodName) prog_6_method_10_code (2 : Nat) (Option.none : Option Jvm.ClassFile.FieldType)) ∈ TB := tb_of (i := 368) (by decide +kernel) rfl
theorem q_369 : (Jvm.Cond.methodLink "SpilledGroups$Table" (41 : Nat) ({ cls := "java/lang/Math", name := "min", desc := "(II)I" } : Jvm.MethodName)) ∈ TB := tb_of (i := 369) (by decide +kernel) rfl
theorem q_370 : (Jvm.Cond.methodLink "SpilledGroups$Passes" (74 : Nat) ({ cls := "SpilledGroups$Table", name := "copyFrom", desc := "(LSpilledGroups$Table;)V" } : Jvm.MethodName)) ∈ TB := tb_of (i := 370) (by decide +kernel) rfl
theorem q_371 : (Jvm.Cond.methodLink "SpilledGroups$Passes" (78 : Nat) ({ cls := "SpilledGroups$Passes", name := "runPass", desc := "(III)V" } : Jvm.MethodName)) ∈ TB := tb_of (i := 371) (by decide +kernel) rfl
theorem q_373 : (Jvm.Cond.instanceMethod ({ cls := "SpilledGroups$Passes", name := "runPass", desc := "(III)V" } : Jvm.MethodName)) ∈ TB := tb_of (i := 373) (by decide +kernel) rfl
theorem q_374 : (Jvm.Cond.code ({ cls := "SpilledGroups$Passes", name := "runPass", desc := "(III)V" } : Jvm.MethodName) prog_4_method_7_code (8 : Nat) (Option.none : Option Jvm.ClassFile.FieldType)) ∈ TB := tb_of (i := 374) (by decide +kernel) rfl
theorem q_375 : (Jvm.Cond.methodLink "SpilledGroups$Passes" (90 : Nat) ({ cls := "SpilledGroups$Table", name := "append", desc := "(I)I" } : Jvm.MethodName)) ∈ TB := tb_of (i := 375) (by decide +kernel) rfl
theorem q_376 : (Jvm.Cond.methodLink "SpilledGroups$Passes" (93 : Nat) ({ cls := "SpilledGroups$Table", name := "put", desc := "(III)V" } : Jvm.MethodName)) ∈ TB := tb_of (i := 376) (by decide +kernel) rfl
theorem q_377 : (Jvm.Cond.methodLink "SpilledGroups$Passes" (82 : Nat) ({ cls := "SpilledGroups$Table", name := "at", desc := "(II)I" } : Jvm.MethodName)) ∈ TB := tb_of (i := 377) (by decide +kernel) rfl
theorem q_378 : (Jvm.Cond.methodLink "SpilledGroups$Passes" (96 : Nat) ({ cls := "SpilledGroups$Passes", name := "prefixOf", desc := "(II)I" } : Jvm.MethodName)) ∈ TB := tb_of (i := 378) (by decide +kernel) rfl
theorem q_380 : (Jvm.Cond.instanceMethod ({ cls := "SpilledGroups$Passes", name := "prefixOf", desc := "(II)I" } : Jvm.MethodName)) ∈ TB := tb_of (i := 380) (by decide +kernel) rfl
theorem q_381 : (Jvm.Cond.code ({ cls := "SpilledGroups$Passes", name := "prefixOf", desc := "(II)I" } : Jvm.MethodName) prog_4_method_17_code (3 : Nat) (Option.some Jvm.ClassFile.FieldType.int)) ∈ TB := tb_of (i := 381) (by decide +kernel) rfl
theorem q_382 : (Jvm.Cond.methodLink "SpilledGroups$Passes" (99 : Nat) ({ cls := "SpilledGroups$Passes", name := "needsSpill", desc := "(III)Z" } : Jvm.MethodName)) ∈ TB := tb_of (i := 382) (by decide +kernel) rfl
theorem q_384 : (Jvm.Cond.instanceMethod ({ cls := "SpilledGroups$Passes", name := "needsSpill", desc := "(III)Z" } : Jvm.MethodName)) ∈ TB := tb_of (i := 384) (by decide +kernel) rfl
theorem q_385 : (Jvm.Cond.code ({ cls := "SpilledGroups$Passes", name := "needsSpill", desc := "(III)Z" } : Jvm.MethodName) prog_4_method_9_code (4 : Nat) (Option.some Jvm.ClassFile.FieldType.boolean)) ∈ TB := tb_of (i := 385) (by decide +kernel) rfl
theorem q_386 : (Jvm.Cond.methodLink "SpilledGroups$Passes" (119 : Nat) ({ cls := "SpilledGroups$Passes", name := "partOf", desc := "(II)I" } : Jvm.MethodName)) ∈ TB := tb_of (i := 386) (by decide +kernel) rfl
theorem q_388 : (Jvm.Cond.instanceMethod ({ cls := "SpilledGroups$Passes", name := "partOf", desc := "(II)I" } : Jvm.MethodName)) ∈ TB := tb_of (i := 388) (by decide +kernel) rfl
theorem q_389 : (Jvm.Cond.code ({ cls := "SpilledGroups$Passes", name := "partOf", desc := "(II)I" } : Jvm.MethodName) prog_4_method_18_code (4 : Nat) (Option.some Jvm.ClassFile.FieldType.int)) ∈ TB := tb_of (i := 389) (by decide +kernel) rfl
theorem q_390 : (Jvm.Cond.methodLink "SpilledGroups$Passes" (122 : Nat) ({ cls := "SpilledGroups$Passes", name := "isSpilled", desc := "(II)Z" } : Jvm.MethodName)) ∈ TB := tb_of (i := 390) (by decide +kernel) rfl
theorem q_392 : (Jvm.Cond.instanceMethod ({ cls := "SpilledGroups$Passes", name := "isSpilled", desc := "(II)Z" } : Jvm.MethodName)) ∈ TB := tb_of (i := 392) (by decide +kernel) rfl
theorem q_393 : (Jvm.Cond.code ({ cls := "SpilledGroups$Passes", name := "isSpilled", desc := "(II)Z" } : Jvm.MethodName) prog_4_method_15_code (3 : Nat) (Option.some Jvm.ClassFile.FieldType.boolean)) ∈ TB := tb_of (i := 393) (by decide +kernel) rfl
theorem q_394 : (Jvm.Cond.methodLink "SpilledGroups$Passes" (126 : Nat) ({ cls := "SpilledGroups$Passes", name := "isHeld", desc := "(I)Z" } : Jvm.MethodName)) ∈ TB := tb_of (i := 394) (by decide +kernel) rfl
theorem q_396 : (Jvm.Cond.instanceMethod ({ cls := "SpilledGroups$Passes", name := "isHeld", desc := "(I)Z" } : Jvm.MethodName)) ∈ TB := tb_of (i := 396) (by decide +kernel) rfl
theorem q_397 : (Jvm.Cond.code ({ cls := "SpilledGroups$Passes", name := "isHeld", desc := "(I)Z" } : Jvm.MethodName) prog_4_method_16_code (3 : Nat) (Option.some Jvm.ClassFile.FieldType.boolean)) ∈ TB := tb_of (i := 397) (by decide +kernel) rfl
theorem q_398 : (Jvm.Cond.methodLink "SpilledGroups$Passes" (136 : Nat) ({ cls := "SpilledGroups$Table", name := "placeOf", desc := "(I)I" } : Jvm.MethodName)) ∈ TB := tb_of (i := 398) (by decide +kernel) rfl
theorem q_399 : (Jvm.Cond.methodLink "SpilledGroups$Passes" (103 : Nat) ({ cls := "SpilledGroups$Passes", name := "fullestPart", desc := "()I" } : Jvm.MethodName)) ∈ TB := tb_of (i := 399) (by decide +kernel) rfl
theorem q_401 : (Jvm.Cond.instanceMethod ({ cls := "SpilledGroups$Passes", name := "fullestPart", desc := "()I" } : Jvm.MethodName)) ∈ TB := tb_of (i := 401) (by decide +kernel) rfl
theorem q_402 : (Jvm.Cond.code ({ cls := "SpilledGroups$Passes", name := "fullestPart", desc := "()I" } : Jvm.MethodName) prog_4_method_14_code (3 : Nat) (Option.some Jvm.ClassFile.FieldType.int)) ∈ TB := tb_of (i := 402) (by decide +kernel) rfl
theorem q_403 : (Jvm.Cond.methodLink "SpilledGroups$Passes" (106 : Nat) ({ cls := "SpilledGroups$Passes", name := "spillPart", desc := "(II)V" } : Jvm.MethodName)) ∈ TB := tb_of (i := 403) (by decide +kernel) rfl
theorem q_405 : (Jvm.Cond.instanceMethod ({ cls := "SpilledGroups$Passes", name := "spillPart", desc := "(II)V" } : Jvm.MethodName)) ∈ TB := tb_of (i := 405) (by decide +kernel) rfl
theorem q_406 : (Jvm.Cond.code ({ cls := "SpilledGroups$Passes", name := "spillPart", desc := "(II)V" } : Jvm.MethodName) prog_4_method_12_code (7 : Nat) (Option.none : Option Jvm.ClassFile.FieldType)) ∈ TB := tb_of (i := 406) (by decide +kernel) rfl
theorem q_407 : (Jvm.Cond.methodLink "SpilledGroups$Passes" (130 : Nat) ({ cls := "SpilledGroups$Table", name := "raise", desc := "(III)V" } : Jvm.MethodName)) ∈ TB := tb_of (i := 407) (by decide +kernel) rfl
theorem q_408 : (Jvm.Cond.methodLink "SpilledGroups$Passes" (109 : Nat) ({ cls := "SpilledGroups$Passes", name := "takeItem", desc := "(III)V" } : Jvm.MethodName)) ∈ TB := tb_of (i := 408) (by decide +kernel) rfl
theorem q_410 : (Jvm.Cond.instanceMethod ({ cls := "SpilledGroups$Passes", name := "takeItem", desc := "(III)V" } : Jvm.MethodName)) ∈ TB := tb_of (i := 410) (by decide +kernel) rfl
theorem q_411 : (Jvm.Cond.code ({ cls := "SpilledGroups$Passes", name := "takeItem", desc := "(III)V" } : Jvm.MethodName) prog_4_method_10_code (5 : Nat) (Option.none : Option Jvm.ClassFile.FieldType)) ∈ TB := tb_of (i := 411) (by decide +kernel) rfl
theorem q_412 : (Jvm.Cond.methodLink "SpilledGroups$Passes" (133 : Nat) ({ cls := "SpilledGroups$Passes", name := "layGroup", desc := "(III)V" } : Jvm.MethodName)) ∈ TB := tb_of (i := 412) (by decide +kernel) rfl
theorem q_414 : (Jvm.Cond.instanceMethod ({ cls := "SpilledGroups$Passes", name := "layGroup", desc := "(III)V" } : Jvm.MethodName)) ∈ TB := tb_of (i := 414) (by decide +kernel) rfl
theorem q_415 : (Jvm.Cond.code ({ cls := "SpilledGroups$Passes", name := "layGroup", desc := "(III)V" } : Jvm.MethodName) prog_4_method_11_code (4 : Nat) (Option.none : Option Jvm.ClassFile.FieldType)) ∈ TB := tb_of (i := 415) (by decide +kernel) rfl
theorem q_416 : (Jvm.Cond.methodLink "SpilledGroups$Passes" (139 : Nat) ({ cls := "SpilledGroups$Table", name := "insert", desc := "(II)V" } : Jvm.MethodName)) ∈ TB := tb_of (i := 416) (by decide +kernel) rfl
theorem q_417 : (Jvm.Cond.methodLink "SpilledGroups$Passes" (142 : Nat) ({ cls := "java/lang/Math", name := "max", desc := "(II)I" } : Jvm.MethodName)) ∈ TB := tb_of (i := 417) (by decide +kernel) rfl
theorem q_418 : (Jvm.Cond.methodLink "SpilledGroups$Passes" (112 : Nat) ({ cls := "SpilledGroups$Passes", name := "finishMemory", desc := "(III)V" } : Jvm.MethodName)) ∈ TB := tb_of (i := 418) (by decide +kernel) rfl
theorem q_420 : (Jvm.Cond.instanceMethod ({ cls := "SpilledGroups$Passes", name := "finishMemory", desc := "(III)V" } : Jvm.MethodName)) ∈ TB := tb_of (i := 420) (by decide +kernel) rfl
theorem q_421 : (Jvm.Cond.code ({ cls := "SpilledGroups$Passes", name := "finishMemory", desc := "(III)V" } : Jvm.MethodName) prog_4_method_13_code (6 : Nat) (Option.none : Option Jvm.ClassFile.FieldType)) ∈ TB := tb_of (i := 421) (by decide +kernel) rfl
theorem q_422 : (Jvm.Cond.methodLink "SpilledGroups$Passes" (115 : Nat) ({ cls := "SpilledGroups$Passes", name := "runFiles", desc := "(IIII)V" } : Jvm.MethodName)) ∈ TB := tb_of (i := 422) (by decide +kernel) rfl
theorem q_424 : (Jvm.Cond.instanceMethod ({ cls := "SpilledGroups$Passes", name := "runFiles", desc := "(IIII)V" } : Jvm.MethodName)) ∈ TB := tb_of (i := 424) (by decide +kernel) rfl
theorem q_425 : (Jvm.Cond.code ({ cls := "SpilledGroups$Passes", name := "runFiles", desc := "(IIII)V" } : Jvm.MethodName) prog_4_method_8_code (6 : Nat) (Option.none : Option Jvm.ClassFile.FieldType)) ∈ TB := tb_of (i := 425) (by decide +kernel) rfl
theorem q_426 : (Jvm.Cond.methodLink "SpilledGroupsLaw" (40 : Nat) ({ cls := "SpilledGroups", name := "finished", desc := "(I)I" } : Jvm.MethodName)) ∈ TB := tb_of (i := 426) (by decide +kernel) rfl
theorem q_427 : (Jvm.Cond.instanceMethod ({ cls := "SpilledGroups", name := "finished", desc := "(I)I" } : Jvm.MethodName)) ∈ TB := tb_of (i := 427) (by decide +kernel) rfl
theorem q_428 : (Jvm.Cond.selects "SpilledGroups" ({ cls := "SpilledGroups", name := "finished", desc := "(I)I" } : Jvm.MethodName) ({ cls := "SpilledGroups", name := "finished", desc := "(I)I" } : Jvm.MethodName)) ∈ TB := tb_of (i := 428) (by decide +kernel) rfl
theorem q_429 : (Jvm.Cond.code ({ cls := "SpilledGroups", name := "finished", desc := "(I)I" } : Jvm.MethodName) prog_1_method_8_code (3 : Nat) (Option.some Jvm.ClassFile.FieldType.int)) ∈ TB := tb_of (i := 429) (by decide +kernel) rfl
theorem q_430 : (Jvm.Cond.methodLink "SpilledGroupsLaw" (44 : Nat) ({ cls := "SpilledGroups", name := "passOf", desc := "(III)I" } : Jvm.MethodName)) ∈ TB := tb_of (i := 430) (by decide +kernel) rfl
theorem q_431 : (Jvm.Cond.instanceMethod ({ cls := "SpilledGroups", name := "passOf", desc := "(III)I" } : Jvm.MethodName)) ∈ TB := tb_of (i := 431) (by decide +kernel) rfl
theorem q_432 : (Jvm.Cond.selects "SpilledGroups" ({ cls := "SpilledGroups", name := "passOf", desc := "(III)I" } : Jvm.MethodName) ({ cls := "SpilledGroups", name := "passOf", desc := "(III)I" } : Jvm.MethodName)) ∈ TB := tb_of (i := 432) (by decide +kernel) rfl
theorem q_433 : (Jvm.Cond.code ({ cls := "SpilledGroups", name := "passOf", desc := "(III)I" } : Jvm.MethodName) prog_1_method_9_code (5 : Nat) (Option.some Jvm.ClassFile.FieldType.int)) ∈ TB := tb_of (i := 433) (by decide +kernel) rfl
theorem q_434 : (Jvm.Cond.methodLink "SpilledGroups" (131 : Nat) ({ cls := "SpilledGroups$Passes", name := "find", desc := "(II)I" } : Jvm.MethodName)) ∈ TB := tb_of (i := 434) (by decide +kernel) rfl
theorem q_435 : (Jvm.Cond.instanceMethod ({ cls := "SpilledGroups$Passes", name := "find", desc := "(II)I" } : Jvm.MethodName)) ∈ TB := tb_of (i := 435) (by decide +kernel) rfl
theorem q_436 : (Jvm.Cond.selects "SpilledGroups$Passes" ({ cls := "SpilledGroups$Passes", name := "find", desc := "(II)I" } : Jvm.MethodName) ({ cls := "SpilledGroups$Passes", name := "find", desc := "(II)I" } : Jvm.MethodName)) ∈ TB := tb_of (i := 436) (by decide +kernel) rfl
theorem q_437 : (Jvm.Cond.code ({ cls := "SpilledGroups$Passes", name := "find", desc := "(II)I" } : Jvm.MethodName) prog_4_method_4_code (4 : Nat) (Option.some Jvm.ClassFile.FieldType.int)) ∈ TB := tb_of (i := 437) (by decide +kernel) rfl
theorem q_438 : (Jvm.Cond.methodLink "SpilledGroupsLaw" (49 : Nat) ({ cls := "SpilledGroups", name := "spillOf", desc := "(II)I" } : Jvm.MethodName)) ∈ TB := tb_of (i := 438) (by decide +kernel) rfl
theorem q_439 : (Jvm.Cond.instanceMethod ({ cls := "SpilledGroups", name := "spillOf", desc := "(II)I" } : Jvm.MethodName)) ∈ TB := tb_of (i := 439) (by decide +kernel) rfl
theorem q_440 : (Jvm.Cond.selects "SpilledGroups" ({ cls := "SpilledGroups", name := "spillOf", desc := "(II)I" } : Jvm.MethodName) ({ cls := "SpilledGroups", name := "spillOf", desc := "(II)I" } : Jvm.MethodName)) ∈ TB := tb_of (i := 440) (by decide +kernel) rfl
theorem q_441 : (Jvm.Cond.code ({ cls := "SpilledGroups", name := "spillOf", desc := "(II)I" } : Jvm.MethodName) prog_1_method_10_code (4 : Nat) (Option.some Jvm.ClassFile.FieldType.int)) ∈ TB := tb_of (i := 441) (by decide +kernel) rfl
theorem q_442 : (Jvm.Cond.methodLink "SpilledGroupsLaw" (53 : Nat) ({ cls := "SpilledGroups", name := "total", desc := "(I)I" } : Jvm.MethodName)) ∈ TB := tb_of (i := 442) (by decide +kernel) rfl
theorem q_443 : (Jvm.Cond.instanceMethod ({ cls := "SpilledGroups", name := "total", desc := "(I)I" } : Jvm.MethodName)) ∈ TB := tb_of (i := 443) (by decide +kernel) rfl
theorem q_444 : (Jvm.Cond.selects "SpilledGroups" ({ cls := "SpilledGroups", name := "total", desc := "(I)I" } : Jvm.MethodName) ({ cls := "SpilledGroups", name := "total", desc := "(I)I" } : Jvm.MethodName)) ∈ TB := tb_of (i := 444) (by decide +kernel) rfl
theorem q_445 : (Jvm.Cond.code ({ cls := "SpilledGroups", name := "total", desc := "(I)I" } : Jvm.MethodName) prog_1_method_11_code (3 : Nat) (Option.some Jvm.ClassFile.FieldType.int)) ∈ TB := tb_of (i := 445) (by decide +kernel) rfl
theorem q_446 : (Jvm.Cond.methodLink "SpilledGroups" (139 : Nat) ({ cls := "SpilledGroups$Passes", name := "itemsFiled", desc := "()I" } : Jvm.MethodName)) ∈ TB := tb_of (i := 446) (by decide +kernel) rfl
theorem q_447 : (Jvm.Cond.instanceMethod ({ cls := "SpilledGroups$Passes", name := "itemsFiled", desc := "()I" } : Jvm.MethodName)) ∈ TB := tb_of (i := 447) (by decide +kernel) rfl
theorem q_448 : (Jvm.Cond.selects "SpilledGroups$Passes" ({ cls := "SpilledGroups$Passes", name := "itemsFiled", desc := "()I" } : Jvm.MethodName) ({ cls := "SpilledGroups$Passes", name := "itemsFiled", desc := "()I" } : Jvm.MethodName)) ∈ TB := tb_of (i := 448) (by decide +kernel) rfl
theorem q_449 : (Jvm.Cond.code ({ cls := "SpilledGroups$Passes", name := "itemsFiled", desc := "()I" } : Jvm.MethodName) prog_4_method_5_code (1 : Nat) (Option.some Jvm.ClassFile.FieldType.int)) ∈ TB := tb_of (i := 449) (by decide +kernel) rfl
theorem q_450 : (Jvm.Cond.methodLink "SpilledGroups$Passes" (86 : Nat) ({ cls := "SpilledGroups$Table", name := "sumOf", desc := "(I)I" } : Jvm.MethodName)) ∈ TB := tb_of (i := 450) (by decide +kernel) rfl
theorem q_451 : (Jvm.Cond.instanceMethod ({ cls := "SpilledGroups$Table", name := "sumOf", desc := "(I)I" } : Jvm.MethodName)) ∈ TB := tb_of (i := 451) (by decide +kernel) rfl
theorem q_452 : (Jvm.Cond.selects "SpilledGroups$Table" ({ cls := "SpilledGroups$Table", name := "sumOf", desc := "(I)I" } : Jvm.MethodName) ({ cls := "SpilledGroups$Table", name := "sumOf", desc := "(I)I" } : Jvm.MethodName)) ∈ TB := tb_of (i := 452) (by decide +kernel) rfl
theorem q_453 : (Jvm.Cond.code ({ cls := "SpilledGroups$Table", name := "sumOf", desc := "(I)I" } : Jvm.MethodName) prog_6_method_13_code (4 : Nat) (Option.some Jvm.ClassFile.FieldType.int)) ∈ TB := tb_of (i := 453) (by decide +kernel) rfl
theorem q_454 : (Jvm.Cond.methodLink "SpilledGroups$Table" (44 : Nat) ({ cls := "SpilledGroups$Table", name := "at", desc := "(II)I" } : Jvm.MethodName)) ∈ TB := tb_of (i := 454) (by decide +kernel) rfl
theorem q_455 : (Jvm.Cond.methodLink "SpilledGroups" (142 : Nat) ({ cls := "SpilledGroups$Passes", name := "itemsRead", desc := "()I" } : Jvm.MethodName)) ∈ TB := tb_of (i := 455) (by decide +kernel) rfl
theorem q_456 : (Jvm.Cond.instanceMethod ({ cls := "SpilledGroups$Passes", name := "itemsRead", desc := "()I" } : Jvm.MethodName)) ∈ TB := tb_of (i := 456) (by decide +kernel) rfl
theorem q_457 : (Jvm.Cond.selects "SpilledGroups$Passes" ({ cls := "SpilledGroups$Passes", name := "itemsRead", desc := "()I" } : Jvm.MethodName) ({ cls := "SpilledGroups$Passes", name := "itemsRead", desc := "()I" } : Jvm.MethodName)) ∈ TB := tb_of (i := 457) (by decide +kernel) rfl
theorem q_458 : (Jvm.Cond.code ({ cls := "SpilledGroups$Passes", name := "itemsRead", desc := "()I" } : Jvm.MethodName) prog_4_method_6_code (1 : Nat) (Option.some Jvm.ClassFile.FieldType.int)) ∈ TB := tb_of (i := 458) (by decide +kernel) rfl
theorem q_459 : (Jvm.Cond.methodLink "SpilledGroups" (145 : Nat) ({ cls := "SpilledGroups$Table", name := "greatestOf", desc := "(I)I" } : Jvm.MethodName)) ∈ TB := tb_of (i := 459) (by decide +kernel) rfl
theorem q_460 : (Jvm.Cond.instanceMethod ({ cls := "SpilledGroups$Table", name := "greatestOf", desc := "(I)I" } : Jvm.MethodName)) ∈ TB := tb_of (i := 460) (by decide +kernel) rfl
theorem q_461 : (Jvm.Cond.selects "SpilledGroups$Table" ({ cls := "SpilledGroups$Table", name := "greatestOf", desc := "(I)I" } : Jvm.MethodName) ({ cls := "SpilledGroups$Table", name := "greatestOf", desc := "(I)I" } : Jvm.MethodName)) ∈ TB := tb_of (i := 461) (by decide +kernel) rfl
theorem q_462 : (Jvm.Cond.code ({ cls := "SpilledGroups$Table", name := "greatestOf", desc := "(I)I" } : Jvm.MethodName) prog_6_method_14_code (4 : Nat) (Option.some Jvm.ClassFile.FieldType.int)) ∈ TB := tb_of (i := 462) (by decide +kernel) rfl
theorem q_463 : (Jvm.Cond.methodLink "SpilledGroupsLaw" (57 : Nat) ({ cls := "SpilledGroups", name := "written", desc := "(II)I" } : Jvm.MethodName)) ∈ TB := tb_of (i := 463) (by decide +kernel) rfl
theorem q_464 : (Jvm.Cond.instanceMethod ({ cls := "SpilledGroups", name := "written", desc := "(II)I" } : Jvm.MethodName)) ∈ TB := tb_of (i := 464) (by decide +kernel) rfl
theorem q_465 : (Jvm.Cond.selects "SpilledGroups" ({ cls := "SpilledGroups", name := "written", desc := "(II)I" } : Jvm.MethodName) ({ cls := "SpilledGroups", name := "written", desc := "(II)I" } : Jvm.MethodName)) ∈ TB := tb_of (i := 465) (by decide +kernel) rfl
theorem q_466 : (Jvm.Cond.code ({ cls := "SpilledGroups", name := "written", desc := "(II)I" } : Jvm.MethodName) prog_1_method_12_code (3 : Nat) (Option.some Jvm.ClassFile.FieldType.int)) ∈ TB := tb_of (i := 466) (by decide +kernel) rfl
theorem q_467 : (Jvm.Cond.methodLink "SpilledGroups" (152 : Nat) ({ cls := "SpilledGroups", name := "passesBy", desc := "(II)LSpilledGroups$Passes;" } : Jvm.MethodName)) ∈ TB := tb_of (i := 467) (by decide +kernel) rfl
theorem q_469 : (Jvm.Cond.instanceMethod ({ cls := "SpilledGroups", name := "passesBy", desc := "(II)LSpilledGroups$Passes;" } : Jvm.MethodName)) ∈ TB := tb_of (i := 469) (by decide +kernel) rfl
theorem q_470 : (Jvm.Cond.code ({ cls := "SpilledGroups", name := "passesBy", desc := "(II)LSpilledGroups$Passes;" } : Jvm.MethodName) prog_1_method_27_code (3 : Nat) (Option.some (Jvm.ClassFile.FieldType.object "SpilledGroups$Passes"))) ∈ TB := tb_of (i := 470) (by decide +kernel) rfl
theorem q_471 : (Jvm.Cond.methodLink "SpilledGroupsLaw" (61 : Nat) ({ cls := "SpilledGroups", name := "bestBits", desc := "(II)I" } : Jvm.MethodName)) ∈ TB := tb_of (i := 471) (by decide +kernel) rfl
theorem q_472 : (Jvm.Cond.instanceMethod ({ cls := "SpilledGroups", name := "bestBits", desc := "(II)I" } : Jvm.MethodName)) ∈ TB := tb_of (i := 472) (by decide +kernel) rfl
theorem q_473 : (Jvm.Cond.selects "SpilledGroups" ({ cls := "SpilledGroups", name := "bestBits", desc := "(II)I" } : Jvm.MethodName) ({ cls := "SpilledGroups", name := "bestBits", desc := "(II)I" } : Jvm.MethodName)) ∈ TB := tb_of (i := 473) (by decide +kernel) rfl
theorem q_474 : (Jvm.Cond.code ({ cls := "SpilledGroups", name := "bestBits", desc := "(II)I" } : Jvm.MethodName) prog_1_method_13_code (7 : Nat) (Option.some Jvm.ClassFile.FieldType.int)) ∈ TB := tb_of (i := 474) (by decide +kernel) rfl
theorem q_475 : (Jvm.Cond.methodLink "SpilledGroupsLaw" (65 : Nat) ({ cls := "SpilledGroups", name := "enough", desc := "()I" } : Jvm.MethodName)) ∈ TB := tb_of (i := 475) (by decide +kernel) rfl
theorem q_476 : (Jvm.Cond.instanceMethod ({ cls := "SpilledGroups", name := "enough", desc := "()I" } : Jvm.MethodName)) ∈ TB := tb_of (i := 476) (by decide +kernel) rfl
theorem q_477 : (Jvm.Cond.selects "SpilledGroups" ({ cls := "SpilledGroups", name := "enough", desc := "()I" } : Jvm.MethodName) ({ cls := "SpilledGroups", name := "enough", desc := "()I" } : Jvm.MethodName)) ∈ TB := tb_of (i := 477) (by decide +kernel) rfl
theorem q_478 : (Jvm.Cond.code ({ cls := "SpilledGroups", name := "enough", desc := "()I" } : Jvm.MethodName) prog_1_method_14_code (2 : Nat) (Option.some Jvm.ClassFile.FieldType.int)) ∈ TB := tb_of (i := 478) (by decide +kernel) rfl
theorem q_479 : (Jvm.Cond.methodLink "SpilledGroups" (156 : Nat) ({ cls := "java/lang/Math", name := "max", desc := "(II)I" } : Jvm.MethodName)) ∈ TB := tb_of (i := 479) (by decide +kernel) rfl
theorem q_480 : (Jvm.Cond.methodLink "SpilledGroupsLaw" (69 : Nat) ({ cls := "SpilledGroups", name := "skewed", desc := "(I)I" } : Jvm.MethodName)) ∈ TB := tb_of (i := 480) (by decide +kernel) rfl
theorem q_481 : (Jvm.Cond.instanceMethod ({ cls := "SpilledGroups", name := "skewed", desc := "(I)I" } : Jvm.MethodName)) ∈ TB := tb_of (i := 481) (by decide +kernel) rfl
theorem q_482 : (Jvm.Cond.selects "SpilledGroups" ({ cls := "SpilledGroups", name := "skewed", desc := "(I)I" } : Jvm.MethodName) ({ cls := "SpilledGroups", name := "skewed", desc := "(I)I" } : Jvm.MethodName)) ∈ TB := tb_of (i := 482) (by decide +kernel) rfl
theorem q_483 : (Jvm.Cond.code ({ cls := "SpilledGroups", name := "skewed", desc := "(I)I" } : Jvm.MethodName) prog_1_method_15_code (6 : Nat) (Option.some Jvm.ClassFile.FieldType.int)) ∈ TB := tb_of (i := 483) (by decide +kernel) rfl
theorem q_484 : (Jvm.Cond.methodLink "SpilledGroups" (161 : Nat) ({ cls := "SpilledGroups", name := "rowsInPart", desc := "(I)I" } : Jvm.MethodName)) ∈ TB := tb_of (i := 484) (by decide +kernel) rfl
theorem q_486 : (Jvm.Cond.instanceMethod ({ cls := "SpilledGroups", name := "rowsInPart", desc := "(I)I" } : Jvm.MethodName)) ∈ TB := tb_of (i := 486) (by decide +kernel) rfl
theorem q_487 : (Jvm.Cond.code ({ cls := "SpilledGroups", name := "rowsInPart", desc := "(I)I" } : Jvm.MethodName) prog_1_method_29_code (4 : Nat) (Option.some Jvm.ClassFile.FieldType.int)) ∈ TB := tb_of (i := 487) (by decide +kernel) rfl
theorem q_488 : (Jvm.Cond.methodLink "SpilledGroups" (164 : Nat) ({ cls := "SpilledGroups", name := "groupsInPart", desc := "(I)I" } : Jvm.MethodName)) ∈ TB := tb_of (i := 488) (by decide +kernel) rfl
theorem q_490 : (Jvm.Cond.instanceMethod ({ cls := "SpilledGroups", name := "groupsInPart", desc := "(I)I" } : Jvm.MethodName)) ∈ TB := tb_of (i := 490) (by decide +kernel) rfl
theorem q_491 : (Jvm.Cond.code ({ cls := "SpilledGroups", name := "groupsInPart", desc := "(I)I" } : Jvm.MethodName) prog_1_method_30_code (5 : Nat) (Option.some Jvm.ClassFile.FieldType.int)) ∈ TB := tb_of (i := 491) (by decide +kernel) rfl
theorem q_492 : (Jvm.Cond.methodLink "SpilledGroupsLaw" (73 : Nat) ({ cls := "SpilledGroups", name := "count", desc := "(I)I" } : Jvm.MethodName)) ∈ TB := tb_of (i := 492) (by decide +kernel) rfl
theorem q_493 : (Jvm.Cond.instanceMethod ({ cls := "SpilledGroups", name := "count", desc := "(I)I" } : Jvm.MethodName)) ∈ TB := tb_of (i := 493) (by decide +kernel) rfl
theorem q_494 : (Jvm.Cond.selects "SpilledGroups" ({ cls := "SpilledGroups", name := "count", desc := "(I)I" } : Jvm.MethodName) ({ cls := "SpilledGroups", name := "count", desc := "(I)I" } : Jvm.MethodName)) ∈ TB := tb_of (i := 494) (by decide +kernel) rfl
theorem q_495 : (Jvm.Cond.code ({ cls := "SpilledGroups", name := "count", desc := "(I)I" } : Jvm.MethodName) prog_1_method_16_code (2 : Nat) (Option.some Jvm.ClassFile.FieldType.int)) ∈ TB := tb_of (i := 495) (by decide +kernel) rfl
theorem q_496 : (Jvm.Cond.methodLink "SpilledGroups" (167 : Nat) ({ cls := "SpilledGroups$Table", name := "sumOf", desc := "(I)I" } : Jvm.MethodName)) ∈ TB := tb_of (i := 496) (by decide +kernel) rfl
theorem q_497 : (Jvm.Cond.methodLink "SpilledGroups" (170 : Nat) ({ cls := "SpilledGroups$History", name := "length", desc := "()I" } : Jvm.MethodName)) ∈ TB := tb_of (i := 497) (by decide +kernel) rfl
theorem q_498 : (Jvm.Cond.instanceMethod ({ cls := "SpilledGroups$History", name := "length", desc := "()I" } : Jvm.MethodName)) ∈ TB := tb_of (i := 498) (by decide +kernel) rfl
theorem q_499 : (Jvm.Cond.selects "SpilledGroups$History" ({ cls := "SpilledGroups$History", name := "length", desc := "()I" } : Jvm.MethodName) ({ cls := "SpilledGroups$History", name := "length", desc := "()I" } : Jvm.MethodName)) ∈ TB := tb_of (i := 499) (by decide +kernel) rfl
theorem q_500 : (Jvm.Cond.code ({ cls := "SpilledGroups$History", name := "length", desc := "()I" } : Jvm.MethodName) prog_3_method_2_code (1 : Nat) (Option.some Jvm.ClassFile.FieldType.int)) ∈ TB := tb_of (i := 500) (by decide +kernel) rfl
theorem q_501 : (Jvm.Cond.methodLink "SpilledGroupsLaw" (77 : Nat) ({ cls := "SpilledGroups", name := "undo", desc := "()I" } : Jvm.MethodName)) ∈ TB := tb_of (i := 501) (by decide +kernel) rfl
theorem q_502 : (Jvm.Cond.instanceMethod ({ cls := "SpilledGroups", name := "undo", desc := "()I" } : Jvm.MethodName)) ∈ TB := tb_of (i := 502) (by decide +kernel) rfl
theorem q_503 : (Jvm.Cond.selects "SpilledGroups" ({ cls := "SpilledGroups", name := "undo", desc := "()I" } : Jvm.MethodName) ({ cls := "SpilledGroups", name := "undo", desc := "()I" } : Jvm.MethodName)) ∈ TB := tb_of (i := 503) (by decide +kernel) rfl
theorem q_504 : (Jvm.Cond.code ({ cls := "SpilledGroups", name := "undo", desc := "()I" } : Jvm.MethodName) prog_1_method_17_code (1 : Nat) (Option.some Jvm.ClassFile.FieldType.int)) ∈ TB := tb_of (i := 504) (by decide +kernel) rfl
theorem q_505 : (Jvm.Cond.methodLink "SpilledGroups" (174 : Nat) ({ cls := "SpilledGroups$History", name := "restore", desc := "(LSpilledGroups$State;)V" } : Jvm.MethodName)) ∈ TB := tb_of (i := 505) (by decide +kernel) rfl
theorem q_506 : (Jvm.Cond.instanceMethod ({ cls := "SpilledGroups$History", name := "restore", desc := "(LSpilledGroups$State;)V" } : Jvm.MethodName)) ∈ TB := tb_of (i := 506) (by decide +kernel) rfl
theorem q_507 : (Jvm.Cond.selects "SpilledGroups$History" ({ cls := "SpilledGroups$History", name := "restore", desc := "(LSpilledGroups$State;)V" } : Jvm.MethodName) ({ cls := "SpilledGroups$History", name := "restore", desc := "(LSpilledGroups$State;)V" } : Jvm.MethodName)) ∈ TB := tb_of (i := 507) (by decide +kernel) rfl
theorem q_508 : (Jvm.Cond.code ({ cls := "SpilledGroups$History", name := "restore", desc := "(LSpilledGroups$State;)V" } : Jvm.MethodName) prog_3_method_4_code (3 : Nat) (Option.none : Option Jvm.ClassFile.FieldType)) ∈ TB := tb_of (i := 508) (by decide +kernel) rfl
theorem q_509 : (Jvm.Cond.methodLink "SpilledGroupsLaw" (81 : Nat) ({ cls := "SpilledGroups", name := "type", desc := "(I)I" } : Jvm.MethodName)) ∈ TB := tb_of (i := 509) (by decide +kernel) rfl
theorem q_510 : (Jvm.Cond.instanceMethod ({ cls := "SpilledGroups", name := "type", desc := "(I)I" } : Jvm.MethodName)) ∈ TB := tb_of (i := 510) (by decide +kernel) rfl
theorem q_511 : (Jvm.Cond.selects "SpilledGroups" ({ cls := "SpilledGroups", name := "type", desc := "(I)I" } : Jvm.MethodName) ({ cls := "SpilledGroups", name := "type", desc := "(I)I" } : Jvm.MethodName)) ∈ TB := tb_of (i := 511) (by decide +kernel) rfl
theorem q_512 : (Jvm.Cond.code ({ cls := "SpilledGroups", name := "type", desc := "(I)I" } : Jvm.MethodName) prog_1_method_18_code (2 : Nat) (Option.some Jvm.ClassFile.FieldType.int)) ∈ TB := tb_of (i := 512) (by decide +kernel) rfl
theorem q_513 : (Jvm.Cond.methodLink "SpilledGroups" (178 : Nat) ({ cls := "SpilledGroups$Table", name := "append", desc := "(I)I" } : Jvm.MethodName)) ∈ TB := tb_of (i := 513) (by decide +kernel) rfl
theorem q_514 : (Jvm.Cond.methodLink "SpilledGroupsLaw" (85 : Nat) ({ cls := "SpilledGroups", name := "clearText", desc := "()I" } : Jvm.MethodName)) ∈ TB := tb_of (i := 514) (by decide +kernel) rfl
theorem q_515 : (Jvm.Cond.instanceMethod ({ cls := "SpilledGroups", name := "clearText", desc := "()I" } : Jvm.MethodName)) ∈ TB := tb_of (i := 515) (by decide +kernel) rfl
theorem q_516 : (Jvm.Cond.selects "SpilledGroups" ({ cls := "SpilledGroups", name := "clearText", desc := "()I" } : Jvm.MethodName) ({ cls := "SpilledGroups", name := "clearText", desc := "()I" } : Jvm.MethodName)) ∈ TB := tb_of (i := 516) (by decide +kernel) rfl
theorem q_517 : (Jvm.Cond.code ({ cls := "SpilledGroups", name := "clearText", desc := "()I" } : Jvm.MethodName) prog_1_method_19_code (2 : Nat) (Option.some Jvm.ClassFile.FieldType.int)) ∈ TB := tb_of (i := 517) (by decide +kernel) rfl
theorem q_518 : (Jvm.Cond.methodLink "SpilledGroupsLaw" (89 : Nat) ({ cls := "SpilledGroups", name := "fault", desc := "(I)I" } : Jvm.MethodName)) ∈ TB := tb_of (i := 518) (by decide +kernel) rfl
theorem q_519 : (Jvm.Cond.instanceMethod ({ cls := "SpilledGroups", name := "fault", desc := "(I)I" } : Jvm.MethodName)) ∈ TB := tb_of (i := 519) (by decide +kernel) rfl
theorem q_520 : (Jvm.Cond.selects "SpilledGroups" ({ cls := "SpilledGroups", name := "fault", desc := "(I)I" } : Jvm.MethodName) ({ cls := "SpilledGroups", name := "fault", desc := "(I)I" } : Jvm.MethodName)) ∈ TB := tb_of (i := 520) (by decide +kernel) rfl
theorem q_521 : (Jvm.Cond.code ({ cls := "SpilledGroups", name := "fault", desc := "(I)I" } : Jvm.MethodName) prog_1_method_20_code (2 : Nat) (Option.some Jvm.ClassFile.FieldType.int)) ∈ TB := tb_of (i := 521) (by decide +kernel) rfl
theorem q_522 : (Jvm.Cond.methodLink "SpilledGroups" (181 : Nat) ({ cls := "SpilledGroups$Text", name := "read", desc := "(I)V" } : Jvm.MethodName)) ∈ TB := tb_of (i := 522) (by decide +kernel) rfl
theorem q_523 : (Jvm.Cond.instanceMethod ({ cls := "SpilledGroups$Text", name := "read", desc := "(I)V" } : Jvm.MethodName)) ∈ TB := tb_of (i := 523) (by decide +kernel) rfl
theorem q_524 : (Jvm.Cond.selects "SpilledGroups$Text" ({ cls := "SpilledGroups$Text", name := "read", desc := "(I)V" } : Jvm.MethodName) ({ cls := "SpilledGroups$Text", name := "read", desc := "(I)V" } : Jvm.MethodName)) ∈ TB := tb_of (i := 524) (by decide +kernel) rfl
theorem q_525 : (Jvm.Cond.code ({ cls := "SpilledGroups$Text", name := "read", desc := "(I)V" } : Jvm.MethodName) prog_7_method_2_code (3 : Nat) (Option.none : Option Jvm.ClassFile.FieldType)) ∈ TB := tb_of (i := 525) (by decide +kernel) rfl
theorem q_526 : (Jvm.Cond.methodLink "SpilledGroups$Text" (29 : Nat) ({ cls := "SpilledGroups$Table", name := "shorten", desc := "(I)V" } : Jvm.MethodName)) ∈ TB := tb_of (i := 526) (by decide +kernel) rfl
theorem q_527 : (Jvm.Cond.methodLink "SpilledGroups$Text" (36 : Nat) ({ cls := "SpilledGroups$Table", name := "length", desc := "()I" } : Jvm.MethodName)) ∈ TB := tb_of (i := 527) (by decide +kernel) rfl
theorem q_528 : (Jvm.Cond.methodLink "SpilledGroups$Text" (43 : Nat) ({ cls := "SpilledGroups$Text", name := "readRow", desc := "()Z" } : Jvm.MethodName)) ∈ TB := tb_of (i := 528) (by decide +kernel) rfl
theorem q_530 : (Jvm.Cond.instanceMethod ({ cls := "SpilledGroups$Text", name := "readRow", desc := "()Z" } : Jvm.MethodName)) ∈ TB := tb_of (i := 530) (by decide +kernel) rfl
theorem q_531 : (Jvm.Cond.code ({ cls := "SpilledGroups$Text", name := "readRow", desc := "()Z" } : Jvm.MethodName) prog_7_method_3_code (4 : Nat) (Option.some Jvm.ClassFile.FieldType.boolean)) ∈ TB := tb_of (i := 531) (by decide +kernel) rfl
theorem q_532 : (Jvm.Cond.methodLink "SpilledGroups$Text" (50 : Nat) ({ cls := "SpilledGroups$Text", name := "readNumber", desc := "(I)I" } : Jvm.MethodName)) ∈ TB := tb_of (i := 532) (by decide +kernel) rfl
theorem q_534 : (Jvm.Cond.instanceMethod ({ cls := "SpilledGroups$Text", name := "readNumber", desc := "(I)I" } : Jvm.MethodName)) ∈ TB := tb_of (i := 534) (by decide +kernel) rfl
theorem q_535 : (Jvm.Cond.code ({ cls := "SpilledGroups$Text", name := "readNumber", desc := "(I)I" } : Jvm.MethodName) prog_7_method_4_code (5 : Nat) (Option.some Jvm.ClassFile.FieldType.int)) ∈ TB := tb_of (i := 535) (by decide +kernel) rfl
theorem q_536 : (Jvm.Cond.methodLink "SpilledGroups$Text" (65 : Nat) ({ cls := "SpilledGroups$Table", name := "at", desc := "(II)I" } : Jvm.MethodName)) ∈ TB := tb_of (i := 536) (by decide +kernel) rfl
theorem q_538 : (Jvm.Cond.methodLink "SpilledGroups$Text" (73 : Nat) ({ cls := "java/lang/Math", name := "max", desc := "(II)I" } : Jvm.MethodName)) ∈ TB := tb_of (i := 538) (by decide +kernel) rfl
theorem q_539 : (Jvm.Cond.methodLink "SpilledGroups$Text" (54 : Nat) ({ cls := "SpilledGroups$Text", name := "readSign", desc := "(C)Z" } : Jvm.MethodName)) ∈ TB := tb_of (i := 539) (by decide +kernel) rfl
theorem q_541 : (Jvm.Cond.instanceMethod ({ cls := "SpilledGroups$Text", name := "readSign", desc := "(C)Z" } : Jvm.MethodName)) ∈ TB := tb_of (i := 541) (by decide +kernel) rfl
theorem q_542 : (Jvm.Cond.code ({ cls := "SpilledGroups$Text", name := "readSign", desc := "(C)Z" } : Jvm.MethodName) prog_7_method_5_code (2 : Nat) (Option.some Jvm.ClassFile.FieldType.boolean)) ∈ TB := tb_of (i := 542) (by decide +kernel) rfl
theorem q_543 : (Jvm.Cond.methodLink "SpilledGroups$Text" (58 : Nat) ({ cls := "SpilledGroups$Table", name := "append", desc := "(I)I" } : Jvm.MethodName)) ∈ TB := tb_of (i := 543) (by decide +kernel) rfl
theorem q_544 : (Jvm.Cond.methodLink "SpilledGroups$Text" (61 : Nat) ({ cls := "SpilledGroups$Table", name := "put", desc := "(III)V" } : Jvm.MethodName)) ∈ TB := tb_of (i := 544) (by decide +kernel) rfl
theorem q_545 : (Jvm.Cond.methodLink "SpilledGroupsLaw" (93 : Nat) ({ cls := "SpilledGroups", name := "play", desc := "()I" } : Jvm.MethodName)) ∈ TB := tb_of (i := 545) (by decide +kernel) rfl
theorem q_546 : (Jvm.Cond.instanceMethod ({ cls := "SpilledGroups", name := "play", desc := "()I" } : Jvm.MethodName)) ∈ TB := tb_of (i := 546) (by decide +kernel) rfl
theorem q_547 : (Jvm.Cond.selects "SpilledGroups" ({ cls := "SpilledGroups", name := "play", desc := "()I" } : Jvm.MethodName) ({ cls := "SpilledGroups", name := "play", desc := "()I" } : Jvm.MethodName)) ∈ TB := tb_of (i := 547) (by decide +kernel) rfl
theorem q_548 : (Jvm.Cond.code ({ cls := "SpilledGroups", name := "play", desc := "()I" } : Jvm.MethodName) prog_1_method_21_code (2 : Nat) (Option.some Jvm.ClassFile.FieldType.int)) ∈ TB := tb_of (i := 548) (by decide +kernel) rfl
theorem q_549 : (Jvm.Cond.classLink "SpilledGroupsLaw" (10 : Nat) "SpilledGroupsModel") ∈ TB := tb_of (i := 549) (by decide +kernel) rfl
theorem q_550 : (Jvm.Cond.instantiable "SpilledGroupsModel" (30 : Nat)) ∈ TB := tb_of (i := 550) (by decide +kernel) rfl
theorem q_551 : (Jvm.Cond.methodLink "SpilledGroupsLaw" (12 : Nat) ({ cls := "SpilledGroupsModel", name := "<init>", desc := "()V" } : Jvm.MethodName)) ∈ TB := tb_of (i := 551) (by decide +kernel) rfl
theorem q_552 : (Jvm.Cond.instanceMethod ({ cls := "SpilledGroupsModel", name := "<init>", desc := "()V" } : Jvm.MethodName)) ∈ TB := tb_of (i := 552) (by decide +kernel) rfl
theorem q_553 : (Jvm.Cond.code ({ cls := "SpilledGroupsModel", name := "<init>", desc := "()V" } : Jvm.MethodName) prog_9_method_1_code (1 : Nat) (Option.none : Option Jvm.ClassFile.FieldType)) ∈ TB := tb_of (i := 553) (by decide +kernel) rfl
theorem q_554 : (Jvm.Cond.methodLink "SpilledGroupsModel" (1 : Nat) ({ cls := "java/lang/Object", name := "<init>", desc := "()V" } : Jvm.MethodName)) ∈ TB := tb_of (i := 554) (by decide +kernel) rfl
theorem q_555 : (Jvm.Cond.constant "SpilledGroupsModel" (46 : Nat) (40503 : Int32)) ∈ TB := tb_of (i := 555) (by decide +kernel) rfl
theorem q_556 : (Jvm.Cond.fieldLink "SpilledGroupsModel" (7 : Nat) "SpilledGroupsModel" "all" "[I") ∈ TB := tb_of (i := 556) (by decide +kernel) rfl
theorem q_557 : (Jvm.Cond.fieldLink "SpilledGroupsModel" (13 : Nat) "SpilledGroupsModel" "history" "[I") ∈ TB := tb_of (i := 557) (by decide +kernel) rfl
theorem q_558 : (Jvm.Cond.fieldLink "SpilledGroupsModel" (47 : Nat) "SpilledGroupsModel" "historyLong" "I") ∈ TB := tb_of (i := 558) (by decide +kernel) rfl
theorem q_559 : (Jvm.Cond.fieldLink "SpilledGroupsModel" (16 : Nat) "SpilledGroupsModel" "item" "[I") ∈ TB := tb_of (i := 559) (by decide +kernel) rfl
theorem q_560 : (Jvm.Cond.fieldLink "SpilledGroupsModel" (93 : Nat) "SpilledGroupsModel" "items" "I") ∈ TB := tb_of (i := 560) (by decide +kernel) rfl
theorem q_561 : (Jvm.Cond.fieldLink "SpilledGroupsModel" (19 : Nat) "SpilledGroupsModel" "group" "[I") ∈ TB := tb_of (i := 561) (by decide +kernel) rfl
theorem q_562 : (Jvm.Cond.fieldLink "SpilledGroupsModel" (96 : Nat) "SpilledGroupsModel" "groups" "I") ∈ TB := tb_of (i := 562) (by decide +kernel) rfl
theorem q_563 : (Jvm.Cond.fieldLink "SpilledGroupsModel" (22 : Nat) "SpilledGroupsModel" "pass" "[I") ∈ TB := tb_of (i := 563) (by decide +kernel) rfl
theorem q_564 : (Jvm.Cond.fieldLink "SpilledGroupsModel" (103 : Nat) "SpilledGroupsModel" "passes" "I") ∈ TB := tb_of (i := 564) (by decide +kernel) rfl
theorem q_565 : (Jvm.Cond.fieldLink "SpilledGroupsModel" (25 : Nat) "SpilledGroupsModel" "spill" "[I") ∈ TB := tb_of (i := 565) (by decide +kernel) rfl
theorem q_566 : (Jvm.Cond.fieldLink "SpilledGroupsModel" (128 : Nat) "SpilledGroupsModel" "spills" "I") ∈ TB := tb_of (i := 566) (by decide +kernel) rfl
theorem q_567 : (Jvm.Cond.fieldLink "SpilledGroupsModel" (28 : Nat) "SpilledGroupsModel" "done" "[I") ∈ TB := tb_of (i := 567) (by decide +kernel) rfl
theorem q_568 : (Jvm.Cond.fieldLink "SpilledGroupsModel" (149 : Nat) "SpilledGroupsModel" "dones" "I") ∈ TB := tb_of (i := 568) (by decide +kernel) rfl
theorem q_569 : (Jvm.Cond.fieldLink "SpilledGroupsModel" (143 : Nat) "SpilledGroupsModel" "beyond" "I") ∈ TB := tb_of (i := 569) (by decide +kernel) rfl
theorem q_570 : (Jvm.Cond.fieldLink "SpilledGroupsModel" (112 : Nat) "SpilledGroupsModel" "bits" "I") ∈ TB := tb_of (i := 570) (by decide +kernel) rfl
theorem q_571 : (Jvm.Cond.fieldLink "SpilledGroupsModel" (137 : Nat) "SpilledGroupsModel" "limit" "I") ∈ TB := tb_of (i := 571) (by decide +kernel) rfl
theorem q_572 : (Jvm.Cond.fieldLink "SpilledGroupsModel" (31 : Nat) "SpilledGroupsModel" "waits" "[I") ∈ TB := tb_of (i := 572) (by decide +kernel) rfl
theorem q_573 : (Jvm.Cond.fieldLink "SpilledGroupsModel" (152 : Nat) "SpilledGroupsModel" "waiting" "I") ∈ TB := tb_of (i := 573) (by decide +kernel) rfl
theorem q_574 : (Jvm.Cond.fieldLink "SpilledGroupsModel" (34 : Nat) "SpilledGroupsModel" "first" "[I") ∈ TB := tb_of (i := 574) (by decide +kernel) rfl
theorem q_575 : (Jvm.Cond.fieldLink "SpilledGroupsModel" (37 : Nat) "SpilledGroupsModel" "last" "[I") ∈ TB := tb_of (i := 575) (by decide +kernel) rfl
theorem q_576 : (Jvm.Cond.fieldLink "SpilledGroupsModel" (40 : Nat) "SpilledGroupsModel" "long0" "[I") ∈ TB := tb_of (i := 576) (by decide +kernel) rfl
theorem q_577 : (Jvm.Cond.fieldLink "SpilledGroupsModel" (43 : Nat) "SpilledGroupsModel" "text" "[I") ∈ TB := tb_of (i := 577) (by decide +kernel) rfl
theorem q_578 : (Jvm.Cond.fieldLink "SpilledGroupsModel" (205 : Nat) "SpilledGroupsModel" "textLong" "I") ∈ TB := tb_of (i := 578) (by decide +kernel) rfl
theorem q_579 : (Jvm.Cond.fieldLink "SpilledGroupsModel" (226 : Nat) "SpilledGroupsModel" "from" "I") ∈ TB := tb_of (i := 579) (by decide +kernel) rfl
theorem q_580 : (Jvm.Cond.fieldLink "SpilledGroupsModel" (216 : Nat) "SpilledGroupsModel" "at" "I") ∈ TB := tb_of (i := 580) (by decide +kernel) rfl
theorem q_581 : (Jvm.Cond.fieldLink "SpilledGroupsModel" (232 : Nat) "SpilledGroupsModel" "readKey" "I") ∈ TB := tb_of (i := 581) (by decide +kernel) rfl
theorem q_582 : (Jvm.Cond.fieldLink "SpilledGroupsModel" (238 : Nat) "SpilledGroupsModel" "readValue" "I") ∈ TB := tb_of (i := 582) (by decide +kernel) rfl
theorem q_583 : (Jvm.Cond.fieldLink "SpilledGroupsModel" (219 : Nat) "SpilledGroupsModel" "number" "I") ∈ TB := tb_of (i := 583) (by decide +kernel) rfl
theorem q_584 : (Jvm.Cond.fieldLink "SpilledGroupsModel" (245 : Nat) "SpilledGroupsModel" "why" "I") ∈ TB := tb_of (i := 584) (by decide +kernel) rfl
theorem q_585 : (Jvm.Cond.fieldLink "SpilledGroupsModel" (248 : Nat) "SpilledGroupsModel" "cause" "I") ∈ TB := tb_of (i := 585) (by decide +kernel) rfl
theorem q_647 : (Jvm.Cond.methodLink "SpilledGroupsLaw" (17 : Nat) ({ cls := "SpilledGroupsModel", name := "row", desc := "(II)I" } : Jvm.MethodName)) ∈ TB := tb_of (i := 647) (by decide +kernel) rfl
theorem q_648 : (Jvm.Cond.instanceMethod ({ cls := "SpilledGroupsModel", name := "row", desc := "(II)I" } : Jvm.MethodName)) ∈ TB := tb_of (i := 648) (by decide +kernel) rfl
theorem q_649 : (Jvm.Cond.selects "SpilledGroupsModel" ({ cls := "SpilledGroupsModel", name := "row", desc := "(II)I" } : Jvm.MethodName) ({ cls := "SpilledGroupsModel", name := "row", desc := "(II)I" } : Jvm.MethodName)) ∈ TB := tb_of (i := 649) (by decide +kernel) rfl
theorem q_650 : (Jvm.Cond.code ({ cls := "SpilledGroupsModel", name := "row", desc := "(II)I" } : Jvm.MethodName) prog_9_method_7_code (3 : Nat) (Option.some Jvm.ClassFile.FieldType.int)) ∈ TB := tb_of (i := 650) (by decide +kernel) rfl
theorem q_651 : (Jvm.Cond.methodLink "SpilledGroupsModel" (61 : Nat) ({ cls := "SpilledGroupsModel", name := "isRow", desc := "(II)Z" } : Jvm.MethodName)) ∈ TB := tb_of (i := 651) (by decide +kernel) rfl
theorem q_652 : (Jvm.Cond.static ({ cls := "SpilledGroupsModel", name := "isRow", desc := "(II)Z" } : Jvm.MethodName)) ∈ TB := tb_of (i := 652) (by decide +kernel) rfl
theorem q_653 : (Jvm.Cond.code ({ cls := "SpilledGroupsModel", name := "isRow", desc := "(II)Z" } : Jvm.MethodName) prog_9_method_5_code (2 : Nat) (Option.some Jvm.ClassFile.FieldType.boolean)) ∈ TB := tb_of (i := 653) (by decide +kernel) rfl
theorem q_654 : (Jvm.Cond.constantLong "SpilledGroupsModel" (51 : Nat) (9999 : Int64)) ∈ TB := tb_of (i := 654) (by decide +kernel) rfl
theorem q_655 : (Jvm.Cond.methodLink "SpilledGroupsModel" (53 : Nat) ({ cls := "SpilledGroupsModel", name := "in", desc := "(JJJ)Z" } : Jvm.MethodName)) ∈ TB := tb_of (i := 655) (by decide +kernel) rfl
theorem q_656 : (Jvm.Cond.static ({ cls := "SpilledGroupsModel", name := "in", desc := "(JJJ)Z" } : Jvm.MethodName)) ∈ TB := tb_of (i := 656) (by decide +kernel) rfl
theorem q_657 : (Jvm.Cond.code ({ cls := "SpilledGroupsModel", name := "in", desc := "(JJJ)Z" } : Jvm.MethodName) prog_9_method_3_code (6 : Nat) (Option.some Jvm.ClassFile.FieldType.boolean)) ∈ TB := tb_of (i := 657) (by decide +kernel) rfl
theorem q_658 : (Jvm.Cond.constantLong "SpilledGroupsModel" (57 : Nat) (-999 : Int64)) ∈ TB := tb_of (i := 658) (by decide +kernel) rfl
theorem q_659 : (Jvm.Cond.constantLong "SpilledGroupsModel" (59 : Nat) (999 : Int64)) ∈ TB := tb_of (i := 659) (by decide +kernel) rfl
theorem q_660 : (Jvm.Cond.constant "SpilledGroupsModel" (65 : Nat) (-1000001 : Int32)) ∈ TB := tb_of (i := 660) (by decide +kernel) rfl
theorem q_661 : (Jvm.Cond.constant "SpilledGroupsModel" (66 : Nat) (-1000003 : Int32)) ∈ TB := tb_of (i := 661) (by decide +kernel) rfl
theorem q_662 : (Jvm.Cond.methodLink "SpilledGroupsModel" (67 : Nat) ({ cls := "SpilledGroupsModel", name := "record", desc := "()V" } : Jvm.MethodName)) ∈ TB := tb_of (i := 662) (by decide +kernel) rfl
theorem q_664 : (Jvm.Cond.instanceMethod ({ cls := "SpilledGroupsModel", name := "record", desc := "()V" } : Jvm.MethodName)) ∈ TB := tb_of (i := 664) (by decide +kernel) rfl
theorem q_665 : (Jvm.Cond.code ({ cls := "SpilledGroupsModel", name := "record", desc := "()V" } : Jvm.MethodName) prog_9_method_4_code (2 : Nat) (Option.none : Option Jvm.ClassFile.FieldType)) ∈ TB := tb_of (i := 665) (by decide +kernel) rfl
theorem q_666 : (Jvm.Cond.methodLink "SpilledGroupsModel" (70 : Nat) ({ cls := "SpilledGroupsModel", name := "adds", desc := "(II)V" } : Jvm.MethodName)) ∈ TB := tb_of (i := 666) (by decide +kernel) rfl
theorem q_668 : (Jvm.Cond.instanceMethod ({ cls := "SpilledGroupsModel", name := "adds", desc := "(II)V" } : Jvm.MethodName)) ∈ TB := tb_of (i := 668) (by decide +kernel) rfl
theorem q_669 : (Jvm.Cond.code ({ cls := "SpilledGroupsModel", name := "adds", desc := "(II)V" } : Jvm.MethodName) prog_9_method_6_code (3 : Nat) (Option.none : Option Jvm.ClassFile.FieldType)) ∈ TB := tb_of (i := 669) (by decide +kernel) rfl
theorem q_670 : (Jvm.Cond.methodLink "SpilledGroupsLaw" (22 : Nat) ({ cls := "SpilledGroupsModel", name := "drop", desc := "(I)I" } : Jvm.MethodName)) ∈ TB := tb_of (i := 670) (by decide +kernel) rfl
theorem q_671 : (Jvm.Cond.instanceMethod ({ cls := "SpilledGroupsModel", name := "drop", desc := "(I)I" } : Jvm.MethodName)) ∈ TB := tb_of (i := 671) (by decide +kernel) rfl
theorem q_672 : (Jvm.Cond.selects "SpilledGroupsModel" ({ cls := "SpilledGroupsModel", name := "drop", desc := "(I)I" } : Jvm.MethodName) ({ cls := "SpilledGroupsModel", name := "drop", desc := "(I)I" } : Jvm.MethodName)) ∈ TB := tb_of (i := 672) (by decide +kernel) rfl
theorem q_673 : (Jvm.Cond.code ({ cls := "SpilledGroupsModel", name := "drop", desc := "(I)I" } : Jvm.MethodName) prog_9_method_8_code (3 : Nat) (Option.some Jvm.ClassFile.FieldType.int)) ∈ TB := tb_of (i := 673) (by decide +kernel) rfl
theorem q_674 : (Jvm.Cond.constant "SpilledGroupsModel" (74 : Nat) (-1000002 : Int32)) ∈ TB := tb_of (i := 674) (by decide +kernel) rfl
theorem q_675 : (Jvm.Cond.methodLink "SpilledGroupsLaw" (27 : Nat) ({ cls := "SpilledGroupsModel", name := "clear", desc := "()I" } : Jvm.MethodName)) ∈ TB := tb_of (i := 675) (by decide +kernel) rfl
theorem q_676 : (Jvm.Cond.instanceMethod ({ cls := "SpilledGroupsModel", name := "clear", desc := "()I" } : Jvm.MethodName)) ∈ TB := tb_of (i := 676) (by decide +kernel) rfl
theorem q_677 : (Jvm.Cond.selects "SpilledGroupsModel" ({ cls := "SpilledGroupsModel", name := "clear", desc := "()I" } : Jvm.MethodName) ({ cls := "SpilledGroupsModel", name := "clear", desc := "()I" } : Jvm.MethodName)) ∈ TB := tb_of (i := 677) (by decide +kernel) rfl
theorem q_678 : (Jvm.Cond.code ({ cls := "SpilledGroupsModel", name := "clear", desc := "()I" } : Jvm.MethodName) prog_9_method_9_code (2 : Nat) (Option.some Jvm.ClassFile.FieldType.int)) ∈ TB := tb_of (i := 678) (by decide +kernel) rfl
theorem q_679 : (Jvm.Cond.methodLink "SpilledGroupsLaw" (31 : Nat) ({ cls := "SpilledGroupsModel", name := "set", desc := "(II)I" } : Jvm.MethodName)) ∈ TB := tb_of (i := 679) (by decide +kernel) rfl
theorem q_680 : (Jvm.Cond.instanceMethod ({ cls := "SpilledGroupsModel", name := "set", desc := "(II)I" } : Jvm.MethodName)) ∈ TB := tb_of (i := 680) (by decide +kernel) rfl
theorem q_681 : (Jvm.Cond.selects "SpilledGroupsModel" ({ cls := "SpilledGroupsModel", name := "set", desc := "(II)I" } : Jvm.MethodName) ({ cls := "SpilledGroupsModel", name := "set", desc := "(II)I" } : Jvm.MethodName)) ∈ TB := tb_of (i := 681) (by decide +kernel) rfl
theorem q_682 : (Jvm.Cond.code ({ cls := "SpilledGroupsModel", name := "set", desc := "(II)I" } : Jvm.MethodName) prog_9_method_10_code (5 : Nat) (Option.some Jvm.ClassFile.FieldType.int)) ∈ TB := tb_of (i := 682) (by decide +kernel) rfl
theorem q_683 : (Jvm.Cond.constantLong "SpilledGroupsModel" (75 : Nat) (12 : Int64)) ∈ TB := tb_of (i := 683) (by decide +kernel) rfl
theorem q_684 : (Jvm.Cond.constantLong "SpilledGroupsModel" (77 : Nat) (4 : Int64)) ∈ TB := tb_of (i := 684) (by decide +kernel) rfl
theorem q_685 : (Jvm.Cond.constantLong "SpilledGroupsModel" (79 : Nat) (65535 : Int64)) ∈ TB := tb_of (i := 685) (by decide +kernel) rfl
theorem q_686 : (Jvm.Cond.methodLink "SpilledGroupsLaw" (35 : Nat) ({ cls := "SpilledGroupsModel", name := "rowOf", desc := "(II)I" } : Jvm.MethodName)) ∈ TB := tb_of (i := 686) (by decide +kernel) rfl
theorem q_687 : (Jvm.Cond.instanceMethod ({ cls := "SpilledGroupsModel", name := "rowOf", desc := "(II)I" } : Jvm.MethodName)) ∈ TB := tb_of (i := 687) (by decide +kernel) rfl
theorem q_688 : (Jvm.Cond.selects "SpilledGroupsModel" ({ cls := "SpilledGroupsModel", name := "rowOf", desc := "(II)I" } : Jvm.MethodName) ({ cls := "SpilledGroupsModel", name := "rowOf", desc := "(II)I" } : Jvm.MethodName)) ∈ TB := tb_of (i := 688) (by decide +kernel) rfl
theorem q_689 : (Jvm.Cond.code ({ cls := "SpilledGroupsModel", name := "rowOf", desc := "(II)I" } : Jvm.MethodName) prog_9_method_13_code (4 : Nat) (Option.some Jvm.ClassFile.FieldType.int)) ∈ TB := tb_of (i := 689) (by decide +kernel) rfl
theorem q_690 : (Jvm.Cond.constantLong "SpilledGroupsModel" (86 : Nat) (3 : Int64)) ∈ TB := tb_of (i := 690) (by decide +kernel) rfl
theorem q_691 : (Jvm.Cond.constant "SpilledGroupsModel" (88 : Nat) (-1000004 : Int32)) ∈ TB := tb_of (i := 691) (by decide +kernel) rfl
theorem q_692 : (Jvm.Cond.methodLink "SpilledGroupsModel" (82 : Nat) ({ cls := "SpilledGroupsModel", name := "hashOf", desc := "(I)I" } : Jvm.MethodName)) ∈ TB := tb_of (i := 692) (by decide +kernel) rfl
theorem q_694 : (Jvm.Cond.instanceMethod ({ cls := "SpilledGroupsModel", name := "hashOf", desc := "(I)I" } : Jvm.MethodName)) ∈ TB := tb_of (i := 694) (by decide +kernel) rfl
theorem q_695 : (Jvm.Cond.code ({ cls := "SpilledGroupsModel", name := "hashOf", desc := "(I)I" } : Jvm.MethodName) prog_9_method_11_code (2 : Nat) (Option.some Jvm.ClassFile.FieldType.int)) ∈ TB := tb_of (i := 695) (by decide +kernel) rfl
theorem q_696 : (Jvm.Cond.constant "SpilledGroupsModel" (81 : Nat) (65536 : Int32)) ∈ TB := tb_of (i := 696) (by decide +kernel) rfl
theorem q_697 : (Jvm.Cond.methodLink "SpilledGroupsModel" (89 : Nat) ({ cls := "SpilledGroupsModel", name := "partOf", desc := "(III)I" } : Jvm.MethodName)) ∈ TB := tb_of (i := 697) (by decide +kernel) rfl
theorem q_699 : (Jvm.Cond.instanceMethod ({ cls := "SpilledGroupsModel", name := "partOf", desc := "(III)I" } : Jvm.MethodName)) ∈ TB := tb_of (i := 699) (by decide +kernel) rfl
theorem q_700 : (Jvm.Cond.code ({ cls := "SpilledGroupsModel", name := "partOf", desc := "(III)I" } : Jvm.MethodName) prog_9_method_12_code (4 : Nat) (Option.some Jvm.ClassFile.FieldType.int)) ∈ TB := tb_of (i := 700) (by decide +kernel) rfl
theorem q_701 : (Jvm.Cond.methodLink "SpilledGroupsLaw" (39 : Nat) ({ cls := "SpilledGroupsModel", name := "groupOf", desc := "(II)I" } : Jvm.MethodName)) ∈ TB := tb_of (i := 701) (by decide +kernel) rfl
theorem q_702 : (Jvm.Cond.instanceMethod ({ cls := "SpilledGroupsModel", name := "groupOf", desc := "(II)I" } : Jvm.MethodName)) ∈ TB := tb_of (i := 702) (by decide +kernel) rfl
theorem q_703 : (Jvm.Cond.selects "SpilledGroupsModel" ({ cls := "SpilledGroupsModel", name := "groupOf", desc := "(II)I" } : Jvm.MethodName) ({ cls := "SpilledGroupsModel", name := "groupOf", desc := "(II)I" } : Jvm.MethodName)) ∈ TB := tb_of (i := 703) (by decide +kernel) rfl
theorem q_704 : (Jvm.Cond.code ({ cls := "SpilledGroupsModel", name := "groupOf", desc := "(II)I" } : Jvm.MethodName) prog_9_method_31_code (6 : Nat) (Option.some Jvm.ClassFile.FieldType.int)) ∈ TB := tb_of (i := 704) (by decide +kernel) rfl
theorem q_705 : (Jvm.Cond.constantLong "SpilledGroupsModel" (172 : Nat) (7 : Int64)) ∈ TB := tb_of (i := 705) (by decide +kernel) rfl
theorem q_706 : (Jvm.Cond.methodLink "SpilledGroupsModel" (174 : Nat) ({ cls := "SpilledGroupsModel", name := "runNow", desc := "()V" } : Jvm.MethodName)) ∈ TB := tb_of (i := 706) (by decide +kernel) rfl
theorem q_708 : (Jvm.Cond.instanceMethod ({ cls := "SpilledGroupsModel", name := "runNow", desc := "()V" } : Jvm.MethodName)) ∈ TB := tb_of (i := 708) (by decide +kernel) rfl
theorem q_709 : (Jvm.Cond.code ({ cls := "SpilledGroupsModel", name := "runNow", desc := "()V" } : Jvm.MethodName) prog_9_method_30_code (1 : Nat) (Option.none : Option Jvm.ClassFile.FieldType)) ∈ TB := tb_of (i := 709) (by decide +kernel) rfl
theorem q_710 : (Jvm.Cond.methodLink "SpilledGroupsModel" (169 : Nat) ({ cls := "SpilledGroupsModel", name := "run", desc := "(II)V" } : Jvm.MethodName)) ∈ TB := tb_of (i := 710) (by decide +kernel) rfl
theorem q_712 : (Jvm.Cond.instanceMethod ({ cls := "SpilledGroupsModel", name := "run", desc := "(II)V" } : Jvm.MethodName)) ∈ TB := tb_of (i := 712) (by decide +kernel) rfl
theorem q_713 : (Jvm.Cond.code ({ cls := "SpilledGroupsModel", name := "run", desc := "(II)V" } : Jvm.MethodName) prog_9_method_29_code (5 : Nat) (Option.none : Option Jvm.ClassFile.FieldType)) ∈ TB := tb_of (i := 713) (by decide +kernel) rfl
theorem q_714 : (Jvm.Cond.methodLink "SpilledGroupsModel" (118 : Nat) ({ cls := "SpilledGroupsModel", name := "makes", desc := "(IIIII)I" } : Jvm.MethodName)) ∈ TB := tb_of (i := 714) (by decide +kernel) rfl
theorem q_716 : (Jvm.Cond.instanceMethod ({ cls := "SpilledGroupsModel", name := "makes", desc := "(IIIII)I" } : Jvm.MethodName)) ∈ TB := tb_of (i := 716) (by decide +kernel) rfl
theorem q_717 : (Jvm.Cond.code ({ cls := "SpilledGroupsModel", name := "makes", desc := "(IIIII)I" } : Jvm.MethodName) prog_9_method_14_code (7 : Nat) (Option.some Jvm.ClassFile.FieldType.int)) ∈ TB := tb_of (i := 717) (by decide +kernel) rfl
theorem q_718 : (Jvm.Cond.methodLink "SpilledGroupsModel" (165 : Nat) ({ cls := "SpilledGroupsModel", name := "doPass", desc := "(III)V" } : Jvm.MethodName)) ∈ TB := tb_of (i := 718) (by decide +kernel) rfl
theorem q_720 : (Jvm.Cond.instanceMethod ({ cls := "SpilledGroupsModel", name := "doPass", desc := "(III)V" } : Jvm.MethodName)) ∈ TB := tb_of (i := 720) (by decide +kernel) rfl
theorem q_721 : (Jvm.Cond.code ({ cls := "SpilledGroupsModel", name := "doPass", desc := "(III)V" } : Jvm.MethodName) prog_9_method_28_code (8 : Nat) (Option.none : Option Jvm.ClassFile.FieldType)) ∈ TB := tb_of (i := 721) (by decide +kernel) rfl
theorem q_722 : (Jvm.Cond.methodLink "SpilledGroupsModel" (99 : Nat) ({ cls := "SpilledGroupsModel", name := "of", desc := "(II)I" } : Jvm.MethodName)) ∈ TB := tb_of (i := 722) (by decide +kernel) rfl
theorem q_724 : (Jvm.Cond.instanceMethod ({ cls := "SpilledGroupsModel", name := "of", desc := "(II)I" } : Jvm.MethodName)) ∈ TB := tb_of (i := 724) (by decide +kernel) rfl
theorem q_725 : (Jvm.Cond.code ({ cls := "SpilledGroupsModel", name := "of", desc := "(II)I" } : Jvm.MethodName) prog_9_method_15_code (3 : Nat) (Option.some Jvm.ClassFile.FieldType.int)) ∈ TB := tb_of (i := 725) (by decide +kernel) rfl
theorem q_726 : (Jvm.Cond.methodLink "SpilledGroupsModel" (106 : Nat) ({ cls := "SpilledGroupsModel", name := "counts", desc := "(I)V" } : Jvm.MethodName)) ∈ TB := tb_of (i := 726) (by decide +kernel) rfl
theorem q_728 : (Jvm.Cond.instanceMethod ({ cls := "SpilledGroupsModel", name := "counts", desc := "(I)V" } : Jvm.MethodName)) ∈ TB := tb_of (i := 728) (by decide +kernel) rfl
theorem q_729 : (Jvm.Cond.code ({ cls := "SpilledGroupsModel", name := "counts", desc := "(I)V" } : Jvm.MethodName) prog_9_method_21_code (2 : Nat) (Option.none : Option Jvm.ClassFile.FieldType)) ∈ TB := tb_of (i := 729) (by decide +kernel) rfl
theorem q_730 : (Jvm.Cond.methodLink "SpilledGroupsModel" (155 : Nat) ({ cls := "SpilledGroupsModel", name := "takes", desc := "(I)Z" } : Jvm.MethodName)) ∈ TB := tb_of (i := 730) (by decide +kernel) rfl
theorem q_732 : (Jvm.Cond.instanceMethod ({ cls := "SpilledGroupsModel", name := "takes", desc := "(I)Z" } : Jvm.MethodName)) ∈ TB := tb_of (i := 732) (by decide +kernel) rfl
theorem q_733 : (Jvm.Cond.code ({ cls := "SpilledGroupsModel", name := "takes", desc := "(I)Z" } : Jvm.MethodName) prog_9_method_25_code (6 : Nat) (Option.some Jvm.ClassFile.FieldType.boolean)) ∈ TB := tb_of (i := 733) (by decide +kernel) rfl
theorem q_734 : (Jvm.Cond.methodLink "SpilledGroupsModel" (110 : Nat) ({ cls := "SpilledGroupsModel", name := "last", desc := "(I)I" } : Jvm.MethodName)) ∈ TB := tb_of (i := 734) (by decide +kernel) rfl
theorem q_736 : (Jvm.Cond.instanceMethod ({ cls := "SpilledGroupsModel", name := "last", desc := "(I)I" } : Jvm.MethodName)) ∈ TB := tb_of (i := 736) (by decide +kernel) rfl
theorem q_737 : (Jvm.Cond.code ({ cls := "SpilledGroupsModel", name := "last", desc := "(I)I" } : Jvm.MethodName) prog_9_method_20_code (2 : Nat) (Option.some Jvm.ClassFile.FieldType.int)) ∈ TB := tb_of (i := 737) (by decide +kernel) rfl
theorem q_738 : (Jvm.Cond.methodLink "SpilledGroupsModel" (122 : Nat) ({ cls := "SpilledGroupsModel", name := "writes", desc := "(II)V" } : Jvm.MethodName)) ∈ TB := tb_of (i := 738) (by decide +kernel) rfl
theorem q_740 : (Jvm.Cond.instanceMethod ({ cls := "SpilledGroupsModel", name := "writes", desc := "(II)V" } : Jvm.MethodName)) ∈ TB := tb_of (i := 740) (by decide +kernel) rfl
theorem q_741 : (Jvm.Cond.code ({ cls := "SpilledGroupsModel", name := "writes", desc := "(II)V" } : Jvm.MethodName) prog_9_method_22_code (3 : Nat) (Option.none : Option Jvm.ClassFile.FieldType)) ∈ TB := tb_of (i := 741) (by decide +kernel) rfl
theorem q_742 : (Jvm.Cond.methodLink "SpilledGroupsModel" (131 : Nat) ({ cls := "SpilledGroupsModel", name := "inMemory", desc := "(I)I" } : Jvm.MethodName)) ∈ TB := tb_of (i := 742) (by decide +kernel) rfl
theorem q_744 : (Jvm.Cond.instanceMethod ({ cls := "SpilledGroupsModel", name := "inMemory", desc := "(I)I" } : Jvm.MethodName)) ∈ TB := tb_of (i := 744) (by decide +kernel) rfl
theorem q_745 : (Jvm.Cond.code ({ cls := "SpilledGroupsModel", name := "inMemory", desc := "(I)I" } : Jvm.MethodName) prog_9_method_16_code (3 : Nat) (Option.some Jvm.ClassFile.FieldType.int)) ∈ TB := tb_of (i := 745) (by decide +kernel) rfl
theorem q_746 : (Jvm.Cond.methodLink "SpilledGroupsModel" (134 : Nat) ({ cls := "SpilledGroupsModel", name := "addsTo", desc := "(II)V" } : Jvm.MethodName)) ∈ TB := tb_of (i := 746) (by decide +kernel) rfl
theorem q_748 : (Jvm.Cond.instanceMethod ({ cls := "SpilledGroupsModel", name := "addsTo", desc := "(II)V" } : Jvm.MethodName)) ∈ TB := tb_of (i := 748) (by decide +kernel) rfl
theorem q_749 : (Jvm.Cond.code ({ cls := "SpilledGroupsModel", name := "addsTo", desc := "(II)V" } : Jvm.MethodName) prog_9_method_17_code (3 : Nat) (Option.none : Option Jvm.ClassFile.FieldType)) ∈ TB := tb_of (i := 749) (by decide +kernel) rfl
theorem q_750 : (Jvm.Cond.methodLink "SpilledGroupsModel" (140 : Nat) ({ cls := "SpilledGroupsModel", name := "spillsOne", desc := "()V" } : Jvm.MethodName)) ∈ TB := tb_of (i := 750) (by decide +kernel) rfl
theorem q_752 : (Jvm.Cond.instanceMethod ({ cls := "SpilledGroupsModel", name := "spillsOne", desc := "()V" } : Jvm.MethodName)) ∈ TB := tb_of (i := 752) (by decide +kernel) rfl
theorem q_753 : (Jvm.Cond.code ({ cls := "SpilledGroupsModel", name := "spillsOne", desc := "()V" } : Jvm.MethodName) prog_9_method_24_code (4 : Nat) (Option.none : Option Jvm.ClassFile.FieldType)) ∈ TB := tb_of (i := 753) (by decide +kernel) rfl
theorem q_754 : (Jvm.Cond.methodLink "SpilledGroupsModel" (115 : Nat) ({ cls := "SpilledGroupsModel", name := "manyOf", desc := "(I)I" } : Jvm.MethodName)) ∈ TB := tb_of (i := 754) (by decide +kernel) rfl
theorem q_756 : (Jvm.Cond.instanceMethod ({ cls := "SpilledGroupsModel", name := "manyOf", desc := "(I)I" } : Jvm.MethodName)) ∈ TB := tb_of (i := 756) (by decide +kernel) rfl
theorem q_757 : (Jvm.Cond.code ({ cls := "SpilledGroupsModel", name := "manyOf", desc := "(I)I" } : Jvm.MethodName) prog_9_method_23_code (4 : Nat) (Option.some Jvm.ClassFile.FieldType.int)) ∈ TB := tb_of (i := 757) (by decide +kernel) rfl
theorem q_758 : (Jvm.Cond.methodLink "SpilledGroupsModel" (125 : Nat) ({ cls := "SpilledGroupsModel", name := "takesOut", desc := "(I)V" } : Jvm.MethodName)) ∈ TB := tb_of (i := 758) (by decide +kernel) rfl
theorem q_760 : (Jvm.Cond.instanceMethod ({ cls := "SpilledGroupsModel", name := "takesOut", desc := "(I)V" } : Jvm.MethodName)) ∈ TB := tb_of (i := 760) (by decide +kernel) rfl
theorem q_761 : (Jvm.Cond.code ({ cls := "SpilledGroupsModel", name := "takesOut", desc := "(I)V" } : Jvm.MethodName) prog_9_method_19_code (3 : Nat) (Option.none : Option Jvm.ClassFile.FieldType)) ∈ TB := tb_of (i := 761) (by decide +kernel) rfl
theorem q_762 : (Jvm.Cond.methodLink "SpilledGroupsModel" (146 : Nat) ({ cls := "SpilledGroupsModel", name := "laysGroup", desc := "(I)V" } : Jvm.MethodName)) ∈ TB := tb_of (i := 762) (by decide +kernel) rfl
theorem q_764 : (Jvm.Cond.instanceMethod ({ cls := "SpilledGroupsModel", name := "laysGroup", desc := "(I)V" } : Jvm.MethodName)) ∈ TB := tb_of (i := 764) (by decide +kernel) rfl
theorem q_765 : (Jvm.Cond.code ({ cls := "SpilledGroupsModel", name := "laysGroup", desc := "(I)V" } : Jvm.MethodName) prog_9_method_18_code (4 : Nat) (Option.none : Option Jvm.ClassFile.FieldType)) ∈ TB := tb_of (i := 765) (by decide +kernel) rfl
theorem q_766 : (Jvm.Cond.methodLink "SpilledGroupsModel" (159 : Nat) ({ cls := "SpilledGroupsModel", name := "finishes", desc := "()V" } : Jvm.MethodName)) ∈ TB := tb_of (i := 766) (by decide +kernel) rfl
theorem q_768 : (Jvm.Cond.instanceMethod ({ cls := "SpilledGroupsModel", name := "finishes", desc := "()V" } : Jvm.MethodName)) ∈ TB := tb_of (i := 768) (by decide +kernel) rfl
theorem q_769 : (Jvm.Cond.code ({ cls := "SpilledGroupsModel", name := "finishes", desc := "()V" } : Jvm.MethodName) prog_9_method_26_code (3 : Nat) (Option.none : Option Jvm.ClassFile.FieldType)) ∈ TB := tb_of (i := 769) (by decide +kernel) rfl
theorem q_770 : (Jvm.Cond.methodLink "SpilledGroupsModel" (162 : Nat) ({ cls := "SpilledGroupsModel", name := "leavesFiles", desc := "(I)V" } : Jvm.MethodName)) ∈ TB := tb_of (i := 770) (by decide +kernel) rfl
theorem q_772 : (Jvm.Cond.instanceMethod ({ cls := "SpilledGroupsModel", name := "leavesFiles", desc := "(I)V" } : Jvm.MethodName)) ∈ TB := tb_of (i := 772) (by decide +kernel) rfl
theorem q_773 : (Jvm.Cond.code ({ cls := "SpilledGroupsModel", name := "leavesFiles", desc := "(I)V" } : Jvm.MethodName) prog_9_method_27_code (3 : Nat) (Option.none : Option Jvm.ClassFile.FieldType)) ∈ TB := tb_of (i := 773) (by decide +kernel) rfl
theorem q_774 : (Jvm.Cond.methodLink "SpilledGroupsLaw" (43 : Nat) ({ cls := "SpilledGroupsModel", name := "finished", desc := "(I)I" } : Jvm.MethodName)) ∈ TB := tb_of (i := 774) (by decide +kernel) rfl
theorem q_775 : (Jvm.Cond.instanceMethod ({ cls := "SpilledGroupsModel", name := "finished", desc := "(I)I" } : Jvm.MethodName)) ∈ TB := tb_of (i := 775) (by decide +kernel) rfl
theorem q_776 : (Jvm.Cond.selects "SpilledGroupsModel" ({ cls := "SpilledGroupsModel", name := "finished", desc := "(I)I" } : Jvm.MethodName) ({ cls := "SpilledGroupsModel", name := "finished", desc := "(I)I" } : Jvm.MethodName)) ∈ TB := tb_of (i := 776) (by decide +kernel) rfl
theorem q_777 : (Jvm.Cond.code ({ cls := "SpilledGroupsModel", name := "finished", desc := "(I)I" } : Jvm.MethodName) prog_9_method_32_code (2 : Nat) (Option.some Jvm.ClassFile.FieldType.int)) ∈ TB := tb_of (i := 777) (by decide +kernel) rfl
theorem q_778 : (Jvm.Cond.methodLink "SpilledGroupsLaw" (48 : Nat) ({ cls := "SpilledGroupsModel", name := "passOf", desc := "(III)I" } : Jvm.MethodName)) ∈ TB := tb_of (i := 778) (by decide +kernel) rfl
theorem q_779 : (Jvm.Cond.instanceMethod ({ cls := "SpilledGroupsModel", name := "passOf", desc := "(III)I" } : Jvm.MethodName)) ∈ TB := tb_of (i := 779) (by decide +kernel) rfl
theorem q_780 : (Jvm.Cond.selects "SpilledGroupsModel" ({ cls := "SpilledGroupsModel", name := "passOf", desc := "(III)I" } : Jvm.MethodName) ({ cls := "SpilledGroupsModel", name := "passOf", desc := "(III)I" } : Jvm.MethodName)) ∈ TB := tb_of (i := 780) (by decide +kernel) rfl
theorem q_781 : (Jvm.Cond.code ({ cls := "SpilledGroupsModel", name := "passOf", desc := "(III)I" } : Jvm.MethodName) prog_9_method_33_code (5 : Nat) (Option.some Jvm.ClassFile.FieldType.int)) ∈ TB := tb_of (i := 781) (by decide +kernel) rfl
theorem q_782 : (Jvm.Cond.constantLong "SpilledGroupsModel" (177 : Nat) (15 : Int64)) ∈ TB := tb_of (i := 782) (by decide +kernel) rfl
theorem q_783 : (Jvm.Cond.constantLong "SpilledGroupsModel" (179 : Nat) (5 : Int64)) ∈ TB := tb_of (i := 783) (by decide +kernel) rfl
theorem q_784 : (Jvm.Cond.methodLink "SpilledGroupsLaw" (52 : Nat) ({ cls := "SpilledGroupsModel", name := "spillOf", desc := "(II)I" } : Jvm.MethodName)) ∈ TB := tb_of (i := 784) (by decide +kernel) rfl
theorem q_785 : (Jvm.Cond.instanceMethod ({ cls := "SpilledGroupsModel", name := "spillOf", desc := "(II)I" } : Jvm.MethodName)) ∈ TB := tb_of (i := 785) (by decide +kernel) rfl
theorem q_786 : (Jvm.Cond.selects "SpilledGroupsModel" ({ cls := "SpilledGroupsModel", name := "spillOf", desc := "(II)I" } : Jvm.MethodName) ({ cls := "SpilledGroupsModel", name := "spillOf", desc := "(II)I" } : Jvm.MethodName)) ∈ TB := tb_of (i := 786) (by decide +kernel) rfl
theorem q_787 : (Jvm.Cond.code ({ cls := "SpilledGroupsModel", name := "spillOf", desc := "(II)I" } : Jvm.MethodName) prog_9_method_34_code (3 : Nat) (Option.some Jvm.ClassFile.FieldType.int)) ∈ TB := tb_of (i := 787) (by decide +kernel) rfl
theorem q_788 : (Jvm.Cond.methodLink "SpilledGroupsLaw" (56 : Nat) ({ cls := "SpilledGroupsModel", name := "total", desc := "(I)I" } : Jvm.MethodName)) ∈ TB := tb_of (i := 788) (by decide +kernel) rfl
theorem q_789 : (Jvm.Cond.instanceMethod ({ cls := "SpilledGroupsModel", name := "total", desc := "(I)I" } : Jvm.MethodName)) ∈ TB := tb_of (i := 789) (by decide +kernel) rfl
theorem q_790 : (Jvm.Cond.selects "SpilledGroupsModel" ({ cls := "SpilledGroupsModel", name := "total", desc := "(I)I" } : Jvm.MethodName) ({ cls := "SpilledGroupsModel", name := "total", desc := "(I)I" } : Jvm.MethodName)) ∈ TB := tb_of (i := 790) (by decide +kernel) rfl
theorem q_791 : (Jvm.Cond.code ({ cls := "SpilledGroupsModel", name := "total", desc := "(I)I" } : Jvm.MethodName) prog_9_method_38_code (2 : Nat) (Option.some Jvm.ClassFile.FieldType.int)) ∈ TB := tb_of (i := 791) (by decide +kernel) rfl
theorem q_792 : (Jvm.Cond.methodLink "SpilledGroupsModel" (181 : Nat) ({ cls := "SpilledGroupsModel", name := "writtenInAll", desc := "()I" } : Jvm.MethodName)) ∈ TB := tb_of (i := 792) (by decide +kernel) rfl
theorem q_794 : (Jvm.Cond.instanceMethod ({ cls := "SpilledGroupsModel", name := "writtenInAll", desc := "()I" } : Jvm.MethodName)) ∈ TB := tb_of (i := 794) (by decide +kernel) rfl
theorem q_795 : (Jvm.Cond.code ({ cls := "SpilledGroupsModel", name := "writtenInAll", desc := "()I" } : Jvm.MethodName) prog_9_method_35_code (3 : Nat) (Option.some Jvm.ClassFile.FieldType.int)) ∈ TB := tb_of (i := 795) (by decide +kernel) rfl
theorem q_796 : (Jvm.Cond.methodLink "SpilledGroupsModel" (185 : Nat) ({ cls := "SpilledGroupsModel", name := "readAgain", desc := "()I" } : Jvm.MethodName)) ∈ TB := tb_of (i := 796) (by decide +kernel) rfl
theorem q_798 : (Jvm.Cond.instanceMethod ({ cls := "SpilledGroupsModel", name := "readAgain", desc := "()I" } : Jvm.MethodName)) ∈ TB := tb_of (i := 798) (by decide +kernel) rfl
theorem q_799 : (Jvm.Cond.code ({ cls := "SpilledGroupsModel", name := "readAgain", desc := "()I" } : Jvm.MethodName) prog_9_method_36_code (3 : Nat) (Option.some Jvm.ClassFile.FieldType.int)) ∈ TB := tb_of (i := 799) (by decide +kernel) rfl
theorem q_800 : (Jvm.Cond.methodLink "SpilledGroupsModel" (188 : Nat) ({ cls := "SpilledGroupsModel", name := "greatest", desc := "(I)I" } : Jvm.MethodName)) ∈ TB := tb_of (i := 800) (by decide +kernel) rfl
theorem q_802 : (Jvm.Cond.instanceMethod ({ cls := "SpilledGroupsModel", name := "greatest", desc := "(I)I" } : Jvm.MethodName)) ∈ TB := tb_of (i := 802) (by decide +kernel) rfl
theorem q_803 : (Jvm.Cond.code ({ cls := "SpilledGroupsModel", name := "greatest", desc := "(I)I" } : Jvm.MethodName) prog_9_method_37_code (4 : Nat) (Option.some Jvm.ClassFile.FieldType.int)) ∈ TB := tb_of (i := 803) (by decide +kernel) rfl
theorem q_804 : (Jvm.Cond.methodLink "SpilledGroupsLaw" (60 : Nat) ({ cls := "SpilledGroupsModel", name := "written", desc := "(II)I" } : Jvm.MethodName)) ∈ TB := tb_of (i := 804) (by decide +kernel) rfl
theorem q_805 : (Jvm.Cond.instanceMethod ({ cls := "SpilledGroupsModel", name := "written", desc := "(II)I" } : Jvm.MethodName)) ∈ TB := tb_of (i := 805) (by decide +kernel) rfl
theorem q_806 : (Jvm.Cond.selects "SpilledGroupsModel" ({ cls := "SpilledGroupsModel", name := "written", desc := "(II)I" } : Jvm.MethodName) ({ cls := "SpilledGroupsModel", name := "written", desc := "(II)I" } : Jvm.MethodName)) ∈ TB := tb_of (i := 806) (by decide +kernel) rfl
theorem q_807 : (Jvm.Cond.code ({ cls := "SpilledGroupsModel", name := "written", desc := "(II)I" } : Jvm.MethodName) prog_9_method_40_code (3 : Nat) (Option.some Jvm.ClassFile.FieldType.int)) ∈ TB := tb_of (i := 807) (by decide +kernel) rfl
theorem q_808 : (Jvm.Cond.methodLink "SpilledGroupsModel" (191 : Nat) ({ cls := "SpilledGroupsModel", name := "writtenBy", desc := "(II)I" } : Jvm.MethodName)) ∈ TB := tb_of (i := 808) (by decide +kernel) rfl
theorem q_810 : (Jvm.Cond.instanceMethod ({ cls := "SpilledGroupsModel", name := "writtenBy", desc := "(II)I" } : Jvm.MethodName)) ∈ TB := tb_of (i := 810) (by decide +kernel) rfl
theorem q_811 : (Jvm.Cond.code ({ cls := "SpilledGroupsModel", name := "writtenBy", desc := "(II)I" } : Jvm.MethodName) prog_9_method_39_code (3 : Nat) (Option.some Jvm.ClassFile.FieldType.int)) ∈ TB := tb_of (i := 811) (by decide +kernel) rfl
theorem q_812 : (Jvm.Cond.methodLink "SpilledGroupsLaw" (64 : Nat) ({ cls := "SpilledGroupsModel", name := "bestBits", desc := "(II)I" } : Jvm.MethodName)) ∈ TB := tb_of (i := 812) (by decide +kernel) rfl
theorem q_813 : (Jvm.Cond.instanceMethod ({ cls := "SpilledGroupsModel", name := "bestBits", desc := "(II)I" } : Jvm.MethodName)) ∈ TB := tb_of (i := 813) (by decide +kernel) rfl
theorem q_814 : (Jvm.Cond.selects "SpilledGroupsModel" ({ cls := "SpilledGroupsModel", name := "bestBits", desc := "(II)I" } : Jvm.MethodName) ({ cls := "SpilledGroupsModel", name := "bestBits", desc := "(II)I" } : Jvm.MethodName)) ∈ TB := tb_of (i := 814) (by decide +kernel) rfl
theorem q_815 : (Jvm.Cond.code ({ cls := "SpilledGroupsModel", name := "bestBits", desc := "(II)I" } : Jvm.MethodName) prog_9_method_41_code (7 : Nat) (Option.some Jvm.ClassFile.FieldType.int)) ∈ TB := tb_of (i := 815) (by decide +kernel) rfl
theorem q_816 : (Jvm.Cond.methodLink "SpilledGroupsLaw" (68 : Nat) ({ cls := "SpilledGroupsModel", name := "enough", desc := "()I" } : Jvm.MethodName)) ∈ TB := tb_of (i := 816) (by decide +kernel) rfl
theorem q_817 : (Jvm.Cond.instanceMethod ({ cls := "SpilledGroupsModel", name := "enough", desc := "()I" } : Jvm.MethodName)) ∈ TB := tb_of (i := 817) (by decide +kernel) rfl
theorem q_818 : (Jvm.Cond.selects "SpilledGroupsModel" ({ cls := "SpilledGroupsModel", name := "enough", desc := "()I" } : Jvm.MethodName) ({ cls := "SpilledGroupsModel", name := "enough", desc := "()I" } : Jvm.MethodName)) ∈ TB := tb_of (i := 818) (by decide +kernel) rfl
theorem q_819 : (Jvm.Cond.code ({ cls := "SpilledGroupsModel", name := "enough", desc := "()I" } : Jvm.MethodName) prog_9_method_42_code (2 : Nat) (Option.some Jvm.ClassFile.FieldType.int)) ∈ TB := tb_of (i := 819) (by decide +kernel) rfl
theorem q_820 : (Jvm.Cond.methodLink "SpilledGroupsLaw" (72 : Nat) ({ cls := "SpilledGroupsModel", name := "skewed", desc := "(I)I" } : Jvm.MethodName)) ∈ TB := tb_of (i := 820) (by decide +kernel) rfl
theorem q_821 : (Jvm.Cond.instanceMethod ({ cls := "SpilledGroupsModel", name := "skewed", desc := "(I)I" } : Jvm.MethodName)) ∈ TB := tb_of (i := 821) (by decide +kernel) rfl
theorem q_822 : (Jvm.Cond.selects "SpilledGroupsModel" ({ cls := "SpilledGroupsModel", name := "skewed", desc := "(I)I" } : Jvm.MethodName) ({ cls := "SpilledGroupsModel", name := "skewed", desc := "(I)I" } : Jvm.MethodName)) ∈ TB := tb_of (i := 822) (by decide +kernel) rfl
theorem q_823 : (Jvm.Cond.code ({ cls := "SpilledGroupsModel", name := "skewed", desc := "(I)I" } : Jvm.MethodName) prog_9_method_46_code (4 : Nat) (Option.some Jvm.ClassFile.FieldType.int)) ∈ TB := tb_of (i := 823) (by decide +kernel) rfl
theorem q_824 : (Jvm.Cond.constantLong "SpilledGroupsModel" (197 : Nat) (2 : Int64)) ∈ TB := tb_of (i := 824) (by decide +kernel) rfl
theorem q_825 : (Jvm.Cond.methodLink "SpilledGroupsModel" (199 : Nat) ({ cls := "SpilledGroupsModel", name := "rowsIn", desc := "(I)I" } : Jvm.MethodName)) ∈ TB := tb_of (i := 825) (by decide +kernel) rfl
theorem q_827 : (Jvm.Cond.instanceMethod ({ cls := "SpilledGroupsModel", name := "rowsIn", desc := "(I)I" } : Jvm.MethodName)) ∈ TB := tb_of (i := 827) (by decide +kernel) rfl
theorem q_828 : (Jvm.Cond.code ({ cls := "SpilledGroupsModel", name := "rowsIn", desc := "(I)I" } : Jvm.MethodName) prog_9_method_43_code (4 : Nat) (Option.some Jvm.ClassFile.FieldType.int)) ∈ TB := tb_of (i := 828) (by decide +kernel) rfl
theorem q_829 : (Jvm.Cond.methodLink "SpilledGroupsModel" (202 : Nat) ({ cls := "SpilledGroupsModel", name := "groupsIn", desc := "(I)I" } : Jvm.MethodName)) ∈ TB := tb_of (i := 829) (by decide +kernel) rfl
theorem q_831 : (Jvm.Cond.instanceMethod ({ cls := "SpilledGroupsModel", name := "groupsIn", desc := "(I)I" } : Jvm.MethodName)) ∈ TB := tb_of (i := 831) (by decide +kernel) rfl
theorem q_832 : (Jvm.Cond.code ({ cls := "SpilledGroupsModel", name := "groupsIn", desc := "(I)I" } : Jvm.MethodName) prog_9_method_45_code (4 : Nat) (Option.some Jvm.ClassFile.FieldType.int)) ∈ TB := tb_of (i := 832) (by decide +kernel) rfl
theorem q_833 : (Jvm.Cond.methodLink "SpilledGroupsModel" (194 : Nat) ({ cls := "SpilledGroupsModel", name := "isFirst", desc := "(I)Z" } : Jvm.MethodName)) ∈ TB := tb_of (i := 833) (by decide +kernel) rfl
theorem q_835 : (Jvm.Cond.instanceMethod ({ cls := "SpilledGroupsModel", name := "isFirst", desc := "(I)Z" } : Jvm.MethodName)) ∈ TB := tb_of (i := 835) (by decide +kernel) rfl
theorem q_836 : (Jvm.Cond.code ({ cls := "SpilledGroupsModel", name := "isFirst", desc := "(I)Z" } : Jvm.MethodName) prog_9_method_44_code (4 : Nat) (Option.some Jvm.ClassFile.FieldType.boolean)) ∈ TB := tb_of (i := 836) (by decide +kernel) rfl
theorem q_837 : (Jvm.Cond.methodLink "SpilledGroupsLaw" (76 : Nat) ({ cls := "SpilledGroupsModel", name := "count", desc := "(I)I" } : Jvm.MethodName)) ∈ TB := tb_of (i := 837) (by decide +kernel) rfl
theorem q_838 : (Jvm.Cond.instanceMethod ({ cls := "SpilledGroupsModel", name := "count", desc := "(I)I" } : Jvm.MethodName)) ∈ TB := tb_of (i := 838) (by decide +kernel) rfl
theorem q_839 : (Jvm.Cond.selects "SpilledGroupsModel" ({ cls := "SpilledGroupsModel", name := "count", desc := "(I)I" } : Jvm.MethodName) ({ cls := "SpilledGroupsModel", name := "count", desc := "(I)I" } : Jvm.MethodName)) ∈ TB := tb_of (i := 839) (by decide +kernel) rfl
theorem q_840 : (Jvm.Cond.code ({ cls := "SpilledGroupsModel", name := "count", desc := "(I)I" } : Jvm.MethodName) prog_9_method_47_code (5 : Nat) (Option.some Jvm.ClassFile.FieldType.int)) ∈ TB := tb_of (i := 840) (by decide +kernel) rfl
theorem q_841 : (Jvm.Cond.constantLong "SpilledGroupsModel" (208 : Nat) (20 : Int64)) ∈ TB := tb_of (i := 841) (by decide +kernel) rfl
theorem q_842 : (Jvm.Cond.constantLong "SpilledGroupsModel" (210 : Nat) (22 : Int64)) ∈ TB := tb_of (i := 842) (by decide +kernel) rfl
theorem q_843 : (Jvm.Cond.methodLink "SpilledGroupsLaw" (80 : Nat) ({ cls := "SpilledGroupsModel", name := "undo", desc := "()I" } : Jvm.MethodName)) ∈ TB := tb_of (i := 843) (by decide +kernel) rfl
theorem q_844 : (Jvm.Cond.instanceMethod ({ cls := "SpilledGroupsModel", name := "undo", desc := "()I" } : Jvm.MethodName)) ∈ TB := tb_of (i := 844) (by decide +kernel) rfl
theorem q_845 : (Jvm.Cond.selects "SpilledGroupsModel" ({ cls := "SpilledGroupsModel", name := "undo", desc := "()I" } : Jvm.MethodName) ({ cls := "SpilledGroupsModel", name := "undo", desc := "()I" } : Jvm.MethodName)) ∈ TB := tb_of (i := 845) (by decide +kernel) rfl
theorem q_846 : (Jvm.Cond.code ({ cls := "SpilledGroupsModel", name := "undo", desc := "()I" } : Jvm.MethodName) prog_9_method_48_code (2 : Nat) (Option.some Jvm.ClassFile.FieldType.int)) ∈ TB := tb_of (i := 846) (by decide +kernel) rfl
theorem q_847 : (Jvm.Cond.methodLink "SpilledGroupsLaw" (84 : Nat) ({ cls := "SpilledGroupsModel", name := "type", desc := "(I)I" } : Jvm.MethodName)) ∈ TB := tb_of (i := 847) (by decide +kernel) rfl
theorem q_848 : (Jvm.Cond.instanceMethod ({ cls := "SpilledGroupsModel", name := "type", desc := "(I)I" } : Jvm.MethodName)) ∈ TB := tb_of (i := 848) (by decide +kernel) rfl
theorem q_849 : (Jvm.Cond.selects "SpilledGroupsModel" ({ cls := "SpilledGroupsModel", name := "type", desc := "(I)I" } : Jvm.MethodName) ({ cls := "SpilledGroupsModel", name := "type", desc := "(I)I" } : Jvm.MethodName)) ∈ TB := tb_of (i := 849) (by decide +kernel) rfl
theorem q_850 : (Jvm.Cond.code ({ cls := "SpilledGroupsModel", name := "type", desc := "(I)I" } : Jvm.MethodName) prog_9_method_49_code (2 : Nat) (Option.some Jvm.ClassFile.FieldType.int)) ∈ TB := tb_of (i := 850) (by decide +kernel) rfl
theorem q_851 : (Jvm.Cond.constantLong "SpilledGroupsModel" (212 : Nat) (32 : Int64)) ∈ TB := tb_of (i := 851) (by decide +kernel) rfl
theorem q_852 : (Jvm.Cond.constantLong "SpilledGroupsModel" (214 : Nat) (126 : Int64)) ∈ TB := tb_of (i := 852) (by decide +kernel) rfl
theorem q_853 : (Jvm.Cond.methodLink "SpilledGroupsLaw" (88 : Nat) ({ cls := "SpilledGroupsModel", name := "clearText", desc := "()I" } : Jvm.MethodName)) ∈ TB := tb_of (i := 853) (by decide +kernel) rfl
theorem q_854 : (Jvm.Cond.instanceMethod ({ cls := "SpilledGroupsModel", name := "clearText", desc := "()I" } : Jvm.MethodName)) ∈ TB := tb_of (i := 854) (by decide +kernel) rfl
theorem q_855 : (Jvm.Cond.selects "SpilledGroupsModel" ({ cls := "SpilledGroupsModel", name := "clearText", desc := "()I" } : Jvm.MethodName) ({ cls := "SpilledGroupsModel", name := "clearText", desc := "()I" } : Jvm.MethodName)) ∈ TB := tb_of (i := 855) (by decide +kernel) rfl
theorem q_856 : (Jvm.Cond.code ({ cls := "SpilledGroupsModel", name := "clearText", desc := "()I" } : Jvm.MethodName) prog_9_method_50_code (2 : Nat) (Option.some Jvm.ClassFile.FieldType.int)) ∈ TB := tb_of (i := 856) (by decide +kernel) rfl
theorem q_857 : (Jvm.Cond.methodLink "SpilledGroupsLaw" (92 : Nat) ({ cls := "SpilledGroupsModel", name := "fault", desc := "(I)I" } : Jvm.MethodName)) ∈ TB := tb_of (i := 857) (by decide +kernel) rfl
theorem q_858 : (Jvm.Cond.instanceMethod ({ cls := "SpilledGroupsModel", name := "fault", desc := "(I)I" } : Jvm.MethodName)) ∈ TB := tb_of (i := 858) (by decide +kernel) rfl
theorem q_859 : (Jvm.Cond.selects "SpilledGroupsModel" ({ cls := "SpilledGroupsModel", name := "fault", desc := "(I)I" } : Jvm.MethodName) ({ cls := "SpilledGroupsModel", name := "fault", desc := "(I)I" } : Jvm.MethodName)) ∈ TB := tb_of (i := 859) (by decide +kernel) rfl
theorem q_860 : (Jvm.Cond.code ({ cls := "SpilledGroupsModel", name := "fault", desc := "(I)I" } : Jvm.MethodName) prog_9_method_55_code (2 : Nat) (Option.some Jvm.ClassFile.FieldType.int)) ∈ TB := tb_of (i := 860) (by decide +kernel) rfl
theorem q_861 : (Jvm.Cond.methodLink "SpilledGroupsModel" (251 : Nat) ({ cls := "SpilledGroupsModel", name := "hasFault", desc := "()Z" } : Jvm.MethodName)) ∈ TB := tb_of (i := 861) (by decide +kernel) rfl
theorem q_863 : (Jvm.Cond.instanceMethod ({ cls := "SpilledGroupsModel", name := "hasFault", desc := "()Z" } : Jvm.MethodName)) ∈ TB := tb_of (i := 863) (by decide +kernel) rfl
theorem q_864 : (Jvm.Cond.code ({ cls := "SpilledGroupsModel", name := "hasFault", desc := "()Z" } : Jvm.MethodName) prog_9_method_54_code (2 : Nat) (Option.some Jvm.ClassFile.FieldType.boolean)) ∈ TB := tb_of (i := 864) (by decide +kernel) rfl
theorem q_865 : (Jvm.Cond.methodLink "SpilledGroupsModel" (241 : Nat) ({ cls := "SpilledGroupsModel", name := "readsRow", desc := "()Z" } : Jvm.MethodName)) ∈ TB := tb_of (i := 865) (by decide +kernel) rfl
theorem q_867 : (Jvm.Cond.instanceMethod ({ cls := "SpilledGroupsModel", name := "readsRow", desc := "()Z" } : Jvm.MethodName)) ∈ TB := tb_of (i := 867) (by decide +kernel) rfl
theorem q_868 : (Jvm.Cond.code ({ cls := "SpilledGroupsModel", name := "readsRow", desc := "()Z" } : Jvm.MethodName) prog_9_method_53_code (2 : Nat) (Option.some Jvm.ClassFile.FieldType.boolean)) ∈ TB := tb_of (i := 868) (by decide +kernel) rfl
theorem q_869 : (Jvm.Cond.methodLink "SpilledGroupsModel" (229 : Nat) ({ cls := "SpilledGroupsModel", name := "takesNumber", desc := "(I)Z" } : Jvm.MethodName)) ∈ TB := tb_of (i := 869) (by decide +kernel) rfl
theorem q_871 : (Jvm.Cond.instanceMethod ({ cls := "SpilledGroupsModel", name := "takesNumber", desc := "(I)Z" } : Jvm.MethodName)) ∈ TB := tb_of (i := 871) (by decide +kernel) rfl
theorem q_872 : (Jvm.Cond.code ({ cls := "SpilledGroupsModel", name := "takesNumber", desc := "(I)Z" } : Jvm.MethodName) prog_9_method_52_code (3 : Nat) (Option.some Jvm.ClassFile.FieldType.boolean)) ∈ TB := tb_of (i := 872) (by decide +kernel) rfl
theorem q_873 : (Jvm.Cond.constantLong "SpilledGroupsModel" (222 : Nat) (48 : Int64)) ∈ TB := tb_of (i := 873) (by decide +kernel) rfl
theorem q_874 : (Jvm.Cond.constantLong "SpilledGroupsModel" (224 : Nat) (57 : Int64)) ∈ TB := tb_of (i := 874) (by decide +kernel) rfl
theorem q_875 : (Jvm.Cond.methodLink "SpilledGroupsModel" (235 : Nat) ({ cls := "SpilledGroupsModel", name := "takesOne", desc := "(I)Z" } : Jvm.MethodName)) ∈ TB := tb_of (i := 875) (by decide +kernel) rfl
theorem q_877 : (Jvm.Cond.instanceMethod ({ cls := "SpilledGroupsModel", name := "takesOne", desc := "(I)Z" } : Jvm.MethodName)) ∈ TB := tb_of (i := 877) (by decide +kernel) rfl
theorem q_878 : (Jvm.Cond.code ({ cls := "SpilledGroupsModel", name := "takesOne", desc := "(I)Z" } : Jvm.MethodName) prog_9_method_51_code (3 : Nat) (Option.some Jvm.ClassFile.FieldType.boolean)) ∈ TB := tb_of (i := 878) (by decide +kernel) rfl
theorem q_879 : (Jvm.Cond.methodLink "SpilledGroupsLaw" (96 : Nat) ({ cls := "SpilledGroupsModel", name := "play", desc := "()I" } : Jvm.MethodName)) ∈ TB := tb_of (i := 879) (by decide +kernel) rfl
theorem q_880 : (Jvm.Cond.instanceMethod ({ cls := "SpilledGroupsModel", name := "play", desc := "()I" } : Jvm.MethodName)) ∈ TB := tb_of (i := 880) (by decide +kernel) rfl
theorem q_881 : (Jvm.Cond.selects "SpilledGroupsModel" ({ cls := "SpilledGroupsModel", name := "play", desc := "()I" } : Jvm.MethodName) ({ cls := "SpilledGroupsModel", name := "play", desc := "()I" } : Jvm.MethodName)) ∈ TB := tb_of (i := 881) (by decide +kernel) rfl
theorem q_882 : (Jvm.Cond.code ({ cls := "SpilledGroupsModel", name := "play", desc := "()I" } : Jvm.MethodName) prog_9_method_56_code (1 : Nat) (Option.some Jvm.ClassFile.FieldType.int)) ∈ TB := tb_of (i := 882) (by decide +kernel) rfl
end
section
theorem dX0_init_0 : decode cX0_init 0 = .ok (.aload_n 0, 1) := by decide +kernel
theorem dX0_init_1 : decode cX0_init 1 = .ok (.invokespecial 3, 3) := by decide +kernel
theorem dX0_init_4 : decode cX0_init 4 = .ok (.aload_n 0, 1) := by decide +kernel
theorem dX0_init_5 : decode cX0_init 5 = .ok (.new 9, 3) := by decide +kernel
theorem dX0_init_8 : decode cX0_init 8 = .ok (.dup, 1) := by decide +kernel
theorem dX0_init_9 : decode cX0_init 9 = .ok (.bipush 100, 2) := by decide +kernel
theorem dX0_init_11 : decode cX0_init 11 = .ok (.bipush 6, 2) := by decide +kernel
theorem dX0_init_13 : decode cX0_init 13 = .ok (.invokespecial 13, 3) := by decide +kernel
theorem dX0_init_16 : decode cX0_init 16 = .ok (.putfield 16, 3) := by decide +kernel
theorem dX0_init_19 : decode cX0_init 19 = .ok (.aload_n 0, 1) := by decide +kernel
theorem dX0_init_20 : decode cX0_init 20 = .ok (.new 9, 3) := by decide +kernel
theorem dX0_init_23 : decode cX0_init 23 = .ok (.dup, 1) := by decide +kernel
theorem dX0_init_24 : decode cX0_init 24 = .ok (.bipush 100, 2) := by decide +kernel
theorem dX0_init_26 : decode cX0_init 26 = .ok (.iconst 1, 1) := by decide +kernel
theorem dX0_init_27 : decode cX0_init 27 = .ok (.invokespecial 13, 3) := by decide +kernel
theorem dX0_init_30 : decode cX0_init 30 = .ok (.putfield 20, 3) := by decide +kernel
theorem dX0_init_33 : decode cX0_init 33 = .ok (.return_, 1) := by decide +kernel
theorem dX0_gather_0 : decode cX0_gather 0 = .ok (.aload_n 0, 1) := by decide +kernel
theorem dX0_gather_1 : decode cX0_gather 1 = .ok (.getfield 16, 3) := by decide +kernel
theorem dX0_gather_4 : decode cX0_gather 4 = .ok (.iconst 0, 1) := by decide +kernel
theorem dX0_gather_5 : decode cX0_gather 5 = .ok (.invokevirtual 23, 3) := by decide +kernel
theorem dX0_gather_8 : decode cX0_gather 8 = .ok (.iconst 0, 1) := by decide +kernel
theorem dX0_gather_9 : decode cX0_gather 9 = .ok (.istore_n 2, 1) := by decide +kernel
theorem dX0_gather_10 : decode cX0_gather 10 = .ok (.iload_n 2, 1) := by decide +kernel
theorem dX0_gather_11 : decode cX0_gather 11 = .ok (.aload_n 1, 1) := by decide +kernel
theorem dX0_gather_12 : decode cX0_gather 12 = .ok (.getfield 27, 3) := by decide +kernel
theorem dX0_gather_15 : decode cX0_gather 15 = .ok (.invokevirtual 32, 3) := by decide +kernel
theorem dX0_gather_18 : decode cX0_gather 18 = .ok (.if_icmp .ge 28, 3) := by decide +kernel
theorem dX0_gather_21 : decode cX0_gather 21 = .ok (.aload_n 0, 1) := by decide +kernel
theorem dX0_gather_22 : decode cX0_gather 22 = .ok (.aload_n 1, 1) := by decide +kernel
theorem dX0_gather_23 : decode cX0_gather 23 = .ok (.iload_n 2, 1) := by decide +kernel
theorem dX0_gather_24 : decode cX0_gather 24 = .ok (.invokevirtual 36, 3) := by decide +kernel
theorem dX0_gather_27 : decode cX0_gather 27 = .ok (.aload_n 1, 1) := by decide +kernel
theorem dX0_gather_28 : decode cX0_gather 28 = .ok (.iload_n 2, 1) := by decide +kernel
theorem dX0_gather_29 : decode cX0_gather 29 = .ok (.invokevirtual 40, 3) := by decide +kernel
theorem dX0_gather_32 : decode cX0_gather 32 = .ok (.aload_n 1, 1) := by decide +kernel
theorem dX0_gather_33 : decode cX0_gather 33 = .ok (.iload_n 2, 1) := by decide +kernel
theorem dX0_gather_34 : decode cX0_gather 34 = .ok (.invokevirtual 43, 3) := by decide +kernel
theorem dX0_gather_37 : decode cX0_gather 37 = .ok (.invokevirtual 46, 3) := by decide +kernel
theorem dX0_gather_40 : decode cX0_gather 40 = .ok (.iinc 2 1, 3) := by decide +kernel
theorem dX0_gather_43 : decode cX0_gather 43 = .ok (.goto (-33), 3) := by decide +kernel
theorem dX0_gather_46 : decode cX0_gather 46 = .ok (.aload_n 0, 1) := by decide +kernel
theorem dX0_gather_47 : decode cX0_gather 47 = .ok (.getfield 20, 3) := by decide +kernel
theorem dX0_gather_50 : decode cX0_gather 50 = .ok (.iconst 0, 1) := by decide +kernel
theorem dX0_gather_51 : decode cX0_gather 51 = .ok (.invokevirtual 23, 3) := by decide +kernel
theorem dX0_gather_54 : decode cX0_gather 54 = .ok (.iconst 0, 1) := by decide +kernel
theorem dX0_gather_55 : decode cX0_gather 55 = .ok (.istore_n 2, 1) := by decide +kernel
theorem dX0_gather_56 : decode cX0_gather 56 = .ok (.iload_n 2, 1) := by decide +kernel
theorem dX0_gather_57 : decode cX0_gather 57 = .ok (.aload_n 1, 1) := by decide +kernel
theorem dX0_gather_58 : decode cX0_gather 58 = .ok (.getfield 27, 3) := by decide +kernel
theorem dX0_gather_61 : decode cX0_gather 61 = .ok (.invokevirtual 32, 3) := by decide +kernel
theorem dX0_gather_64 : decode cX0_gather 64 = .ok (.if_icmp .ge 29, 3) := by decide +kernel
theorem dX0_gather_67 : decode cX0_gather 67 = .ok (.aload_n 0, 1) := by decide +kernel
theorem dX0_gather_68 : decode cX0_gather 68 = .ok (.getfield 20, 3) := by decide +kernel
theorem dX0_gather_71 : decode cX0_gather 71 = .ok (.aload_n 0, 1) := by decide +kernel
theorem dX0_gather_72 : decode cX0_gather 72 = .ok (.getfield 16, 3) := by decide +kernel
theorem dX0_gather_75 : decode cX0_gather 75 = .ok (.aload_n 1, 1) := by decide +kernel
theorem dX0_gather_76 : decode cX0_gather 76 = .ok (.iload_n 2, 1) := by decide +kernel
theorem dX0_gather_77 : decode cX0_gather 77 = .ok (.invokevirtual 36, 3) := by decide +kernel
theorem dX0_gather_80 : decode cX0_gather 80 = .ok (.invokevirtual 50, 3) := by decide +kernel
theorem dX0_gather_83 : decode cX0_gather 83 = .ok (.invokevirtual 53, 3) := by decide +kernel
theorem dX0_gather_86 : decode cX0_gather 86 = .ok (.pop, 1) := by decide +kernel
theorem dX0_gather_87 : decode cX0_gather 87 = .ok (.iinc 2 1, 3) := by decide +kernel
theorem dX0_gather_90 : decode cX0_gather 90 = .ok (.goto (-34), 3) := by decide +kernel
theorem dX0_gather_93 : decode cX0_gather 93 = .ok (.return_, 1) := by decide +kernel
theorem dX0_addRow_0 : decode cX0_addRow 0 = .ok (.aload_n 0, 1) := by decide +kernel
theorem dX0_addRow_1 : decode cX0_addRow 1 = .ok (.getfield 16, 3) := by decide +kernel
theorem dX0_addRow_4 : decode cX0_addRow 4 = .ok (.iload_n 1, 1) := by decide +kernel
theorem dX0_addRow_5 : decode cX0_addRow 5 = .ok (.invokevirtual 50, 3) := by decide +kernel
theorem dX0_addRow_8 : decode cX0_addRow 8 = .ok (.istore 4, 2) := by decide +kernel
theorem dX0_addRow_10 : decode cX0_addRow 10 = .ok (.iload 4, 2) := by decide +kernel
theorem dX0_addRow_12 : decode cX0_addRow 12 = .ok (.aload_n 0, 1) := by decide +kernel
theorem dX0_addRow_13 : decode cX0_addRow 13 = .ok (.getfield 16, 3) := by decide +kernel
theorem dX0_addRow_16 : decode cX0_addRow 16 = .ok (.invokevirtual 32, 3) := by decide +kernel
theorem dX0_addRow_19 : decode cX0_addRow 19 = .ok (.if_icmp .ge 17, 3) := by decide +kernel
theorem dX0_addRow_22 : decode cX0_addRow 22 = .ok (.aload_n 0, 1) := by decide +kernel
theorem dX0_addRow_23 : decode cX0_addRow 23 = .ok (.getfield 16, 3) := by decide +kernel
theorem dX0_addRow_26 : decode cX0_addRow 26 = .ok (.iload 4, 2) := by decide +kernel
theorem dX0_addRow_28 : decode cX0_addRow 28 = .ok (.iconst 0, 1) := by decide +kernel
theorem dX0_addRow_29 : decode cX0_addRow 29 = .ok (.invokevirtual 56, 3) := by decide +kernel
theorem dX0_addRow_32 : decode cX0_addRow 32 = .ok (.iload_n 1, 1) := by decide +kernel
theorem dX0_addRow_33 : decode cX0_addRow 33 = .ok (.if_icmp .eq 46, 3) := by decide +kernel
theorem dX0_addRow_36 : decode cX0_addRow 36 = .ok (.aload_n 0, 1) := by decide +kernel
theorem dX0_addRow_37 : decode cX0_addRow 37 = .ok (.getfield 16, 3) := by decide +kernel
theorem dX0_addRow_40 : decode cX0_addRow 40 = .ok (.iload 4, 2) := by decide +kernel
theorem dX0_addRow_42 : decode cX0_addRow 42 = .ok (.iload_n 1, 1) := by decide +kernel
theorem dX0_addRow_43 : decode cX0_addRow 43 = .ok (.invokevirtual 60, 3) := by decide +kernel
theorem dX0_addRow_46 : decode cX0_addRow 46 = .ok (.aload_n 0, 1) := by decide +kernel
theorem dX0_addRow_47 : decode cX0_addRow 47 = .ok (.getfield 16, 3) := by decide +kernel
theorem dX0_addRow_50 : decode cX0_addRow 50 = .ok (.iload 4, 2) := by decide +kernel
theorem dX0_addRow_52 : decode cX0_addRow 52 = .ok (.iconst 5, 1) := by decide +kernel
theorem dX0_addRow_53 : decode cX0_addRow 53 = .ok (.iload_n 3, 1) := by decide +kernel
theorem dX0_addRow_54 : decode cX0_addRow 54 = .ok (.invokevirtual 63, 3) := by decide +kernel
theorem dX0_addRow_57 : decode cX0_addRow 57 = .ok (.aload_n 0, 1) := by decide +kernel
theorem dX0_addRow_58 : decode cX0_addRow 58 = .ok (.getfield 16, 3) := by decide +kernel
theorem dX0_addRow_61 : decode cX0_addRow 61 = .ok (.iload 4, 2) := by decide +kernel
theorem dX0_addRow_63 : decode cX0_addRow 63 = .ok (.iconst 3, 1) := by decide +kernel
theorem dX0_addRow_64 : decode cX0_addRow 64 = .ok (.iload_n 2, 1) := by decide +kernel
theorem dX0_addRow_65 : decode cX0_addRow 65 = .ok (.invokevirtual 63, 3) := by decide +kernel
theorem dX0_addRow_68 : decode cX0_addRow 68 = .ok (.aload_n 0, 1) := by decide +kernel
theorem dX0_addRow_69 : decode cX0_addRow 69 = .ok (.getfield 16, 3) := by decide +kernel
theorem dX0_addRow_72 : decode cX0_addRow 72 = .ok (.iload 4, 2) := by decide +kernel
theorem dX0_addRow_74 : decode cX0_addRow 74 = .ok (.iconst 4, 1) := by decide +kernel
theorem dX0_addRow_75 : decode cX0_addRow 75 = .ok (.iload_n 2, 1) := by decide +kernel
theorem dX0_addRow_76 : decode cX0_addRow 76 = .ok (.invokevirtual 63, 3) := by decide +kernel
theorem dX0_addRow_79 : decode cX0_addRow 79 = .ok (.aload_n 0, 1) := by decide +kernel
theorem dX0_addRow_80 : decode cX0_addRow 80 = .ok (.getfield 16, 3) := by decide +kernel
theorem dX0_addRow_83 : decode cX0_addRow 83 = .ok (.iload 4, 2) := by decide +kernel
theorem dX0_addRow_85 : decode cX0_addRow 85 = .ok (.iconst 1, 1) := by decide +kernel
theorem dX0_addRow_86 : decode cX0_addRow 86 = .ok (.iconst 1, 1) := by decide +kernel
theorem dX0_addRow_87 : decode cX0_addRow 87 = .ok (.invokevirtual 66, 3) := by decide +kernel
theorem dX0_addRow_90 : decode cX0_addRow 90 = .ok (.aload_n 0, 1) := by decide +kernel
theorem dX0_addRow_91 : decode cX0_addRow 91 = .ok (.getfield 16, 3) := by decide +kernel
theorem dX0_addRow_94 : decode cX0_addRow 94 = .ok (.iload 4, 2) := by decide +kernel
theorem dX0_addRow_96 : decode cX0_addRow 96 = .ok (.iconst 2, 1) := by decide +kernel
theorem dX0_addRow_97 : decode cX0_addRow 97 = .ok (.iload_n 2, 1) := by decide +kernel
theorem dX0_addRow_98 : decode cX0_addRow 98 = .ok (.invokevirtual 66, 3) := by decide +kernel
theorem dX0_addRow_101 : decode cX0_addRow 101 = .ok (.aload_n 0, 1) := by decide +kernel
theorem dX0_addRow_102 : decode cX0_addRow 102 = .ok (.getfield 16, 3) := by decide +kernel
theorem dX0_addRow_105 : decode cX0_addRow 105 = .ok (.iload 4, 2) := by decide +kernel
theorem dX0_addRow_107 : decode cX0_addRow 107 = .ok (.iconst 3, 1) := by decide +kernel
theorem dX0_addRow_108 : decode cX0_addRow 108 = .ok (.aload_n 0, 1) := by decide +kernel
theorem dX0_addRow_109 : decode cX0_addRow 109 = .ok (.getfield 16, 3) := by decide +kernel
theorem dX0_addRow_112 : decode cX0_addRow 112 = .ok (.iload 4, 2) := by decide +kernel
theorem dX0_addRow_114 : decode cX0_addRow 114 = .ok (.iconst 3, 1) := by decide +kernel
theorem dX0_addRow_115 : decode cX0_addRow 115 = .ok (.invokevirtual 56, 3) := by decide +kernel
theorem dX0_addRow_118 : decode cX0_addRow 118 = .ok (.iload_n 2, 1) := by decide +kernel
theorem dX0_addRow_119 : decode cX0_addRow 119 = .ok (.invokestatic 69, 3) := by decide +kernel
theorem dX0_addRow_122 : decode cX0_addRow 122 = .ok (.invokevirtual 63, 3) := by decide +kernel
theorem dX0_addRow_125 : decode cX0_addRow 125 = .ok (.aload_n 0, 1) := by decide +kernel
theorem dX0_addRow_126 : decode cX0_addRow 126 = .ok (.getfield 16, 3) := by decide +kernel
theorem dX0_addRow_129 : decode cX0_addRow 129 = .ok (.iload 4, 2) := by decide +kernel
theorem dX0_addRow_131 : decode cX0_addRow 131 = .ok (.iconst 4, 1) := by decide +kernel
theorem dX0_addRow_132 : decode cX0_addRow 132 = .ok (.aload_n 0, 1) := by decide +kernel
theorem dX0_addRow_133 : decode cX0_addRow 133 = .ok (.getfield 16, 3) := by decide +kernel
theorem dX0_addRow_136 : decode cX0_addRow 136 = .ok (.iload 4, 2) := by decide +kernel
theorem dX0_addRow_138 : decode cX0_addRow 138 = .ok (.iconst 4, 1) := by decide +kernel
theorem dX0_addRow_139 : decode cX0_addRow 139 = .ok (.invokevirtual 56, 3) := by decide +kernel
theorem dX0_addRow_142 : decode cX0_addRow 142 = .ok (.iload_n 2, 1) := by decide +kernel
theorem dX0_addRow_143 : decode cX0_addRow 143 = .ok (.invokestatic 74, 3) := by decide +kernel
theorem dX0_addRow_146 : decode cX0_addRow 146 = .ok (.invokevirtual 63, 3) := by decide +kernel
theorem dX0_addRow_149 : decode cX0_addRow 149 = .ok (.return_, 1) := by decide +kernel
theorem dX1_init_0 : decode cX1_init 0 = .ok (.aload_n 0, 1) := by decide +kernel
theorem dX1_init_1 : decode cX1_init 1 = .ok (.invokespecial 3, 3) := by decide +kernel
theorem dX1_init_4 : decode cX1_init 4 = .ok (.aload_n 0, 1) := by decide +kernel
theorem dX1_init_5 : decode cX1_init 5 = .ok (.iconst 4, 1) := by decide +kernel
theorem dX1_init_6 : decode cX1_init 6 = .ok (.anewarray 9, 3) := by decide +kernel
theorem dX1_init_9 : decode cX1_init 9 = .ok (.putfield 11, 3) := by decide +kernel
theorem dX1_init_12 : decode cX1_init 12 = .ok (.iconst 0, 1) := by decide +kernel
theorem dX1_init_13 : decode cX1_init 13 = .ok (.istore_n 1, 1) := by decide +kernel
theorem dX1_init_14 : decode cX1_init 14 = .ok (.iload_n 1, 1) := by decide +kernel
theorem dX1_init_15 : decode cX1_init 15 = .ok (.aload_n 0, 1) := by decide +kernel
theorem dX1_init_16 : decode cX1_init 16 = .ok (.getfield 11, 3) := by decide +kernel
theorem dX1_init_19 : decode cX1_init 19 = .ok (.arraylength, 1) := by decide +kernel
theorem dX1_init_20 : decode cX1_init 20 = .ok (.if_icmp .ge 22, 3) := by decide +kernel
theorem dX1_init_23 : decode cX1_init 23 = .ok (.aload_n 0, 1) := by decide +kernel
theorem dX1_init_24 : decode cX1_init 24 = .ok (.getfield 11, 3) := by decide +kernel
theorem dX1_init_27 : decode cX1_init 27 = .ok (.iload_n 1, 1) := by decide +kernel
theorem dX1_init_28 : decode cX1_init 28 = .ok (.new 9, 3) := by decide +kernel
theorem dX1_init_31 : decode cX1_init 31 = .ok (.dup, 1) := by decide +kernel
theorem dX1_init_32 : decode cX1_init 32 = .ok (.invokespecial 17, 3) := by decide +kernel
theorem dX1_init_35 : decode cX1_init 35 = .ok (.aastore, 1) := by decide +kernel
theorem dX1_init_36 : decode cX1_init 36 = .ok (.iinc 1 1, 3) := by decide +kernel
theorem dX1_init_39 : decode cX1_init 39 = .ok (.goto (-25), 3) := by decide +kernel
theorem dX1_init_42 : decode cX1_init 42 = .ok (.return_, 1) := by decide +kernel
theorem dX1_length_0 : decode cX1_length 0 = .ok (.aload_n 0, 1) := by decide +kernel
theorem dX1_length_1 : decode cX1_length 1 = .ok (.getfield 18, 3) := by decide +kernel
theorem dX1_length_4 : decode cX1_length 4 = .ok (.ireturn, 1) := by decide +kernel
theorem dX1_keep_0 : decode cX1_keep 0 = .ok (.aload_n 0, 1) := by decide +kernel
theorem dX1_keep_1 : decode cX1_keep 1 = .ok (.getfield 18, 3) := by decide +kernel
theorem dX1_keep_4 : decode cX1_keep 4 = .ok (.iconst 4, 1) := by decide +kernel
theorem dX1_keep_5 : decode cX1_keep 5 = .ok (.if_icmp .ne 25, 3) := by decide +kernel
theorem dX1_keep_8 : decode cX1_keep 8 = .ok (.aload_n 0, 1) := by decide +kernel
theorem dX1_keep_9 : decode cX1_keep 9 = .ok (.aload_n 0, 1) := by decide +kernel
theorem dX1_keep_10 : decode cX1_keep 10 = .ok (.getfield 22, 3) := by decide +kernel
theorem dX1_keep_13 : decode cX1_keep 13 = .ok (.iconst 1, 1) := by decide +kernel
theorem dX1_keep_14 : decode cX1_keep 14 = .ok (.iadd, 1) := by decide +kernel
theorem dX1_keep_15 : decode cX1_keep 15 = .ok (.iconst 4, 1) := by decide +kernel
theorem dX1_keep_16 : decode cX1_keep 16 = .ok (.irem, 1) := by decide +kernel
theorem dX1_keep_17 : decode cX1_keep 17 = .ok (.putfield 22, 3) := by decide +kernel
theorem dX1_keep_20 : decode cX1_keep 20 = .ok (.aload_n 0, 1) := by decide +kernel
theorem dX1_keep_21 : decode cX1_keep 21 = .ok (.dup, 1) := by decide +kernel
theorem dX1_keep_22 : decode cX1_keep 22 = .ok (.getfield 18, 3) := by decide +kernel
theorem dX1_keep_25 : decode cX1_keep 25 = .ok (.iconst 1, 1) := by decide +kernel
theorem dX1_keep_26 : decode cX1_keep 26 = .ok (.isub, 1) := by decide +kernel
theorem dX1_keep_27 : decode cX1_keep 27 = .ok (.putfield 18, 3) := by decide +kernel
theorem dX1_keep_30 : decode cX1_keep 30 = .ok (.aload_n 0, 1) := by decide +kernel
theorem dX1_keep_31 : decode cX1_keep 31 = .ok (.aload_n 0, 1) := by decide +kernel
theorem dX1_keep_32 : decode cX1_keep 32 = .ok (.getfield 18, 3) := by decide +kernel
theorem dX1_keep_35 : decode cX1_keep 35 = .ok (.invokevirtual 25, 3) := by decide +kernel
theorem dX1_keep_38 : decode cX1_keep 38 = .ok (.astore_n 2, 1) := by decide +kernel
theorem dX1_keep_39 : decode cX1_keep 39 = .ok (.aload_n 2, 1) := by decide +kernel
theorem dX1_keep_40 : decode cX1_keep 40 = .ok (.ifnull 18, 3) := by decide +kernel
theorem dX1_keep_43 : decode cX1_keep 43 = .ok (.aload_n 2, 1) := by decide +kernel
theorem dX1_keep_44 : decode cX1_keep 44 = .ok (.aload_n 1, 1) := by decide +kernel
theorem dX1_keep_45 : decode cX1_keep 45 = .ok (.invokevirtual 29, 3) := by decide +kernel
theorem dX1_keep_48 : decode cX1_keep 48 = .ok (.aload_n 0, 1) := by decide +kernel
theorem dX1_keep_49 : decode cX1_keep 49 = .ok (.dup, 1) := by decide +kernel
theorem dX1_keep_50 : decode cX1_keep 50 = .ok (.getfield 18, 3) := by decide +kernel
theorem dX1_keep_53 : decode cX1_keep 53 = .ok (.iconst 1, 1) := by decide +kernel
theorem dX1_keep_54 : decode cX1_keep 54 = .ok (.iadd, 1) := by decide +kernel
theorem dX1_keep_55 : decode cX1_keep 55 = .ok (.putfield 18, 3) := by decide +kernel
theorem dX1_keep_58 : decode cX1_keep 58 = .ok (.return_, 1) := by decide +kernel
theorem dX1_restore_0 : decode cX1_restore 0 = .ok (.aload_n 0, 1) := by decide +kernel
theorem dX1_restore_1 : decode cX1_restore 1 = .ok (.aload_n 0, 1) := by decide +kernel
theorem dX1_restore_2 : decode cX1_restore 2 = .ok (.getfield 18, 3) := by decide +kernel
theorem dX1_restore_5 : decode cX1_restore 5 = .ok (.iconst 1, 1) := by decide +kernel
theorem dX1_restore_6 : decode cX1_restore 6 = .ok (.isub, 1) := by decide +kernel
theorem dX1_restore_7 : decode cX1_restore 7 = .ok (.invokevirtual 25, 3) := by decide +kernel
theorem dX1_restore_10 : decode cX1_restore 10 = .ok (.astore_n 2, 1) := by decide +kernel
theorem dX1_restore_11 : decode cX1_restore 11 = .ok (.aload_n 2, 1) := by decide +kernel
theorem dX1_restore_12 : decode cX1_restore 12 = .ok (.ifnull 18, 3) := by decide +kernel
theorem dX1_restore_15 : decode cX1_restore 15 = .ok (.aload_n 1, 1) := by decide +kernel
theorem dX1_restore_16 : decode cX1_restore 16 = .ok (.aload_n 2, 1) := by decide +kernel
theorem dX1_restore_17 : decode cX1_restore 17 = .ok (.invokevirtual 29, 3) := by decide +kernel
theorem dX1_restore_20 : decode cX1_restore 20 = .ok (.aload_n 0, 1) := by decide +kernel
theorem dX1_restore_21 : decode cX1_restore 21 = .ok (.dup, 1) := by decide +kernel
theorem dX1_restore_22 : decode cX1_restore 22 = .ok (.getfield 18, 3) := by decide +kernel
theorem dX1_restore_25 : decode cX1_restore 25 = .ok (.iconst 1, 1) := by decide +kernel
theorem dX1_restore_26 : decode cX1_restore 26 = .ok (.isub, 1) := by decide +kernel
theorem dX1_restore_27 : decode cX1_restore 27 = .ok (.putfield 18, 3) := by decide +kernel
theorem dX1_restore_30 : decode cX1_restore 30 = .ok (.return_, 1) := by decide +kernel
theorem dX1_stateAt_0 : decode cX1_stateAt 0 = .ok (.iload_n 1, 1) := by decide +kernel
theorem dX1_stateAt_1 : decode cX1_stateAt 1 = .ok (.ifCond .lt 8, 3) := by decide +kernel
theorem dX1_stateAt_4 : decode cX1_stateAt 4 = .ok (.iload_n 1, 1) := by decide +kernel
theorem dX1_stateAt_5 : decode cX1_stateAt 5 = .ok (.iconst 4, 1) := by decide +kernel
theorem dX1_stateAt_6 : decode cX1_stateAt 6 = .ok (.if_icmp .lt 5, 3) := by decide +kernel
theorem dX1_stateAt_9 : decode cX1_stateAt 9 = .ok (.aconst_null, 1) := by decide +kernel
theorem dX1_stateAt_10 : decode cX1_stateAt 10 = .ok (.areturn, 1) := by decide +kernel
theorem dX1_stateAt_11 : decode cX1_stateAt 11 = .ok (.aload_n 0, 1) := by decide +kernel
theorem dX1_stateAt_12 : decode cX1_stateAt 12 = .ok (.getfield 22, 3) := by decide +kernel
theorem dX1_stateAt_15 : decode cX1_stateAt 15 = .ok (.iload_n 1, 1) := by decide +kernel
theorem dX1_stateAt_16 : decode cX1_stateAt 16 = .ok (.iadd, 1) := by decide +kernel
theorem dX1_stateAt_17 : decode cX1_stateAt 17 = .ok (.iconst 4, 1) := by decide +kernel
theorem dX1_stateAt_18 : decode cX1_stateAt 18 = .ok (.irem, 1) := by decide +kernel
theorem dX1_stateAt_19 : decode cX1_stateAt 19 = .ok (.istore_n 2, 1) := by decide +kernel
theorem dX1_stateAt_20 : decode cX1_stateAt 20 = .ok (.iload_n 2, 1) := by decide +kernel
theorem dX1_stateAt_21 : decode cX1_stateAt 21 = .ok (.ifCond .lt 12, 3) := by decide +kernel
theorem dX1_stateAt_24 : decode cX1_stateAt 24 = .ok (.iload_n 2, 1) := by decide +kernel
theorem dX1_stateAt_25 : decode cX1_stateAt 25 = .ok (.aload_n 0, 1) := by decide +kernel
theorem dX1_stateAt_26 : decode cX1_stateAt 26 = .ok (.getfield 11, 3) := by decide +kernel
theorem dX1_stateAt_29 : decode cX1_stateAt 29 = .ok (.arraylength, 1) := by decide +kernel
theorem dX1_stateAt_30 : decode cX1_stateAt 30 = .ok (.if_icmp .lt 7, 3) := by decide +kernel
theorem dX1_stateAt_33 : decode cX1_stateAt 33 = .ok (.aconst_null, 1) := by decide +kernel
theorem dX1_stateAt_34 : decode cX1_stateAt 34 = .ok (.goto 9, 3) := by decide +kernel
theorem dX1_stateAt_37 : decode cX1_stateAt 37 = .ok (.aload_n 0, 1) := by decide +kernel
theorem dX1_stateAt_38 : decode cX1_stateAt 38 = .ok (.getfield 11, 3) := by decide +kernel
theorem dX1_stateAt_41 : decode cX1_stateAt 41 = .ok (.iload_n 2, 1) := by decide +kernel
theorem dX1_stateAt_42 : decode cX1_stateAt 42 = .ok (.aaload, 1) := by decide +kernel
theorem dX1_stateAt_43 : decode cX1_stateAt 43 = .ok (.areturn, 1) := by decide +kernel
theorem dX2_init_0 : decode cX2_init 0 = .ok (.aload_n 0, 1) := by decide +kernel
theorem dX2_init_1 : decode cX2_init 1 = .ok (.invokespecial 3, 3) := by decide +kernel
theorem dX2_init_4 : decode cX2_init 4 = .ok (.aload_n 0, 1) := by decide +kernel
theorem dX2_init_5 : decode cX2_init 5 = .ok (.aload_n 1, 1) := by decide +kernel
theorem dX2_init_6 : decode cX2_init 6 = .ok (.putfield 9, 3) := by decide +kernel
theorem dX2_init_9 : decode cX2_init 9 = .ok (.aload_n 0, 1) := by decide +kernel
theorem dX2_init_10 : decode cX2_init 10 = .ok (.new 15, 3) := by decide +kernel
theorem dX2_init_13 : decode cX2_init 13 = .ok (.dup, 1) := by decide +kernel
theorem dX2_init_14 : decode cX2_init 14 = .ok (.sipush 613, 3) := by decide +kernel
theorem dX2_init_17 : decode cX2_init 17 = .ok (.bipush 8, 2) := by decide +kernel
theorem dX2_init_19 : decode cX2_init 19 = .ok (.invokespecial 17, 3) := by decide +kernel
theorem dX2_init_22 : decode cX2_init 22 = .ok (.putfield 20, 3) := by decide +kernel
theorem dX2_init_25 : decode cX2_init 25 = .ok (.aload_n 0, 1) := by decide +kernel
theorem dX2_init_26 : decode cX2_init 26 = .ok (.new 15, 3) := by decide +kernel
theorem dX2_init_29 : decode cX2_init 29 = .ok (.dup, 1) := by decide +kernel
theorem dX2_init_30 : decode cX2_init 30 = .ok (.sipush 612, 3) := by decide +kernel
theorem dX2_init_33 : decode cX2_init 33 = .ok (.iconst 5, 1) := by decide +kernel
theorem dX2_init_34 : decode cX2_init 34 = .ok (.invokespecial 17, 3) := by decide +kernel
theorem dX2_init_37 : decode cX2_init 37 = .ok (.putfield 24, 3) := by decide +kernel
theorem dX2_init_40 : decode cX2_init 40 = .ok (.aload_n 0, 1) := by decide +kernel
theorem dX2_init_41 : decode cX2_init 41 = .ok (.new 15, 3) := by decide +kernel
theorem dX2_init_44 : decode cX2_init 44 = .ok (.dup, 1) := by decide +kernel
theorem dX2_init_45 : decode cX2_init 45 = .ok (.bipush 100, 2) := by decide +kernel
theorem dX2_init_47 : decode cX2_init 47 = .ok (.iconst 3, 1) := by decide +kernel
theorem dX2_init_48 : decode cX2_init 48 = .ok (.invokespecial 17, 3) := by decide +kernel
theorem dX2_init_51 : decode cX2_init 51 = .ok (.putfield 27, 3) := by decide +kernel
theorem dX2_init_54 : decode cX2_init 54 = .ok (.aload_n 0, 1) := by decide +kernel
theorem dX2_init_55 : decode cX2_init 55 = .ok (.new 15, 3) := by decide +kernel
theorem dX2_init_58 : decode cX2_init 58 = .ok (.dup, 1) := by decide +kernel
theorem dX2_init_59 : decode cX2_init 59 = .ok (.bipush 100, 2) := by decide +kernel
theorem dX2_init_61 : decode cX2_init 61 = .ok (.iconst 1, 1) := by decide +kernel
theorem dX2_init_62 : decode cX2_init 62 = .ok (.invokespecial 17, 3) := by decide +kernel
theorem dX2_init_65 : decode cX2_init 65 = .ok (.putfield 30, 3) := by decide +kernel
theorem dX2_init_68 : decode cX2_init 68 = .ok (.aload_n 0, 1) := by decide +kernel
theorem dX2_init_69 : decode cX2_init 69 = .ok (.new 15, 3) := by decide +kernel
theorem dX2_init_72 : decode cX2_init 72 = .ok (.dup, 1) := by decide +kernel
theorem dX2_init_73 : decode cX2_init 73 = .ok (.bipush 100, 2) := by decide +kernel
theorem dX2_init_75 : decode cX2_init 75 = .ok (.iconst 1, 1) := by decide +kernel
theorem dX2_init_76 : decode cX2_init 76 = .ok (.invokespecial 17, 3) := by decide +kernel
theorem dX2_init_79 : decode cX2_init 79 = .ok (.putfield 33, 3) := by decide +kernel
theorem dX2_init_82 : decode cX2_init 82 = .ok (.aload_n 0, 1) := by decide +kernel
theorem dX2_init_83 : decode cX2_init 83 = .ok (.new 15, 3) := by decide +kernel
theorem dX2_init_86 : decode cX2_init 86 = .ok (.dup, 1) := by decide +kernel
theorem dX2_init_87 : decode cX2_init 87 = .ok (.bipush 16, 2) := by decide +kernel
theorem dX2_init_89 : decode cX2_init 89 = .ok (.iconst 2, 1) := by decide +kernel
theorem dX2_init_90 : decode cX2_init 90 = .ok (.invokespecial 17, 3) := by decide +kernel
theorem dX2_init_93 : decode cX2_init 93 = .ok (.putfield 36, 3) := by decide +kernel
theorem dX2_init_96 : decode cX2_init 96 = .ok (.aload_n 0, 1) := by decide +kernel
theorem dX2_init_97 : decode cX2_init 97 = .ok (.new 15, 3) := by decide +kernel
theorem dX2_init_100 : decode cX2_init 100 = .ok (.dup, 1) := by decide +kernel
theorem dX2_init_101 : decode cX2_init 101 = .ok (.sipush 1600, 3) := by decide +kernel
theorem dX2_init_104 : decode cX2_init 104 = .ok (.iconst 1, 1) := by decide +kernel
theorem dX2_init_105 : decode cX2_init 105 = .ok (.invokespecial 17, 3) := by decide +kernel
theorem dX2_init_108 : decode cX2_init 108 = .ok (.putfield 39, 3) := by decide +kernel
theorem dX2_init_111 : decode cX2_init 111 = .ok (.return_, 1) := by decide +kernel
theorem dX2_forget_0 : decode cX2_forget 0 = .ok (.aload_n 0, 1) := by decide +kernel
theorem dX2_forget_1 : decode cX2_forget 1 = .ok (.iconst 0, 1) := by decide +kernel
theorem dX2_forget_2 : decode cX2_forget 2 = .ok (.putfield 42, 3) := by decide +kernel
theorem dX2_forget_5 : decode cX2_forget 5 = .ok (.return_, 1) := by decide +kernel
theorem dX2_run_0 : decode cX2_run 0 = .ok (.iload_n 2, 1) := by decide +kernel
theorem dX2_run_1 : decode cX2_run 1 = .ok (.iconst 1, 1) := by decide +kernel
theorem dX2_run_2 : decode cX2_run 2 = .ok (.if_icmp .lt 19, 3) := by decide +kernel
theorem dX2_run_5 : decode cX2_run 5 = .ok (.aload_n 0, 1) := by decide +kernel
theorem dX2_run_6 : decode cX2_run 6 = .ok (.getfield 42, 3) := by decide +kernel
theorem dX2_run_9 : decode cX2_run 9 = .ok (.iload_n 1, 1) := by decide +kernel
theorem dX2_run_10 : decode cX2_run 10 = .ok (.if_icmp .ne 12, 3) := by decide +kernel
theorem dX2_run_13 : decode cX2_run 13 = .ok (.aload_n 0, 1) := by decide +kernel
theorem dX2_run_14 : decode cX2_run 14 = .ok (.getfield 46, 3) := by decide +kernel
theorem dX2_run_17 : decode cX2_run 17 = .ok (.iload_n 2, 1) := by decide +kernel
theorem dX2_run_18 : decode cX2_run 18 = .ok (.if_icmp .ne 4, 3) := by decide +kernel
theorem dX2_run_21 : decode cX2_run 21 = .ok (.return_, 1) := by decide +kernel
theorem dX2_run_22 : decode cX2_run 22 = .ok (.aload_n 0, 1) := by decide +kernel
theorem dX2_run_23 : decode cX2_run 23 = .ok (.iload_n 1, 1) := by decide +kernel
theorem dX2_run_24 : decode cX2_run 24 = .ok (.putfield 42, 3) := by decide +kernel
theorem dX2_run_27 : decode cX2_run 27 = .ok (.aload_n 0, 1) := by decide +kernel
theorem dX2_run_28 : decode cX2_run 28 = .ok (.iload_n 2, 1) := by decide +kernel
theorem dX2_run_29 : decode cX2_run 29 = .ok (.putfield 46, 3) := by decide +kernel
theorem dX2_run_32 : decode cX2_run 32 = .ok (.aload_n 0, 1) := by decide +kernel
theorem dX2_run_33 : decode cX2_run 33 = .ok (.bipush 16, 2) := by decide +kernel
theorem dX2_run_35 : decode cX2_run 35 = .ok (.iload_n 2, 1) := by decide +kernel
theorem dX2_run_36 : decode cX2_run 36 = .ok (.idiv, 1) := by decide +kernel
theorem dX2_run_37 : decode cX2_run 37 = .ok (.iconst 1, 1) := by decide +kernel
theorem dX2_run_38 : decode cX2_run 38 = .ok (.isub, 1) := by decide +kernel
theorem dX2_run_39 : decode cX2_run 39 = .ok (.putfield 49, 3) := by decide +kernel
theorem dX2_run_42 : decode cX2_run 42 = .ok (.aload_n 0, 1) := by decide +kernel
theorem dX2_run_43 : decode cX2_run 43 = .ok (.iconst 0, 1) := by decide +kernel
theorem dX2_run_44 : decode cX2_run 44 = .ok (.putfield 52, 3) := by decide +kernel
theorem dX2_run_47 : decode cX2_run 47 = .ok (.aload_n 0, 1) := by decide +kernel
theorem dX2_run_48 : decode cX2_run 48 = .ok (.getfield 20, 3) := by decide +kernel
theorem dX2_run_51 : decode cX2_run 51 = .ok (.iconst 0, 1) := by decide +kernel
theorem dX2_run_52 : decode cX2_run 52 = .ok (.invokevirtual 55, 3) := by decide +kernel
theorem dX2_run_55 : decode cX2_run 55 = .ok (.aload_n 0, 1) := by decide +kernel
theorem dX2_run_56 : decode cX2_run 56 = .ok (.getfield 24, 3) := by decide +kernel
theorem dX2_run_59 : decode cX2_run 59 = .ok (.iconst 0, 1) := by decide +kernel
theorem dX2_run_60 : decode cX2_run 60 = .ok (.invokevirtual 55, 3) := by decide +kernel
theorem dX2_run_63 : decode cX2_run 63 = .ok (.aload_n 0, 1) := by decide +kernel
theorem dX2_run_64 : decode cX2_run 64 = .ok (.getfield 30, 3) := by decide +kernel
theorem dX2_run_67 : decode cX2_run 67 = .ok (.iconst 0, 1) := by decide +kernel
theorem dX2_run_68 : decode cX2_run 68 = .ok (.invokevirtual 55, 3) := by decide +kernel
theorem dX2_run_71 : decode cX2_run 71 = .ok (.aload_n 0, 1) := by decide +kernel
theorem dX2_run_72 : decode cX2_run 72 = .ok (.getfield 27, 3) := by decide +kernel
theorem dX2_run_75 : decode cX2_run 75 = .ok (.aload_n 0, 1) := by decide +kernel
theorem dX2_run_76 : decode cX2_run 76 = .ok (.getfield 9, 3) := by decide +kernel
theorem dX2_run_79 : decode cX2_run 79 = .ok (.getfield 59, 3) := by decide +kernel
theorem dX2_run_82 : decode cX2_run 82 = .ok (.invokevirtual 64, 3) := by decide +kernel
theorem dX2_run_85 : decode cX2_run 85 = .ok (.invokevirtual 68, 3) := by decide +kernel
theorem dX2_run_88 : decode cX2_run 88 = .ok (.aload_n 0, 1) := by decide +kernel
theorem dX2_run_89 : decode cX2_run 89 = .ok (.getfield 39, 3) := by decide +kernel
theorem dX2_run_92 : decode cX2_run 92 = .ok (.aload_n 0, 1) := by decide +kernel
theorem dX2_run_93 : decode cX2_run 93 = .ok (.getfield 9, 3) := by decide +kernel
theorem dX2_run_96 : decode cX2_run 96 = .ok (.getfield 71, 3) := by decide +kernel
theorem dX2_run_99 : decode cX2_run 99 = .ok (.invokevirtual 74, 3) := by decide +kernel
theorem dX2_run_102 : decode cX2_run 102 = .ok (.aload_n 0, 1) := by decide +kernel
theorem dX2_run_103 : decode cX2_run 103 = .ok (.iconst 0, 1) := by decide +kernel
theorem dX2_run_104 : decode cX2_run 104 = .ok (.iconst 0, 1) := by decide +kernel
theorem dX2_run_105 : decode cX2_run 105 = .ok (.iconst 0, 1) := by decide +kernel
theorem dX2_run_106 : decode cX2_run 106 = .ok (.invokevirtual 78, 3) := by decide +kernel
theorem dX2_run_109 : decode cX2_run 109 = .ok (.return_, 1) := by decide +kernel
theorem dX2_find_0 : decode cX2_find 0 = .ok (.iconst 0, 1) := by decide +kernel
theorem dX2_find_1 : decode cX2_find 1 = .ok (.istore_n 3, 1) := by decide +kernel
theorem dX2_find_2 : decode cX2_find 2 = .ok (.iload_n 3, 1) := by decide +kernel
theorem dX2_find_3 : decode cX2_find 3 = .ok (.aload_n 0, 1) := by decide +kernel
theorem dX2_find_4 : decode cX2_find 4 = .ok (.getfield 20, 3) := by decide +kernel
theorem dX2_find_7 : decode cX2_find 7 = .ok (.invokevirtual 64, 3) := by decide +kernel
theorem dX2_find_10 : decode cX2_find 10 = .ok (.if_icmp .ge 39, 3) := by decide +kernel
theorem dX2_find_13 : decode cX2_find 13 = .ok (.aload_n 0, 1) := by decide +kernel
theorem dX2_find_14 : decode cX2_find 14 = .ok (.getfield 20, 3) := by decide +kernel
theorem dX2_find_17 : decode cX2_find 17 = .ok (.iload_n 3, 1) := by decide +kernel
theorem dX2_find_18 : decode cX2_find 18 = .ok (.bipush 6, 2) := by decide +kernel
theorem dX2_find_20 : decode cX2_find 20 = .ok (.invokevirtual 82, 3) := by decide +kernel
theorem dX2_find_23 : decode cX2_find 23 = .ok (.iload_n 1, 1) := by decide +kernel
theorem dX2_find_24 : decode cX2_find 24 = .ok (.if_icmp .ne 19, 3) := by decide +kernel
theorem dX2_find_27 : decode cX2_find 27 = .ok (.aload_n 0, 1) := by decide +kernel
theorem dX2_find_28 : decode cX2_find 28 = .ok (.getfield 20, 3) := by decide +kernel
theorem dX2_find_31 : decode cX2_find 31 = .ok (.iload_n 3, 1) := by decide +kernel
theorem dX2_find_32 : decode cX2_find 32 = .ok (.bipush 7, 2) := by decide +kernel
theorem dX2_find_34 : decode cX2_find 34 = .ok (.invokevirtual 82, 3) := by decide +kernel
theorem dX2_find_37 : decode cX2_find 37 = .ok (.iload_n 2, 1) := by decide +kernel
theorem dX2_find_38 : decode cX2_find 38 = .ok (.if_icmp .ne 5, 3) := by decide +kernel
theorem dX2_find_41 : decode cX2_find 41 = .ok (.iload_n 3, 1) := by decide +kernel
theorem dX2_find_42 : decode cX2_find 42 = .ok (.ireturn, 1) := by decide +kernel
theorem dX2_find_43 : decode cX2_find 43 = .ok (.iinc 3 1, 3) := by decide +kernel
theorem dX2_find_46 : decode cX2_find 46 = .ok (.goto (-44), 3) := by decide +kernel
theorem dX2_find_49 : decode cX2_find 49 = .ok (.iconst (-1), 1) := by decide +kernel
theorem dX2_find_50 : decode cX2_find 50 = .ok (.ireturn, 1) := by decide +kernel
theorem dX2_itemsFiled_0 : decode cX2_itemsFiled 0 = .ok (.aload_n 0, 1) := by decide +kernel
theorem dX2_itemsFiled_1 : decode cX2_itemsFiled 1 = .ok (.getfield 20, 3) := by decide +kernel
theorem dX2_itemsFiled_4 : decode cX2_itemsFiled 4 = .ok (.iconst 3, 1) := by decide +kernel
theorem dX2_itemsFiled_5 : decode cX2_itemsFiled 5 = .ok (.invokevirtual 86, 3) := by decide +kernel
theorem dX2_itemsFiled_8 : decode cX2_itemsFiled 8 = .ok (.ireturn, 1) := by decide +kernel
theorem dX2_itemsRead_0 : decode cX2_itemsRead 0 = .ok (.aload_n 0, 1) := by decide +kernel
theorem dX2_itemsRead_1 : decode cX2_itemsRead 1 = .ok (.getfield 20, 3) := by decide +kernel
theorem dX2_itemsRead_4 : decode cX2_itemsRead 4 = .ok (.iconst 0, 1) := by decide +kernel
theorem dX2_itemsRead_5 : decode cX2_itemsRead 5 = .ok (.invokevirtual 86, 3) := by decide +kernel
theorem dX2_itemsRead_8 : decode cX2_itemsRead 8 = .ok (.aload_n 0, 1) := by decide +kernel
theorem dX2_itemsRead_9 : decode cX2_itemsRead 9 = .ok (.getfield 20, 3) := by decide +kernel
theorem dX2_itemsRead_12 : decode cX2_itemsRead 12 = .ok (.iconst 0, 1) := by decide +kernel
theorem dX2_itemsRead_13 : decode cX2_itemsRead 13 = .ok (.iconst 0, 1) := by decide +kernel
theorem dX2_itemsRead_14 : decode cX2_itemsRead 14 = .ok (.invokevirtual 82, 3) := by decide +kernel
theorem dX2_itemsRead_17 : decode cX2_itemsRead 17 = .ok (.isub, 1) := by decide +kernel
theorem dX2_itemsRead_18 : decode cX2_itemsRead 18 = .ok (.ireturn, 1) := by decide +kernel
theorem dX2_runPass_0 : decode cX2_runPass 0 = .ok (.iload_n 1, 1) := by decide +kernel
theorem dX2_runPass_1 : decode cX2_runPass 1 = .ok (.aload_n 0, 1) := by decide +kernel
theorem dX2_runPass_2 : decode cX2_runPass 2 = .ok (.getfield 49, 3) := by decide +kernel
theorem dX2_runPass_5 : decode cX2_runPass 5 = .ok (.if_icmp .le 4, 3) := by decide +kernel
theorem dX2_runPass_8 : decode cX2_runPass 8 = .ok (.return_, 1) := by decide +kernel
theorem dX2_runPass_9 : decode cX2_runPass 9 = .ok (.aload_n 0, 1) := by decide +kernel
theorem dX2_runPass_10 : decode cX2_runPass 10 = .ok (.getfield 20, 3) := by decide +kernel
theorem dX2_runPass_13 : decode cX2_runPass 13 = .ok (.iconst 0, 1) := by decide +kernel
theorem dX2_runPass_14 : decode cX2_runPass 14 = .ok (.invokevirtual 90, 3) := by decide +kernel
theorem dX2_runPass_17 : decode cX2_runPass 17 = .ok (.istore 4, 2) := by decide +kernel
theorem dX2_runPass_19 : decode cX2_runPass 19 = .ok (.aload_n 0, 1) := by decide +kernel
theorem dX2_runPass_20 : decode cX2_runPass 20 = .ok (.getfield 20, 3) := by decide +kernel
theorem dX2_runPass_23 : decode cX2_runPass 23 = .ok (.iload 4, 2) := by decide +kernel
theorem dX2_runPass_25 : decode cX2_runPass 25 = .ok (.iconst 5, 1) := by decide +kernel
theorem dX2_runPass_26 : decode cX2_runPass 26 = .ok (.iload 4, 2) := by decide +kernel
theorem dX2_runPass_28 : decode cX2_runPass 28 = .ok (.invokevirtual 93, 3) := by decide +kernel
theorem dX2_runPass_31 : decode cX2_runPass 31 = .ok (.aload_n 0, 1) := by decide +kernel
theorem dX2_runPass_32 : decode cX2_runPass 32 = .ok (.getfield 20, 3) := by decide +kernel
theorem dX2_runPass_35 : decode cX2_runPass 35 = .ok (.iload 4, 2) := by decide +kernel
theorem dX2_runPass_37 : decode cX2_runPass 37 = .ok (.bipush 6, 2) := by decide +kernel
theorem dX2_runPass_39 : decode cX2_runPass 39 = .ok (.iload_n 1, 1) := by decide +kernel
theorem dX2_runPass_40 : decode cX2_runPass 40 = .ok (.invokevirtual 93, 3) := by decide +kernel
theorem dX2_runPass_43 : decode cX2_runPass 43 = .ok (.aload_n 0, 1) := by decide +kernel
theorem dX2_runPass_44 : decode cX2_runPass 44 = .ok (.getfield 20, 3) := by decide +kernel
theorem dX2_runPass_47 : decode cX2_runPass 47 = .ok (.iload 4, 2) := by decide +kernel
theorem dX2_runPass_49 : decode cX2_runPass 49 = .ok (.bipush 7, 2) := by decide +kernel
theorem dX2_runPass_51 : decode cX2_runPass 51 = .ok (.iload_n 2, 1) := by decide +kernel
theorem dX2_runPass_52 : decode cX2_runPass 52 = .ok (.invokevirtual 93, 3) := by decide +kernel
theorem dX2_runPass_55 : decode cX2_runPass 55 = .ok (.aload_n 0, 1) := by decide +kernel
theorem dX2_runPass_56 : decode cX2_runPass 56 = .ok (.getfield 36, 3) := by decide +kernel
theorem dX2_runPass_59 : decode cX2_runPass 59 = .ok (.iconst 1, 1) := by decide +kernel
theorem dX2_runPass_60 : decode cX2_runPass 60 = .ok (.aload_n 0, 1) := by decide +kernel
theorem dX2_runPass_61 : decode cX2_runPass 61 = .ok (.getfield 46, 3) := by decide +kernel
theorem dX2_runPass_64 : decode cX2_runPass 64 = .ok (.ishl, 1) := by decide +kernel
theorem dX2_runPass_65 : decode cX2_runPass 65 = .ok (.invokevirtual 68, 3) := by decide +kernel
theorem dX2_runPass_68 : decode cX2_runPass 68 = .ok (.aload_n 0, 1) := by decide +kernel
theorem dX2_runPass_69 : decode cX2_runPass 69 = .ok (.getfield 39, 3) := by decide +kernel
theorem dX2_runPass_72 : decode cX2_runPass 72 = .ok (.invokevirtual 64, 3) := by decide +kernel
theorem dX2_runPass_75 : decode cX2_runPass 75 = .ok (.istore 5, 2) := by decide +kernel
theorem dX2_runPass_77 : decode cX2_runPass 77 = .ok (.iload_n 3, 1) := by decide +kernel
theorem dX2_runPass_78 : decode cX2_runPass 78 = .ok (.istore 6, 2) := by decide +kernel
theorem dX2_runPass_80 : decode cX2_runPass 80 = .ok (.iload 6, 2) := by decide +kernel
theorem dX2_runPass_82 : decode cX2_runPass 82 = .ok (.iload 5, 2) := by decide +kernel
theorem dX2_runPass_84 : decode cX2_runPass 84 = .ok (.if_icmp .ge 63, 3) := by decide +kernel
theorem dX2_runPass_87 : decode cX2_runPass 87 = .ok (.aload_n 0, 1) := by decide +kernel
theorem dX2_runPass_88 : decode cX2_runPass 88 = .ok (.getfield 39, 3) := by decide +kernel
theorem dX2_runPass_91 : decode cX2_runPass 91 = .ok (.iload 6, 2) := by decide +kernel
theorem dX2_runPass_93 : decode cX2_runPass 93 = .ok (.iconst 0, 1) := by decide +kernel
theorem dX2_runPass_94 : decode cX2_runPass 94 = .ok (.invokevirtual 82, 3) := by decide +kernel
theorem dX2_runPass_97 : decode cX2_runPass 97 = .ok (.istore 7, 2) := by decide +kernel
theorem dX2_runPass_99 : decode cX2_runPass 99 = .ok (.aload_n 0, 1) := by decide +kernel
theorem dX2_runPass_100 : decode cX2_runPass 100 = .ok (.iload 7, 2) := by decide +kernel
theorem dX2_runPass_102 : decode cX2_runPass 102 = .ok (.iload_n 1, 1) := by decide +kernel
theorem dX2_runPass_103 : decode cX2_runPass 103 = .ok (.invokevirtual 96, 3) := by decide +kernel
theorem dX2_runPass_106 : decode cX2_runPass 106 = .ok (.iload_n 2, 1) := by decide +kernel
theorem dX2_runPass_107 : decode cX2_runPass 107 = .ok (.if_icmp .ne 34, 3) := by decide +kernel
theorem dX2_runPass_110 : decode cX2_runPass 110 = .ok (.aload_n 0, 1) := by decide +kernel
theorem dX2_runPass_111 : decode cX2_runPass 111 = .ok (.iload 4, 2) := by decide +kernel
theorem dX2_runPass_113 : decode cX2_runPass 113 = .ok (.iload_n 1, 1) := by decide +kernel
theorem dX2_runPass_114 : decode cX2_runPass 114 = .ok (.iload 7, 2) := by decide +kernel
theorem dX2_runPass_116 : decode cX2_runPass 116 = .ok (.invokevirtual 99, 3) := by decide +kernel
theorem dX2_runPass_119 : decode cX2_runPass 119 = .ok (.ifCond .eq 13, 3) := by decide +kernel
theorem dX2_runPass_122 : decode cX2_runPass 122 = .ok (.aload_n 0, 1) := by decide +kernel
theorem dX2_runPass_123 : decode cX2_runPass 123 = .ok (.iload 4, 2) := by decide +kernel
theorem dX2_runPass_125 : decode cX2_runPass 125 = .ok (.aload_n 0, 1) := by decide +kernel
theorem dX2_runPass_126 : decode cX2_runPass 126 = .ok (.invokevirtual 103, 3) := by decide +kernel
theorem dX2_runPass_129 : decode cX2_runPass 129 = .ok (.invokevirtual 106, 3) := by decide +kernel
theorem dX2_runPass_132 : decode cX2_runPass 132 = .ok (.aload_n 0, 1) := by decide +kernel
theorem dX2_runPass_133 : decode cX2_runPass 133 = .ok (.iload 4, 2) := by decide +kernel
theorem dX2_runPass_135 : decode cX2_runPass 135 = .ok (.iload_n 1, 1) := by decide +kernel
theorem dX2_runPass_136 : decode cX2_runPass 136 = .ok (.iload 7, 2) := by decide +kernel
theorem dX2_runPass_138 : decode cX2_runPass 138 = .ok (.invokevirtual 109, 3) := by decide +kernel
theorem dX2_runPass_141 : decode cX2_runPass 141 = .ok (.iinc 6 1, 3) := by decide +kernel
theorem dX2_runPass_144 : decode cX2_runPass 144 = .ok (.goto (-64), 3) := by decide +kernel
theorem dX2_runPass_147 : decode cX2_runPass 147 = .ok (.aload_n 0, 1) := by decide +kernel
theorem dX2_runPass_148 : decode cX2_runPass 148 = .ok (.iload 4, 2) := by decide +kernel
theorem dX2_runPass_150 : decode cX2_runPass 150 = .ok (.iload_n 1, 1) := by decide +kernel
theorem dX2_runPass_151 : decode cX2_runPass 151 = .ok (.iload_n 2, 1) := by decide +kernel
theorem dX2_runPass_152 : decode cX2_runPass 152 = .ok (.invokevirtual 112, 3) := by decide +kernel
theorem dX2_runPass_155 : decode cX2_runPass 155 = .ok (.aload_n 0, 1) := by decide +kernel
theorem dX2_runPass_156 : decode cX2_runPass 156 = .ok (.iload_n 1, 1) := by decide +kernel
theorem dX2_runPass_157 : decode cX2_runPass 157 = .ok (.iload_n 2, 1) := by decide +kernel
theorem dX2_runPass_158 : decode cX2_runPass 158 = .ok (.aload_n 0, 1) := by decide +kernel
theorem dX2_runPass_159 : decode cX2_runPass 159 = .ok (.getfield 20, 3) := by decide +kernel
theorem dX2_runPass_162 : decode cX2_runPass 162 = .ok (.iload 4, 2) := by decide +kernel
theorem dX2_runPass_164 : decode cX2_runPass 164 = .ok (.iconst 2, 1) := by decide +kernel
theorem dX2_runPass_165 : decode cX2_runPass 165 = .ok (.invokevirtual 82, 3) := by decide +kernel
theorem dX2_runPass_168 : decode cX2_runPass 168 = .ok (.iload 5, 2) := by decide +kernel
theorem dX2_runPass_170 : decode cX2_runPass 170 = .ok (.invokevirtual 115, 3) := by decide +kernel
theorem dX2_runPass_173 : decode cX2_runPass 173 = .ok (.aload_n 0, 1) := by decide +kernel
theorem dX2_runPass_174 : decode cX2_runPass 174 = .ok (.getfield 39, 3) := by decide +kernel
theorem dX2_runPass_177 : decode cX2_runPass 177 = .ok (.iload 5, 2) := by decide +kernel
theorem dX2_runPass_179 : decode cX2_runPass 179 = .ok (.invokevirtual 55, 3) := by decide +kernel
theorem dX2_runPass_182 : decode cX2_runPass 182 = .ok (.return_, 1) := by decide +kernel
theorem dX2_runFiles_0 : decode cX2_runFiles 0 = .ok (.iconst 0, 1) := by decide +kernel
theorem dX2_runFiles_1 : decode cX2_runFiles 1 = .ok (.istore 5, 2) := by decide +kernel
theorem dX2_runFiles_3 : decode cX2_runFiles 3 = .ok (.iload 5, 2) := by decide +kernel
theorem dX2_runFiles_5 : decode cX2_runFiles 5 = .ok (.iconst 1, 1) := by decide +kernel
theorem dX2_runFiles_6 : decode cX2_runFiles 6 = .ok (.aload_n 0, 1) := by decide +kernel
theorem dX2_runFiles_7 : decode cX2_runFiles 7 = .ok (.getfield 46, 3) := by decide +kernel
theorem dX2_runFiles_10 : decode cX2_runFiles 10 = .ok (.ishl, 1) := by decide +kernel
theorem dX2_runFiles_11 : decode cX2_runFiles 11 = .ok (.if_icmp .ge 37, 3) := by decide +kernel
theorem dX2_runFiles_14 : decode cX2_runFiles 14 = .ok (.iload_n 3, 1) := by decide +kernel
theorem dX2_runFiles_15 : decode cX2_runFiles 15 = .ok (.iload 5, 2) := by decide +kernel
theorem dX2_runFiles_17 : decode cX2_runFiles 17 = .ok (.ishr, 1) := by decide +kernel
theorem dX2_runFiles_18 : decode cX2_runFiles 18 = .ok (.iconst 1, 1) := by decide +kernel
theorem dX2_runFiles_19 : decode cX2_runFiles 19 = .ok (.iand, 1) := by decide +kernel
theorem dX2_runFiles_20 : decode cX2_runFiles 20 = .ok (.iconst 1, 1) := by decide +kernel
theorem dX2_runFiles_21 : decode cX2_runFiles 21 = .ok (.if_icmp .ne 21, 3) := by decide +kernel
theorem dX2_runFiles_24 : decode cX2_runFiles 24 = .ok (.aload_n 0, 1) := by decide +kernel
theorem dX2_runFiles_25 : decode cX2_runFiles 25 = .ok (.iload_n 1, 1) := by decide +kernel
theorem dX2_runFiles_26 : decode cX2_runFiles 26 = .ok (.iconst 1, 1) := by decide +kernel
theorem dX2_runFiles_27 : decode cX2_runFiles 27 = .ok (.iadd, 1) := by decide +kernel
theorem dX2_runFiles_28 : decode cX2_runFiles 28 = .ok (.iload_n 2, 1) := by decide +kernel
theorem dX2_runFiles_29 : decode cX2_runFiles 29 = .ok (.aload_n 0, 1) := by decide +kernel
theorem dX2_runFiles_30 : decode cX2_runFiles 30 = .ok (.getfield 46, 3) := by decide +kernel
theorem dX2_runFiles_33 : decode cX2_runFiles 33 = .ok (.ishl, 1) := by decide +kernel
theorem dX2_runFiles_34 : decode cX2_runFiles 34 = .ok (.iload 5, 2) := by decide +kernel
theorem dX2_runFiles_36 : decode cX2_runFiles 36 = .ok (.ior, 1) := by decide +kernel
theorem dX2_runFiles_37 : decode cX2_runFiles 37 = .ok (.iload 4, 2) := by decide +kernel
theorem dX2_runFiles_39 : decode cX2_runFiles 39 = .ok (.invokevirtual 78, 3) := by decide +kernel
theorem dX2_runFiles_42 : decode cX2_runFiles 42 = .ok (.iinc 5 1, 3) := by decide +kernel
theorem dX2_runFiles_45 : decode cX2_runFiles 45 = .ok (.goto (-42), 3) := by decide +kernel
theorem dX2_runFiles_48 : decode cX2_runFiles 48 = .ok (.return_, 1) := by decide +kernel
theorem dX2_needsSpill_0 : decode cX2_needsSpill 0 = .ok (.aload_n 0, 1) := by decide +kernel
theorem dX2_needsSpill_1 : decode cX2_needsSpill 1 = .ok (.getfield 33, 3) := by decide +kernel
theorem dX2_needsSpill_4 : decode cX2_needsSpill 4 = .ok (.invokevirtual 64, 3) := by decide +kernel
theorem dX2_needsSpill_7 : decode cX2_needsSpill 7 = .ok (.aload_n 0, 1) := by decide +kernel
theorem dX2_needsSpill_8 : decode cX2_needsSpill 8 = .ok (.getfield 42, 3) := by decide +kernel
theorem dX2_needsSpill_11 : decode cX2_needsSpill 11 = .ok (.if_icmp .lt 37, 3) := by decide +kernel
theorem dX2_needsSpill_14 : decode cX2_needsSpill 14 = .ok (.iload_n 2, 1) := by decide +kernel
theorem dX2_needsSpill_15 : decode cX2_needsSpill 15 = .ok (.aload_n 0, 1) := by decide +kernel
theorem dX2_needsSpill_16 : decode cX2_needsSpill 16 = .ok (.getfield 49, 3) := by decide +kernel
theorem dX2_needsSpill_19 : decode cX2_needsSpill 19 = .ok (.if_icmp .ge 29, 3) := by decide +kernel
theorem dX2_needsSpill_22 : decode cX2_needsSpill 22 = .ok (.aload_n 0, 1) := by decide +kernel
theorem dX2_needsSpill_23 : decode cX2_needsSpill 23 = .ok (.iload_n 1, 1) := by decide +kernel
theorem dX2_needsSpill_24 : decode cX2_needsSpill 24 = .ok (.aload_n 0, 1) := by decide +kernel
theorem dX2_needsSpill_25 : decode cX2_needsSpill 25 = .ok (.iload_n 3, 1) := by decide +kernel
theorem dX2_needsSpill_26 : decode cX2_needsSpill 26 = .ok (.iload_n 2, 1) := by decide +kernel
theorem dX2_needsSpill_27 : decode cX2_needsSpill 27 = .ok (.invokevirtual 119, 3) := by decide +kernel
theorem dX2_needsSpill_30 : decode cX2_needsSpill 30 = .ok (.invokevirtual 122, 3) := by decide +kernel
theorem dX2_needsSpill_33 : decode cX2_needsSpill 33 = .ok (.ifCond .ne 15, 3) := by decide +kernel
theorem dX2_needsSpill_36 : decode cX2_needsSpill 36 = .ok (.aload_n 0, 1) := by decide +kernel
theorem dX2_needsSpill_37 : decode cX2_needsSpill 37 = .ok (.iload_n 3, 1) := by decide +kernel
theorem dX2_needsSpill_38 : decode cX2_needsSpill 38 = .ok (.invokevirtual 126, 3) := by decide +kernel
theorem dX2_needsSpill_41 : decode cX2_needsSpill 41 = .ok (.ifCond .ne 7, 3) := by decide +kernel
theorem dX2_needsSpill_44 : decode cX2_needsSpill 44 = .ok (.iconst 1, 1) := by decide +kernel
theorem dX2_needsSpill_45 : decode cX2_needsSpill 45 = .ok (.goto 4, 3) := by decide +kernel
theorem dX2_needsSpill_48 : decode cX2_needsSpill 48 = .ok (.iconst 0, 1) := by decide +kernel
theorem dX2_needsSpill_49 : decode cX2_needsSpill 49 = .ok (.ireturn, 1) := by decide +kernel
theorem dX2_takeItem_0 : decode cX2_takeItem 0 = .ok (.aload_n 0, 1) := by decide +kernel
theorem dX2_takeItem_1 : decode cX2_takeItem 1 = .ok (.getfield 20, 3) := by decide +kernel
theorem dX2_takeItem_4 : decode cX2_takeItem 4 = .ok (.iload_n 1, 1) := by decide +kernel
theorem dX2_takeItem_5 : decode cX2_takeItem 5 = .ok (.iconst 0, 1) := by decide +kernel
theorem dX2_takeItem_6 : decode cX2_takeItem 6 = .ok (.iconst 1, 1) := by decide +kernel
theorem dX2_takeItem_7 : decode cX2_takeItem 7 = .ok (.invokevirtual 130, 3) := by decide +kernel
theorem dX2_takeItem_10 : decode cX2_takeItem 10 = .ok (.aload_n 0, 1) := by decide +kernel
theorem dX2_takeItem_11 : decode cX2_takeItem 11 = .ok (.iload_n 3, 1) := by decide +kernel
theorem dX2_takeItem_12 : decode cX2_takeItem 12 = .ok (.iload_n 2, 1) := by decide +kernel
theorem dX2_takeItem_13 : decode cX2_takeItem 13 = .ok (.invokevirtual 119, 3) := by decide +kernel
theorem dX2_takeItem_16 : decode cX2_takeItem 16 = .ok (.istore 4, 2) := by decide +kernel
theorem dX2_takeItem_18 : decode cX2_takeItem 18 = .ok (.aload_n 0, 1) := by decide +kernel
theorem dX2_takeItem_19 : decode cX2_takeItem 19 = .ok (.iload_n 1, 1) := by decide +kernel
theorem dX2_takeItem_20 : decode cX2_takeItem 20 = .ok (.iload 4, 2) := by decide +kernel
theorem dX2_takeItem_22 : decode cX2_takeItem 22 = .ok (.invokevirtual 122, 3) := by decide +kernel
theorem dX2_takeItem_25 : decode cX2_takeItem 25 = .ok (.ifCond .eq 44, 3) := by decide +kernel
theorem dX2_takeItem_28 : decode cX2_takeItem 28 = .ok (.aload_n 0, 1) := by decide +kernel
theorem dX2_takeItem_29 : decode cX2_takeItem 29 = .ok (.getfield 39, 3) := by decide +kernel
theorem dX2_takeItem_32 : decode cX2_takeItem 32 = .ok (.iload_n 3, 1) := by decide +kernel
theorem dX2_takeItem_33 : decode cX2_takeItem 33 = .ok (.invokevirtual 90, 3) := by decide +kernel
theorem dX2_takeItem_36 : decode cX2_takeItem 36 = .ok (.pop, 1) := by decide +kernel
theorem dX2_takeItem_37 : decode cX2_takeItem 37 = .ok (.aload_n 0, 1) := by decide +kernel
theorem dX2_takeItem_38 : decode cX2_takeItem 38 = .ok (.getfield 20, 3) := by decide +kernel
theorem dX2_takeItem_41 : decode cX2_takeItem 41 = .ok (.iload_n 1, 1) := by decide +kernel
theorem dX2_takeItem_42 : decode cX2_takeItem 42 = .ok (.iconst 3, 1) := by decide +kernel
theorem dX2_takeItem_43 : decode cX2_takeItem 43 = .ok (.iconst 1, 1) := by decide +kernel
theorem dX2_takeItem_44 : decode cX2_takeItem 44 = .ok (.invokevirtual 130, 3) := by decide +kernel
theorem dX2_takeItem_47 : decode cX2_takeItem 47 = .ok (.aload_n 0, 1) := by decide +kernel
theorem dX2_takeItem_48 : decode cX2_takeItem 48 = .ok (.getfield 24, 3) := by decide +kernel
theorem dX2_takeItem_51 : decode cX2_takeItem 51 = .ok (.aload_n 0, 1) := by decide +kernel
theorem dX2_takeItem_52 : decode cX2_takeItem 52 = .ok (.getfield 36, 3) := by decide +kernel
theorem dX2_takeItem_55 : decode cX2_takeItem 55 = .ok (.iload 4, 2) := by decide +kernel
theorem dX2_takeItem_57 : decode cX2_takeItem 57 = .ok (.iconst 1, 1) := by decide +kernel
theorem dX2_takeItem_58 : decode cX2_takeItem 58 = .ok (.invokevirtual 82, 3) := by decide +kernel
theorem dX2_takeItem_61 : decode cX2_takeItem 61 = .ok (.iconst 4, 1) := by decide +kernel
theorem dX2_takeItem_62 : decode cX2_takeItem 62 = .ok (.iconst 1, 1) := by decide +kernel
theorem dX2_takeItem_63 : decode cX2_takeItem 63 = .ok (.invokevirtual 130, 3) := by decide +kernel
theorem dX2_takeItem_66 : decode cX2_takeItem 66 = .ok (.goto 19, 3) := by decide +kernel
theorem dX2_takeItem_69 : decode cX2_takeItem 69 = .ok (.aload_n 0, 1) := by decide +kernel
theorem dX2_takeItem_70 : decode cX2_takeItem 70 = .ok (.iload_n 3, 1) := by decide +kernel
theorem dX2_takeItem_71 : decode cX2_takeItem 71 = .ok (.invokevirtual 126, 3) := by decide +kernel
theorem dX2_takeItem_74 : decode cX2_takeItem 74 = .ok (.ifCond .ne 11, 3) := by decide +kernel
theorem dX2_takeItem_77 : decode cX2_takeItem 77 = .ok (.aload_n 0, 1) := by decide +kernel
theorem dX2_takeItem_78 : decode cX2_takeItem 78 = .ok (.iload_n 1, 1) := by decide +kernel
theorem dX2_takeItem_79 : decode cX2_takeItem 79 = .ok (.iload 4, 2) := by decide +kernel
theorem dX2_takeItem_81 : decode cX2_takeItem 81 = .ok (.iload_n 3, 1) := by decide +kernel
theorem dX2_takeItem_82 : decode cX2_takeItem 82 = .ok (.invokevirtual 133, 3) := by decide +kernel
theorem dX2_takeItem_85 : decode cX2_takeItem 85 = .ok (.return_, 1) := by decide +kernel
theorem dX2_layGroup_0 : decode cX2_layGroup 0 = .ok (.aload_n 0, 1) := by decide +kernel
theorem dX2_layGroup_1 : decode cX2_layGroup 1 = .ok (.getfield 33, 3) := by decide +kernel
theorem dX2_layGroup_4 : decode cX2_layGroup 4 = .ok (.invokevirtual 64, 3) := by decide +kernel
theorem dX2_layGroup_7 : decode cX2_layGroup 7 = .ok (.aload_n 0, 1) := by decide +kernel
theorem dX2_layGroup_8 : decode cX2_layGroup 8 = .ok (.getfield 42, 3) := by decide +kernel
theorem dX2_layGroup_11 : decode cX2_layGroup 11 = .ok (.if_icmp .lt 13, 3) := by decide +kernel
theorem dX2_layGroup_14 : decode cX2_layGroup 14 = .ok (.aload_n 0, 1) := by decide +kernel
theorem dX2_layGroup_15 : decode cX2_layGroup 15 = .ok (.dup, 1) := by decide +kernel
theorem dX2_layGroup_16 : decode cX2_layGroup 16 = .ok (.getfield 52, 3) := by decide +kernel
theorem dX2_layGroup_19 : decode cX2_layGroup 19 = .ok (.iconst 1, 1) := by decide +kernel
theorem dX2_layGroup_20 : decode cX2_layGroup 20 = .ok (.iadd, 1) := by decide +kernel
theorem dX2_layGroup_21 : decode cX2_layGroup 21 = .ok (.putfield 52, 3) := by decide +kernel
theorem dX2_layGroup_24 : decode cX2_layGroup 24 = .ok (.aload_n 0, 1) := by decide +kernel
theorem dX2_layGroup_25 : decode cX2_layGroup 25 = .ok (.getfield 33, 3) := by decide +kernel
theorem dX2_layGroup_28 : decode cX2_layGroup 28 = .ok (.aload_n 0, 1) := by decide +kernel
theorem dX2_layGroup_29 : decode cX2_layGroup 29 = .ok (.getfield 33, 3) := by decide +kernel
theorem dX2_layGroup_32 : decode cX2_layGroup 32 = .ok (.iload_n 3, 1) := by decide +kernel
theorem dX2_layGroup_33 : decode cX2_layGroup 33 = .ok (.invokevirtual 136, 3) := by decide +kernel
theorem dX2_layGroup_36 : decode cX2_layGroup 36 = .ok (.iload_n 3, 1) := by decide +kernel
theorem dX2_layGroup_37 : decode cX2_layGroup 37 = .ok (.invokevirtual 139, 3) := by decide +kernel
theorem dX2_layGroup_40 : decode cX2_layGroup 40 = .ok (.aload_n 0, 1) := by decide +kernel
theorem dX2_layGroup_41 : decode cX2_layGroup 41 = .ok (.getfield 36, 3) := by decide +kernel
theorem dX2_layGroup_44 : decode cX2_layGroup 44 = .ok (.iload_n 2, 1) := by decide +kernel
theorem dX2_layGroup_45 : decode cX2_layGroup 45 = .ok (.iconst 0, 1) := by decide +kernel
theorem dX2_layGroup_46 : decode cX2_layGroup 46 = .ok (.iconst 1, 1) := by decide +kernel
theorem dX2_layGroup_47 : decode cX2_layGroup 47 = .ok (.invokevirtual 130, 3) := by decide +kernel
theorem dX2_layGroup_50 : decode cX2_layGroup 50 = .ok (.aload_n 0, 1) := by decide +kernel
theorem dX2_layGroup_51 : decode cX2_layGroup 51 = .ok (.getfield 20, 3) := by decide +kernel
theorem dX2_layGroup_54 : decode cX2_layGroup 54 = .ok (.iload_n 1, 1) := by decide +kernel
theorem dX2_layGroup_55 : decode cX2_layGroup 55 = .ok (.iconst 4, 1) := by decide +kernel
theorem dX2_layGroup_56 : decode cX2_layGroup 56 = .ok (.aload_n 0, 1) := by decide +kernel
theorem dX2_layGroup_57 : decode cX2_layGroup 57 = .ok (.getfield 20, 3) := by decide +kernel
theorem dX2_layGroup_60 : decode cX2_layGroup 60 = .ok (.iload_n 1, 1) := by decide +kernel
theorem dX2_layGroup_61 : decode cX2_layGroup 61 = .ok (.iconst 4, 1) := by decide +kernel
theorem dX2_layGroup_62 : decode cX2_layGroup 62 = .ok (.invokevirtual 82, 3) := by decide +kernel
theorem dX2_layGroup_65 : decode cX2_layGroup 65 = .ok (.aload_n 0, 1) := by decide +kernel
theorem dX2_layGroup_66 : decode cX2_layGroup 66 = .ok (.getfield 33, 3) := by decide +kernel
theorem dX2_layGroup_69 : decode cX2_layGroup 69 = .ok (.invokevirtual 64, 3) := by decide +kernel
theorem dX2_layGroup_72 : decode cX2_layGroup 72 = .ok (.invokestatic 142, 3) := by decide +kernel
theorem dX2_layGroup_75 : decode cX2_layGroup 75 = .ok (.invokevirtual 93, 3) := by decide +kernel
theorem dX2_layGroup_78 : decode cX2_layGroup 78 = .ok (.return_, 1) := by decide +kernel
theorem dX2_spillPart_0 : decode cX2_spillPart 0 = .ok (.aload_n 0, 1) := by decide +kernel
theorem dX2_spillPart_1 : decode cX2_spillPart 1 = .ok (.getfield 20, 3) := by decide +kernel
theorem dX2_spillPart_4 : decode cX2_spillPart 4 = .ok (.iload_n 1, 1) := by decide +kernel
theorem dX2_spillPart_5 : decode cX2_spillPart 5 = .ok (.bipush 6, 2) := by decide +kernel
theorem dX2_spillPart_7 : decode cX2_spillPart 7 = .ok (.invokevirtual 82, 3) := by decide +kernel
theorem dX2_spillPart_10 : decode cX2_spillPart 10 = .ok (.istore_n 3, 1) := by decide +kernel
theorem dX2_spillPart_11 : decode cX2_spillPart 11 = .ok (.iconst 0, 1) := by decide +kernel
theorem dX2_spillPart_12 : decode cX2_spillPart 12 = .ok (.istore 4, 2) := by decide +kernel
theorem dX2_spillPart_14 : decode cX2_spillPart 14 = .ok (.iconst 0, 1) := by decide +kernel
theorem dX2_spillPart_15 : decode cX2_spillPart 15 = .ok (.istore 5, 2) := by decide +kernel
theorem dX2_spillPart_17 : decode cX2_spillPart 17 = .ok (.iload 5, 2) := by decide +kernel
theorem dX2_spillPart_19 : decode cX2_spillPart 19 = .ok (.aload_n 0, 1) := by decide +kernel
theorem dX2_spillPart_20 : decode cX2_spillPart 20 = .ok (.getfield 33, 3) := by decide +kernel
theorem dX2_spillPart_23 : decode cX2_spillPart 23 = .ok (.invokevirtual 64, 3) := by decide +kernel
theorem dX2_spillPart_26 : decode cX2_spillPart 26 = .ok (.if_icmp .ge 60, 3) := by decide +kernel
theorem dX2_spillPart_29 : decode cX2_spillPart 29 = .ok (.aload_n 0, 1) := by decide +kernel
theorem dX2_spillPart_30 : decode cX2_spillPart 30 = .ok (.getfield 33, 3) := by decide +kernel
theorem dX2_spillPart_33 : decode cX2_spillPart 33 = .ok (.iload 5, 2) := by decide +kernel
theorem dX2_spillPart_35 : decode cX2_spillPart 35 = .ok (.iconst 0, 1) := by decide +kernel
theorem dX2_spillPart_36 : decode cX2_spillPart 36 = .ok (.invokevirtual 82, 3) := by decide +kernel
theorem dX2_spillPart_39 : decode cX2_spillPart 39 = .ok (.istore 6, 2) := by decide +kernel
theorem dX2_spillPart_41 : decode cX2_spillPart 41 = .ok (.aload_n 0, 1) := by decide +kernel
theorem dX2_spillPart_42 : decode cX2_spillPart 42 = .ok (.iload 6, 2) := by decide +kernel
theorem dX2_spillPart_44 : decode cX2_spillPart 44 = .ok (.iload_n 3, 1) := by decide +kernel
theorem dX2_spillPart_45 : decode cX2_spillPart 45 = .ok (.invokevirtual 119, 3) := by decide +kernel
theorem dX2_spillPart_48 : decode cX2_spillPart 48 = .ok (.iload_n 2, 1) := by decide +kernel
theorem dX2_spillPart_49 : decode cX2_spillPart 49 = .ok (.if_icmp .ne 16, 3) := by decide +kernel
theorem dX2_spillPart_52 : decode cX2_spillPart 52 = .ok (.aload_n 0, 1) := by decide +kernel
theorem dX2_spillPart_53 : decode cX2_spillPart 53 = .ok (.getfield 39, 3) := by decide +kernel
theorem dX2_spillPart_56 : decode cX2_spillPart 56 = .ok (.iload 6, 2) := by decide +kernel
theorem dX2_spillPart_58 : decode cX2_spillPart 58 = .ok (.invokevirtual 90, 3) := by decide +kernel
theorem dX2_spillPart_61 : decode cX2_spillPart 61 = .ok (.pop, 1) := by decide +kernel
theorem dX2_spillPart_62 : decode cX2_spillPart 62 = .ok (.goto 18, 3) := by decide +kernel
theorem dX2_spillPart_65 : decode cX2_spillPart 65 = .ok (.aload_n 0, 1) := by decide +kernel
theorem dX2_spillPart_66 : decode cX2_spillPart 66 = .ok (.getfield 33, 3) := by decide +kernel
theorem dX2_spillPart_69 : decode cX2_spillPart 69 = .ok (.iload 4, 2) := by decide +kernel
theorem dX2_spillPart_71 : decode cX2_spillPart 71 = .ok (.iconst 0, 1) := by decide +kernel
theorem dX2_spillPart_72 : decode cX2_spillPart 72 = .ok (.iload 6, 2) := by decide +kernel
theorem dX2_spillPart_74 : decode cX2_spillPart 74 = .ok (.invokevirtual 93, 3) := by decide +kernel
theorem dX2_spillPart_77 : decode cX2_spillPart 77 = .ok (.iinc 4 1, 3) := by decide +kernel
theorem dX2_spillPart_80 : decode cX2_spillPart 80 = .ok (.iinc 5 1, 3) := by decide +kernel
theorem dX2_spillPart_83 : decode cX2_spillPart 83 = .ok (.goto (-66), 3) := by decide +kernel
theorem dX2_spillPart_86 : decode cX2_spillPart 86 = .ok (.aload_n 0, 1) := by decide +kernel
theorem dX2_spillPart_87 : decode cX2_spillPart 87 = .ok (.getfield 33, 3) := by decide +kernel
theorem dX2_spillPart_90 : decode cX2_spillPart 90 = .ok (.invokevirtual 64, 3) := by decide +kernel
theorem dX2_spillPart_93 : decode cX2_spillPart 93 = .ok (.iload 4, 2) := by decide +kernel
theorem dX2_spillPart_95 : decode cX2_spillPart 95 = .ok (.isub, 1) := by decide +kernel
theorem dX2_spillPart_96 : decode cX2_spillPart 96 = .ok (.istore 5, 2) := by decide +kernel
theorem dX2_spillPart_98 : decode cX2_spillPart 98 = .ok (.aload_n 0, 1) := by decide +kernel
theorem dX2_spillPart_99 : decode cX2_spillPart 99 = .ok (.getfield 33, 3) := by decide +kernel
theorem dX2_spillPart_102 : decode cX2_spillPart 102 = .ok (.iload 4, 2) := by decide +kernel
theorem dX2_spillPart_104 : decode cX2_spillPart 104 = .ok (.invokevirtual 55, 3) := by decide +kernel
theorem dX2_spillPart_107 : decode cX2_spillPart 107 = .ok (.aload_n 0, 1) := by decide +kernel
theorem dX2_spillPart_108 : decode cX2_spillPart 108 = .ok (.getfield 24, 3) := by decide +kernel
theorem dX2_spillPart_111 : decode cX2_spillPart 111 = .ok (.iload_n 3, 1) := by decide +kernel
theorem dX2_spillPart_112 : decode cX2_spillPart 112 = .ok (.invokevirtual 90, 3) := by decide +kernel
theorem dX2_spillPart_115 : decode cX2_spillPart 115 = .ok (.istore 6, 2) := by decide +kernel
theorem dX2_spillPart_117 : decode cX2_spillPart 117 = .ok (.aload_n 0, 1) := by decide +kernel
theorem dX2_spillPart_118 : decode cX2_spillPart 118 = .ok (.getfield 24, 3) := by decide +kernel
theorem dX2_spillPart_121 : decode cX2_spillPart 121 = .ok (.iload 6, 2) := by decide +kernel
theorem dX2_spillPart_123 : decode cX2_spillPart 123 = .ok (.iconst 1, 1) := by decide +kernel
theorem dX2_spillPart_124 : decode cX2_spillPart 124 = .ok (.aload_n 0, 1) := by decide +kernel
theorem dX2_spillPart_125 : decode cX2_spillPart 125 = .ok (.getfield 20, 3) := by decide +kernel
theorem dX2_spillPart_128 : decode cX2_spillPart 128 = .ok (.iload_n 1, 1) := by decide +kernel
theorem dX2_spillPart_129 : decode cX2_spillPart 129 = .ok (.bipush 7, 2) := by decide +kernel
theorem dX2_spillPart_131 : decode cX2_spillPart 131 = .ok (.invokevirtual 82, 3) := by decide +kernel
theorem dX2_spillPart_134 : decode cX2_spillPart 134 = .ok (.invokevirtual 93, 3) := by decide +kernel
theorem dX2_spillPart_137 : decode cX2_spillPart 137 = .ok (.aload_n 0, 1) := by decide +kernel
theorem dX2_spillPart_138 : decode cX2_spillPart 138 = .ok (.getfield 24, 3) := by decide +kernel
theorem dX2_spillPart_141 : decode cX2_spillPart 141 = .ok (.iload 6, 2) := by decide +kernel
theorem dX2_spillPart_143 : decode cX2_spillPart 143 = .ok (.iconst 2, 1) := by decide +kernel
theorem dX2_spillPart_144 : decode cX2_spillPart 144 = .ok (.iload_n 2, 1) := by decide +kernel
theorem dX2_spillPart_145 : decode cX2_spillPart 145 = .ok (.invokevirtual 93, 3) := by decide +kernel
theorem dX2_spillPart_148 : decode cX2_spillPart 148 = .ok (.aload_n 0, 1) := by decide +kernel
theorem dX2_spillPart_149 : decode cX2_spillPart 149 = .ok (.getfield 24, 3) := by decide +kernel
theorem dX2_spillPart_152 : decode cX2_spillPart 152 = .ok (.iload 6, 2) := by decide +kernel
theorem dX2_spillPart_154 : decode cX2_spillPart 154 = .ok (.iconst 3, 1) := by decide +kernel
theorem dX2_spillPart_155 : decode cX2_spillPart 155 = .ok (.iload 5, 2) := by decide +kernel
theorem dX2_spillPart_157 : decode cX2_spillPart 157 = .ok (.invokevirtual 93, 3) := by decide +kernel
theorem dX2_spillPart_160 : decode cX2_spillPart 160 = .ok (.aload_n 0, 1) := by decide +kernel
theorem dX2_spillPart_161 : decode cX2_spillPart 161 = .ok (.getfield 24, 3) := by decide +kernel
theorem dX2_spillPart_164 : decode cX2_spillPart 164 = .ok (.iload 6, 2) := by decide +kernel
theorem dX2_spillPart_166 : decode cX2_spillPart 166 = .ok (.iconst 4, 1) := by decide +kernel
theorem dX2_spillPart_167 : decode cX2_spillPart 167 = .ok (.iload 5, 2) := by decide +kernel
theorem dX2_spillPart_169 : decode cX2_spillPart 169 = .ok (.invokevirtual 93, 3) := by decide +kernel
theorem dX2_spillPart_172 : decode cX2_spillPart 172 = .ok (.aload_n 0, 1) := by decide +kernel
theorem dX2_spillPart_173 : decode cX2_spillPart 173 = .ok (.getfield 36, 3) := by decide +kernel
theorem dX2_spillPart_176 : decode cX2_spillPart 176 = .ok (.iload_n 2, 1) := by decide +kernel
theorem dX2_spillPart_177 : decode cX2_spillPart 177 = .ok (.iconst 0, 1) := by decide +kernel
theorem dX2_spillPart_178 : decode cX2_spillPart 178 = .ok (.iconst 0, 1) := by decide +kernel
theorem dX2_spillPart_179 : decode cX2_spillPart 179 = .ok (.invokevirtual 93, 3) := by decide +kernel
theorem dX2_spillPart_182 : decode cX2_spillPart 182 = .ok (.aload_n 0, 1) := by decide +kernel
theorem dX2_spillPart_183 : decode cX2_spillPart 183 = .ok (.getfield 36, 3) := by decide +kernel
theorem dX2_spillPart_186 : decode cX2_spillPart 186 = .ok (.iload_n 2, 1) := by decide +kernel
theorem dX2_spillPart_187 : decode cX2_spillPart 187 = .ok (.iconst 1, 1) := by decide +kernel
theorem dX2_spillPart_188 : decode cX2_spillPart 188 = .ok (.iload 6, 2) := by decide +kernel
theorem dX2_spillPart_190 : decode cX2_spillPart 190 = .ok (.invokevirtual 93, 3) := by decide +kernel
theorem dX2_spillPart_193 : decode cX2_spillPart 193 = .ok (.aload_n 0, 1) := by decide +kernel
theorem dX2_spillPart_194 : decode cX2_spillPart 194 = .ok (.getfield 20, 3) := by decide +kernel
theorem dX2_spillPart_197 : decode cX2_spillPart 197 = .ok (.iload_n 1, 1) := by decide +kernel
theorem dX2_spillPart_198 : decode cX2_spillPart 198 = .ok (.iconst 2, 1) := by decide +kernel
theorem dX2_spillPart_199 : decode cX2_spillPart 199 = .ok (.iconst 1, 1) := by decide +kernel
theorem dX2_spillPart_200 : decode cX2_spillPart 200 = .ok (.iload_n 2, 1) := by decide +kernel
theorem dX2_spillPart_201 : decode cX2_spillPart 201 = .ok (.ishl, 1) := by decide +kernel
theorem dX2_spillPart_202 : decode cX2_spillPart 202 = .ok (.invokevirtual 130, 3) := by decide +kernel
theorem dX2_spillPart_205 : decode cX2_spillPart 205 = .ok (.aload_n 0, 1) := by decide +kernel
theorem dX2_spillPart_206 : decode cX2_spillPart 206 = .ok (.getfield 20, 3) := by decide +kernel
theorem dX2_spillPart_209 : decode cX2_spillPart 209 = .ok (.iload_n 1, 1) := by decide +kernel
theorem dX2_spillPart_210 : decode cX2_spillPart 210 = .ok (.iconst 3, 1) := by decide +kernel
theorem dX2_spillPart_211 : decode cX2_spillPart 211 = .ok (.iload 5, 2) := by decide +kernel
theorem dX2_spillPart_213 : decode cX2_spillPart 213 = .ok (.invokevirtual 130, 3) := by decide +kernel
theorem dX2_spillPart_216 : decode cX2_spillPart 216 = .ok (.return_, 1) := by decide +kernel
theorem dX2_finishMemory_0 : decode cX2_finishMemory 0 = .ok (.aload_n 0, 1) := by decide +kernel
theorem dX2_finishMemory_1 : decode cX2_finishMemory 1 = .ok (.getfield 20, 3) := by decide +kernel
theorem dX2_finishMemory_4 : decode cX2_finishMemory 4 = .ok (.iload_n 1, 1) := by decide +kernel
theorem dX2_finishMemory_5 : decode cX2_finishMemory 5 = .ok (.iconst 1, 1) := by decide +kernel
theorem dX2_finishMemory_6 : decode cX2_finishMemory 6 = .ok (.aload_n 0, 1) := by decide +kernel
theorem dX2_finishMemory_7 : decode cX2_finishMemory 7 = .ok (.getfield 33, 3) := by decide +kernel
theorem dX2_finishMemory_10 : decode cX2_finishMemory 10 = .ok (.invokevirtual 64, 3) := by decide +kernel
theorem dX2_finishMemory_13 : decode cX2_finishMemory 13 = .ok (.invokevirtual 93, 3) := by decide +kernel
theorem dX2_finishMemory_16 : decode cX2_finishMemory 16 = .ok (.iconst 0, 1) := by decide +kernel
theorem dX2_finishMemory_17 : decode cX2_finishMemory 17 = .ok (.istore 4, 2) := by decide +kernel
theorem dX2_finishMemory_19 : decode cX2_finishMemory 19 = .ok (.iload 4, 2) := by decide +kernel
theorem dX2_finishMemory_21 : decode cX2_finishMemory 21 = .ok (.aload_n 0, 1) := by decide +kernel
theorem dX2_finishMemory_22 : decode cX2_finishMemory 22 = .ok (.getfield 33, 3) := by decide +kernel
theorem dX2_finishMemory_25 : decode cX2_finishMemory 25 = .ok (.invokevirtual 64, 3) := by decide +kernel
theorem dX2_finishMemory_28 : decode cX2_finishMemory 28 = .ok (.if_icmp .ge 62, 3) := by decide +kernel
theorem dX2_finishMemory_31 : decode cX2_finishMemory 31 = .ok (.aload_n 0, 1) := by decide +kernel
theorem dX2_finishMemory_32 : decode cX2_finishMemory 32 = .ok (.getfield 33, 3) := by decide +kernel
theorem dX2_finishMemory_35 : decode cX2_finishMemory 35 = .ok (.iload 4, 2) := by decide +kernel
theorem dX2_finishMemory_37 : decode cX2_finishMemory 37 = .ok (.iconst 0, 1) := by decide +kernel
theorem dX2_finishMemory_38 : decode cX2_finishMemory 38 = .ok (.invokevirtual 82, 3) := by decide +kernel
theorem dX2_finishMemory_41 : decode cX2_finishMemory 41 = .ok (.istore 5, 2) := by decide +kernel
theorem dX2_finishMemory_43 : decode cX2_finishMemory 43 = .ok (.aload_n 0, 1) := by decide +kernel
theorem dX2_finishMemory_44 : decode cX2_finishMemory 44 = .ok (.getfield 27, 3) := by decide +kernel
theorem dX2_finishMemory_47 : decode cX2_finishMemory 47 = .ok (.iload 5, 2) := by decide +kernel
theorem dX2_finishMemory_49 : decode cX2_finishMemory 49 = .ok (.iconst 0, 1) := by decide +kernel
theorem dX2_finishMemory_50 : decode cX2_finishMemory 50 = .ok (.iload_n 2, 1) := by decide +kernel
theorem dX2_finishMemory_51 : decode cX2_finishMemory 51 = .ok (.invokevirtual 93, 3) := by decide +kernel
theorem dX2_finishMemory_54 : decode cX2_finishMemory 54 = .ok (.aload_n 0, 1) := by decide +kernel
theorem dX2_finishMemory_55 : decode cX2_finishMemory 55 = .ok (.getfield 27, 3) := by decide +kernel
theorem dX2_finishMemory_58 : decode cX2_finishMemory 58 = .ok (.iload 5, 2) := by decide +kernel
theorem dX2_finishMemory_60 : decode cX2_finishMemory 60 = .ok (.iconst 1, 1) := by decide +kernel
theorem dX2_finishMemory_61 : decode cX2_finishMemory 61 = .ok (.iload_n 3, 1) := by decide +kernel
theorem dX2_finishMemory_62 : decode cX2_finishMemory 62 = .ok (.invokevirtual 93, 3) := by decide +kernel
theorem dX2_finishMemory_65 : decode cX2_finishMemory 65 = .ok (.aload_n 0, 1) := by decide +kernel
theorem dX2_finishMemory_66 : decode cX2_finishMemory 66 = .ok (.getfield 27, 3) := by decide +kernel
theorem dX2_finishMemory_69 : decode cX2_finishMemory 69 = .ok (.iload 5, 2) := by decide +kernel
theorem dX2_finishMemory_71 : decode cX2_finishMemory 71 = .ok (.iconst 2, 1) := by decide +kernel
theorem dX2_finishMemory_72 : decode cX2_finishMemory 72 = .ok (.aload_n 0, 1) := by decide +kernel
theorem dX2_finishMemory_73 : decode cX2_finishMemory 73 = .ok (.getfield 30, 3) := by decide +kernel
theorem dX2_finishMemory_76 : decode cX2_finishMemory 76 = .ok (.iload 5, 2) := by decide +kernel
theorem dX2_finishMemory_78 : decode cX2_finishMemory 78 = .ok (.invokevirtual 90, 3) := by decide +kernel
theorem dX2_finishMemory_81 : decode cX2_finishMemory 81 = .ok (.invokevirtual 93, 3) := by decide +kernel
theorem dX2_finishMemory_84 : decode cX2_finishMemory 84 = .ok (.iinc 4 1, 3) := by decide +kernel
theorem dX2_finishMemory_87 : decode cX2_finishMemory 87 = .ok (.goto (-68), 3) := by decide +kernel
theorem dX2_finishMemory_90 : decode cX2_finishMemory 90 = .ok (.aload_n 0, 1) := by decide +kernel
theorem dX2_finishMemory_91 : decode cX2_finishMemory 91 = .ok (.getfield 33, 3) := by decide +kernel
theorem dX2_finishMemory_94 : decode cX2_finishMemory 94 = .ok (.iconst 0, 1) := by decide +kernel
theorem dX2_finishMemory_95 : decode cX2_finishMemory 95 = .ok (.invokevirtual 55, 3) := by decide +kernel
theorem dX2_finishMemory_98 : decode cX2_finishMemory 98 = .ok (.return_, 1) := by decide +kernel
theorem dX2_fullestPart_0 : decode cX2_fullestPart 0 = .ok (.iconst 0, 1) := by decide +kernel
theorem dX2_fullestPart_1 : decode cX2_fullestPart 1 = .ok (.istore_n 1, 1) := by decide +kernel
theorem dX2_fullestPart_2 : decode cX2_fullestPart 2 = .ok (.iconst 1, 1) := by decide +kernel
theorem dX2_fullestPart_3 : decode cX2_fullestPart 3 = .ok (.istore_n 2, 1) := by decide +kernel
theorem dX2_fullestPart_4 : decode cX2_fullestPart 4 = .ok (.iload_n 2, 1) := by decide +kernel
theorem dX2_fullestPart_5 : decode cX2_fullestPart 5 = .ok (.aload_n 0, 1) := by decide +kernel
theorem dX2_fullestPart_6 : decode cX2_fullestPart 6 = .ok (.getfield 36, 3) := by decide +kernel
theorem dX2_fullestPart_9 : decode cX2_fullestPart 9 = .ok (.invokevirtual 64, 3) := by decide +kernel
theorem dX2_fullestPart_12 : decode cX2_fullestPart 12 = .ok (.if_icmp .ge 32, 3) := by decide +kernel
theorem dX2_fullestPart_15 : decode cX2_fullestPart 15 = .ok (.aload_n 0, 1) := by decide +kernel
theorem dX2_fullestPart_16 : decode cX2_fullestPart 16 = .ok (.getfield 36, 3) := by decide +kernel
theorem dX2_fullestPart_19 : decode cX2_fullestPart 19 = .ok (.iload_n 2, 1) := by decide +kernel
theorem dX2_fullestPart_20 : decode cX2_fullestPart 20 = .ok (.iconst 0, 1) := by decide +kernel
theorem dX2_fullestPart_21 : decode cX2_fullestPart 21 = .ok (.invokevirtual 82, 3) := by decide +kernel
theorem dX2_fullestPart_24 : decode cX2_fullestPart 24 = .ok (.aload_n 0, 1) := by decide +kernel
theorem dX2_fullestPart_25 : decode cX2_fullestPart 25 = .ok (.getfield 36, 3) := by decide +kernel
theorem dX2_fullestPart_28 : decode cX2_fullestPart 28 = .ok (.iload_n 1, 1) := by decide +kernel
theorem dX2_fullestPart_29 : decode cX2_fullestPart 29 = .ok (.iconst 0, 1) := by decide +kernel
theorem dX2_fullestPart_30 : decode cX2_fullestPart 30 = .ok (.invokevirtual 82, 3) := by decide +kernel
theorem dX2_fullestPart_33 : decode cX2_fullestPart 33 = .ok (.if_icmp .le 5, 3) := by decide +kernel
theorem dX2_fullestPart_36 : decode cX2_fullestPart 36 = .ok (.iload_n 2, 1) := by decide +kernel
theorem dX2_fullestPart_37 : decode cX2_fullestPart 37 = .ok (.istore_n 1, 1) := by decide +kernel
theorem dX2_fullestPart_38 : decode cX2_fullestPart 38 = .ok (.iinc 2 1, 3) := by decide +kernel
theorem dX2_fullestPart_41 : decode cX2_fullestPart 41 = .ok (.goto (-37), 3) := by decide +kernel
theorem dX2_fullestPart_44 : decode cX2_fullestPart 44 = .ok (.iload_n 1, 1) := by decide +kernel
theorem dX2_fullestPart_45 : decode cX2_fullestPart 45 = .ok (.ireturn, 1) := by decide +kernel
theorem dX2_isSpilled_0 : decode cX2_isSpilled 0 = .ok (.aload_n 0, 1) := by decide +kernel
theorem dX2_isSpilled_1 : decode cX2_isSpilled 1 = .ok (.getfield 20, 3) := by decide +kernel
theorem dX2_isSpilled_4 : decode cX2_isSpilled 4 = .ok (.iload_n 1, 1) := by decide +kernel
theorem dX2_isSpilled_5 : decode cX2_isSpilled 5 = .ok (.iconst 2, 1) := by decide +kernel
theorem dX2_isSpilled_6 : decode cX2_isSpilled 6 = .ok (.invokevirtual 82, 3) := by decide +kernel
theorem dX2_isSpilled_9 : decode cX2_isSpilled 9 = .ok (.iload_n 2, 1) := by decide +kernel
theorem dX2_isSpilled_10 : decode cX2_isSpilled 10 = .ok (.ishr, 1) := by decide +kernel
theorem dX2_isSpilled_11 : decode cX2_isSpilled 11 = .ok (.iconst 1, 1) := by decide +kernel
theorem dX2_isSpilled_12 : decode cX2_isSpilled 12 = .ok (.iand, 1) := by decide +kernel
theorem dX2_isSpilled_13 : decode cX2_isSpilled 13 = .ok (.iconst 1, 1) := by decide +kernel
theorem dX2_isSpilled_14 : decode cX2_isSpilled 14 = .ok (.if_icmp .ne 7, 3) := by decide +kernel
theorem dX2_isSpilled_17 : decode cX2_isSpilled 17 = .ok (.iconst 1, 1) := by decide +kernel
theorem dX2_isSpilled_18 : decode cX2_isSpilled 18 = .ok (.goto 4, 3) := by decide +kernel
theorem dX2_isSpilled_21 : decode cX2_isSpilled 21 = .ok (.iconst 0, 1) := by decide +kernel
theorem dX2_isSpilled_22 : decode cX2_isSpilled 22 = .ok (.ireturn, 1) := by decide +kernel
theorem dX2_isHeld_0 : decode cX2_isHeld 0 = .ok (.aload_n 0, 1) := by decide +kernel
theorem dX2_isHeld_1 : decode cX2_isHeld 1 = .ok (.getfield 33, 3) := by decide +kernel
theorem dX2_isHeld_4 : decode cX2_isHeld 4 = .ok (.iload_n 1, 1) := by decide +kernel
theorem dX2_isHeld_5 : decode cX2_isHeld 5 = .ok (.invokevirtual 136, 3) := by decide +kernel
theorem dX2_isHeld_8 : decode cX2_isHeld 8 = .ok (.istore_n 2, 1) := by decide +kernel
theorem dX2_isHeld_9 : decode cX2_isHeld 9 = .ok (.iload_n 2, 1) := by decide +kernel
theorem dX2_isHeld_10 : decode cX2_isHeld 10 = .ok (.aload_n 0, 1) := by decide +kernel
theorem dX2_isHeld_11 : decode cX2_isHeld 11 = .ok (.getfield 33, 3) := by decide +kernel
theorem dX2_isHeld_14 : decode cX2_isHeld 14 = .ok (.invokevirtual 64, 3) := by decide +kernel
theorem dX2_isHeld_17 : decode cX2_isHeld 17 = .ok (.if_icmp .ge 20, 3) := by decide +kernel
theorem dX2_isHeld_20 : decode cX2_isHeld 20 = .ok (.aload_n 0, 1) := by decide +kernel
theorem dX2_isHeld_21 : decode cX2_isHeld 21 = .ok (.getfield 33, 3) := by decide +kernel
theorem dX2_isHeld_24 : decode cX2_isHeld 24 = .ok (.iload_n 2, 1) := by decide +kernel
theorem dX2_isHeld_25 : decode cX2_isHeld 25 = .ok (.iconst 0, 1) := by decide +kernel
theorem dX2_isHeld_26 : decode cX2_isHeld 26 = .ok (.invokevirtual 82, 3) := by decide +kernel
theorem dX2_isHeld_29 : decode cX2_isHeld 29 = .ok (.iload_n 1, 1) := by decide +kernel
theorem dX2_isHeld_30 : decode cX2_isHeld 30 = .ok (.if_icmp .ne 7, 3) := by decide +kernel
theorem dX2_isHeld_33 : decode cX2_isHeld 33 = .ok (.iconst 1, 1) := by decide +kernel
theorem dX2_isHeld_34 : decode cX2_isHeld 34 = .ok (.goto 4, 3) := by decide +kernel
theorem dX2_isHeld_37 : decode cX2_isHeld 37 = .ok (.iconst 0, 1) := by decide +kernel
theorem dX2_isHeld_38 : decode cX2_isHeld 38 = .ok (.ireturn, 1) := by decide +kernel
theorem dX2_prefixOf_0 : decode cX2_prefixOf 0 = .ok (.aload_n 0, 1) := by decide +kernel
theorem dX2_prefixOf_1 : decode cX2_prefixOf 1 = .ok (.getfield 9, 3) := by decide +kernel
theorem dX2_prefixOf_4 : decode cX2_prefixOf 4 = .ok (.getfield 59, 3) := by decide +kernel
theorem dX2_prefixOf_7 : decode cX2_prefixOf 7 = .ok (.iload_n 1, 1) := by decide +kernel
theorem dX2_prefixOf_8 : decode cX2_prefixOf 8 = .ok (.iconst 5, 1) := by decide +kernel
theorem dX2_prefixOf_9 : decode cX2_prefixOf 9 = .ok (.invokevirtual 82, 3) := by decide +kernel
theorem dX2_prefixOf_12 : decode cX2_prefixOf 12 = .ok (.bipush 16, 2) := by decide +kernel
theorem dX2_prefixOf_14 : decode cX2_prefixOf 14 = .ok (.iload_n 2, 1) := by decide +kernel
theorem dX2_prefixOf_15 : decode cX2_prefixOf 15 = .ok (.aload_n 0, 1) := by decide +kernel
theorem dX2_prefixOf_16 : decode cX2_prefixOf 16 = .ok (.getfield 46, 3) := by decide +kernel
theorem dX2_prefixOf_19 : decode cX2_prefixOf 19 = .ok (.imul, 1) := by decide +kernel
theorem dX2_prefixOf_20 : decode cX2_prefixOf 20 = .ok (.isub, 1) := by decide +kernel
theorem dX2_prefixOf_21 : decode cX2_prefixOf 21 = .ok (.ishr, 1) := by decide +kernel
theorem dX2_prefixOf_22 : decode cX2_prefixOf 22 = .ok (.ireturn, 1) := by decide +kernel
theorem dX2_partOf_0 : decode cX2_partOf 0 = .ok (.aload_n 0, 1) := by decide +kernel
theorem dX2_partOf_1 : decode cX2_partOf 1 = .ok (.getfield 9, 3) := by decide +kernel
theorem dX2_partOf_4 : decode cX2_partOf 4 = .ok (.getfield 59, 3) := by decide +kernel
theorem dX2_partOf_7 : decode cX2_partOf 7 = .ok (.iload_n 1, 1) := by decide +kernel
theorem dX2_partOf_8 : decode cX2_partOf 8 = .ok (.iconst 5, 1) := by decide +kernel
theorem dX2_partOf_9 : decode cX2_partOf 9 = .ok (.invokevirtual 82, 3) := by decide +kernel
theorem dX2_partOf_12 : decode cX2_partOf 12 = .ok (.bipush 16, 2) := by decide +kernel
theorem dX2_partOf_14 : decode cX2_partOf 14 = .ok (.iload_n 2, 1) := by decide +kernel
theorem dX2_partOf_15 : decode cX2_partOf 15 = .ok (.iconst 1, 1) := by decide +kernel
theorem dX2_partOf_16 : decode cX2_partOf 16 = .ok (.iadd, 1) := by decide +kernel
theorem dX2_partOf_17 : decode cX2_partOf 17 = .ok (.aload_n 0, 1) := by decide +kernel
theorem dX2_partOf_18 : decode cX2_partOf 18 = .ok (.getfield 46, 3) := by decide +kernel
theorem dX2_partOf_21 : decode cX2_partOf 21 = .ok (.imul, 1) := by decide +kernel
theorem dX2_partOf_22 : decode cX2_partOf 22 = .ok (.isub, 1) := by decide +kernel
theorem dX2_partOf_23 : decode cX2_partOf 23 = .ok (.ishr, 1) := by decide +kernel
theorem dX2_partOf_24 : decode cX2_partOf 24 = .ok (.istore_n 3, 1) := by decide +kernel
theorem dX2_partOf_25 : decode cX2_partOf 25 = .ok (.iload_n 3, 1) := by decide +kernel
theorem dX2_partOf_26 : decode cX2_partOf 26 = .ok (.iconst 1, 1) := by decide +kernel
theorem dX2_partOf_27 : decode cX2_partOf 27 = .ok (.aload_n 0, 1) := by decide +kernel
theorem dX2_partOf_28 : decode cX2_partOf 28 = .ok (.getfield 46, 3) := by decide +kernel
theorem dX2_partOf_31 : decode cX2_partOf 31 = .ok (.ishl, 1) := by decide +kernel
theorem dX2_partOf_32 : decode cX2_partOf 32 = .ok (.iconst 1, 1) := by decide +kernel
theorem dX2_partOf_33 : decode cX2_partOf 33 = .ok (.isub, 1) := by decide +kernel
theorem dX2_partOf_34 : decode cX2_partOf 34 = .ok (.iand, 1) := by decide +kernel
theorem dX2_partOf_35 : decode cX2_partOf 35 = .ok (.ireturn, 1) := by decide +kernel
theorem dX3_init_0 : decode cX3_init 0 = .ok (.aload_n 0, 1) := by decide +kernel
theorem dX3_init_1 : decode cX3_init 1 = .ok (.invokespecial 3, 3) := by decide +kernel
theorem dX3_init_4 : decode cX3_init 4 = .ok (.aload_n 0, 1) := by decide +kernel
theorem dX3_init_5 : decode cX3_init 5 = .ok (.new 9, 3) := by decide +kernel
theorem dX3_init_8 : decode cX3_init 8 = .ok (.dup, 1) := by decide +kernel
theorem dX3_init_9 : decode cX3_init 9 = .ok (.bipush 100, 2) := by decide +kernel
theorem dX3_init_11 : decode cX3_init 11 = .ok (.iconst 2, 1) := by decide +kernel
theorem dX3_init_12 : decode cX3_init 12 = .ok (.invokespecial 13, 3) := by decide +kernel
theorem dX3_init_15 : decode cX3_init 15 = .ok (.putfield 16, 3) := by decide +kernel
theorem dX3_init_18 : decode cX3_init 18 = .ok (.aload_n 0, 1) := by decide +kernel
theorem dX3_init_19 : decode cX3_init 19 = .ok (.new 9, 3) := by decide +kernel
theorem dX3_init_22 : decode cX3_init 22 = .ok (.dup, 1) := by decide +kernel
theorem dX3_init_23 : decode cX3_init 23 = .ok (.iconst 3, 1) := by decide +kernel
theorem dX3_init_24 : decode cX3_init 24 = .ok (.iconst 1, 1) := by decide +kernel
theorem dX3_init_25 : decode cX3_init 25 = .ok (.invokespecial 13, 3) := by decide +kernel
theorem dX3_init_28 : decode cX3_init 28 = .ok (.putfield 20, 3) := by decide +kernel
theorem dX3_init_31 : decode cX3_init 31 = .ok (.aload_n 0, 1) := by decide +kernel
theorem dX3_init_32 : decode cX3_init 32 = .ok (.getfield 20, 3) := by decide +kernel
theorem dX3_init_35 : decode cX3_init 35 = .ok (.iconst 3, 1) := by decide +kernel
theorem dX3_init_36 : decode cX3_init 36 = .ok (.invokevirtual 23, 3) := by decide +kernel
theorem dX3_init_39 : decode cX3_init 39 = .ok (.pop, 1) := by decide +kernel
theorem dX3_init_40 : decode cX3_init 40 = .ok (.aload_n 0, 1) := by decide +kernel
theorem dX3_init_41 : decode cX3_init 41 = .ok (.getfield 20, 3) := by decide +kernel
theorem dX3_init_44 : decode cX3_init 44 = .ok (.iconst 2, 1) := by decide +kernel
theorem dX3_init_45 : decode cX3_init 45 = .ok (.invokevirtual 23, 3) := by decide +kernel
theorem dX3_init_48 : decode cX3_init 48 = .ok (.pop, 1) := by decide +kernel
theorem dX3_init_49 : decode cX3_init 49 = .ok (.aload_n 0, 1) := by decide +kernel
theorem dX3_init_50 : decode cX3_init 50 = .ok (.getfield 20, 3) := by decide +kernel
theorem dX3_init_53 : decode cX3_init 53 = .ok (.ldc 27, 2) := by decide +kernel
theorem dX3_init_55 : decode cX3_init 55 = .ok (.invokevirtual 23, 3) := by decide +kernel
theorem dX3_init_58 : decode cX3_init 58 = .ok (.pop, 1) := by decide +kernel
theorem dX3_init_59 : decode cX3_init 59 = .ok (.return_, 1) := by decide +kernel
theorem dX3_setting_0 : decode cX3_setting 0 = .ok (.aload_n 0, 1) := by decide +kernel
theorem dX3_setting_1 : decode cX3_setting 1 = .ok (.getfield 20, 3) := by decide +kernel
theorem dX3_setting_4 : decode cX3_setting 4 = .ok (.iload_n 1, 1) := by decide +kernel
theorem dX3_setting_5 : decode cX3_setting 5 = .ok (.iconst 0, 1) := by decide +kernel
theorem dX3_setting_6 : decode cX3_setting 6 = .ok (.invokevirtual 28, 3) := by decide +kernel
theorem dX3_setting_9 : decode cX3_setting 9 = .ok (.ireturn, 1) := by decide +kernel
theorem dX3_keyOf_0 : decode cX3_keyOf 0 = .ok (.aload_n 0, 1) := by decide +kernel
theorem dX3_keyOf_1 : decode cX3_keyOf 1 = .ok (.getfield 16, 3) := by decide +kernel
theorem dX3_keyOf_4 : decode cX3_keyOf 4 = .ok (.iload_n 1, 1) := by decide +kernel
theorem dX3_keyOf_5 : decode cX3_keyOf 5 = .ok (.iconst 0, 1) := by decide +kernel
theorem dX3_keyOf_6 : decode cX3_keyOf 6 = .ok (.invokevirtual 28, 3) := by decide +kernel
theorem dX3_keyOf_9 : decode cX3_keyOf 9 = .ok (.ireturn, 1) := by decide +kernel
theorem dX3_valueOf_0 : decode cX3_valueOf 0 = .ok (.aload_n 0, 1) := by decide +kernel
theorem dX3_valueOf_1 : decode cX3_valueOf 1 = .ok (.getfield 16, 3) := by decide +kernel
theorem dX3_valueOf_4 : decode cX3_valueOf 4 = .ok (.iload_n 1, 1) := by decide +kernel
theorem dX3_valueOf_5 : decode cX3_valueOf 5 = .ok (.iconst 1, 1) := by decide +kernel
theorem dX3_valueOf_6 : decode cX3_valueOf 6 = .ok (.invokevirtual 28, 3) := by decide +kernel
theorem dX3_valueOf_9 : decode cX3_valueOf 9 = .ok (.ireturn, 1) := by decide +kernel
theorem dX3_hashOf_0 : decode cX3_hashOf 0 = .ok (.aload_n 0, 1) := by decide +kernel
theorem dX3_hashOf_1 : decode cX3_hashOf 1 = .ok (.iload_n 1, 1) := by decide +kernel
theorem dX3_hashOf_2 : decode cX3_hashOf 2 = .ok (.invokevirtual 32, 3) := by decide +kernel
theorem dX3_hashOf_5 : decode cX3_hashOf 5 = .ok (.aload_n 0, 1) := by decide +kernel
theorem dX3_hashOf_6 : decode cX3_hashOf 6 = .ok (.iconst 2, 1) := by decide +kernel
theorem dX3_hashOf_7 : decode cX3_hashOf 7 = .ok (.invokevirtual 35, 3) := by decide +kernel
theorem dX3_hashOf_10 : decode cX3_hashOf 10 = .ok (.imul, 1) := by decide +kernel
theorem dX3_hashOf_11 : decode cX3_hashOf 11 = .ok (.sipush 7919, 3) := by decide +kernel
theorem dX3_hashOf_14 : decode cX3_hashOf 14 = .ok (.iadd, 1) := by decide +kernel
theorem dX3_hashOf_15 : decode cX3_hashOf 15 = .ok (.ldc 38, 2) := by decide +kernel
theorem dX3_hashOf_17 : decode cX3_hashOf 17 = .ok (.iand, 1) := by decide +kernel
theorem dX3_hashOf_18 : decode cX3_hashOf 18 = .ok (.ireturn, 1) := by decide +kernel
theorem dX3_addRow_0 : decode cX3_addRow 0 = .ok (.aload_n 0, 1) := by decide +kernel
theorem dX3_addRow_1 : decode cX3_addRow 1 = .ok (.getfield 16, 3) := by decide +kernel
theorem dX3_addRow_4 : decode cX3_addRow 4 = .ok (.aload_n 0, 1) := by decide +kernel
theorem dX3_addRow_5 : decode cX3_addRow 5 = .ok (.getfield 16, 3) := by decide +kernel
theorem dX3_addRow_8 : decode cX3_addRow 8 = .ok (.iload_n 1, 1) := by decide +kernel
theorem dX3_addRow_9 : decode cX3_addRow 9 = .ok (.invokevirtual 23, 3) := by decide +kernel
theorem dX3_addRow_12 : decode cX3_addRow 12 = .ok (.iconst 1, 1) := by decide +kernel
theorem dX3_addRow_13 : decode cX3_addRow 13 = .ok (.iload_n 2, 1) := by decide +kernel
theorem dX3_addRow_14 : decode cX3_addRow 14 = .ok (.invokevirtual 39, 3) := by decide +kernel
theorem dX3_addRow_17 : decode cX3_addRow 17 = .ok (.return_, 1) := by decide +kernel
theorem dX3_copyFrom_0 : decode cX3_copyFrom 0 = .ok (.aload_n 0, 1) := by decide +kernel
theorem dX3_copyFrom_1 : decode cX3_copyFrom 1 = .ok (.getfield 16, 3) := by decide +kernel
theorem dX3_copyFrom_4 : decode cX3_copyFrom 4 = .ok (.aload_n 1, 1) := by decide +kernel
theorem dX3_copyFrom_5 : decode cX3_copyFrom 5 = .ok (.getfield 16, 3) := by decide +kernel
theorem dX3_copyFrom_8 : decode cX3_copyFrom 8 = .ok (.invokevirtual 43, 3) := by decide +kernel
theorem dX3_copyFrom_11 : decode cX3_copyFrom 11 = .ok (.aload_n 0, 1) := by decide +kernel
theorem dX3_copyFrom_12 : decode cX3_copyFrom 12 = .ok (.getfield 20, 3) := by decide +kernel
theorem dX3_copyFrom_15 : decode cX3_copyFrom 15 = .ok (.aload_n 1, 1) := by decide +kernel
theorem dX3_copyFrom_16 : decode cX3_copyFrom 16 = .ok (.getfield 20, 3) := by decide +kernel
theorem dX3_copyFrom_19 : decode cX3_copyFrom 19 = .ok (.invokevirtual 43, 3) := by decide +kernel
theorem dX3_copyFrom_22 : decode cX3_copyFrom 22 = .ok (.return_, 1) := by decide +kernel
theorem dX4_init_0 : decode cX4_init 0 = .ok (.aload_n 0, 1) := by decide +kernel
theorem dX4_init_1 : decode cX4_init 1 = .ok (.invokespecial 1, 3) := by decide +kernel
theorem dX4_init_4 : decode cX4_init 4 = .ok (.aload_n 0, 1) := by decide +kernel
theorem dX4_init_5 : decode cX4_init 5 = .ok (.iload_n 1, 1) := by decide +kernel
theorem dX4_init_6 : decode cX4_init 6 = .ok (.iconst 0, 1) := by decide +kernel
theorem dX4_init_7 : decode cX4_init 7 = .ok (.invokestatic 7, 3) := by decide +kernel
theorem dX4_init_10 : decode cX4_init 10 = .ok (.putfield 13, 3) := by decide +kernel
theorem dX4_init_13 : decode cX4_init 13 = .ok (.aload_n 0, 1) := by decide +kernel
theorem dX4_init_14 : decode cX4_init 14 = .ok (.iload_n 2, 1) := by decide +kernel
theorem dX4_init_15 : decode cX4_init 15 = .ok (.iconst 1, 1) := by decide +kernel
theorem dX4_init_16 : decode cX4_init 16 = .ok (.invokestatic 7, 3) := by decide +kernel
theorem dX4_init_19 : decode cX4_init 19 = .ok (.putfield 19, 3) := by decide +kernel
theorem dX4_init_22 : decode cX4_init 22 = .ok (.aload_n 0, 1) := by decide +kernel
theorem dX4_init_23 : decode cX4_init 23 = .ok (.aload_n 0, 1) := by decide +kernel
theorem dX4_init_24 : decode cX4_init 24 = .ok (.getfield 13, 3) := by decide +kernel
theorem dX4_init_27 : decode cX4_init 27 = .ok (.aload_n 0, 1) := by decide +kernel
theorem dX4_init_28 : decode cX4_init 28 = .ok (.getfield 19, 3) := by decide +kernel
theorem dX4_init_31 : decode cX4_init 31 = .ok (.imul, 1) := by decide +kernel
theorem dX4_init_32 : decode cX4_init 32 = .ok (.newarray .int, 2) := by decide +kernel
theorem dX4_init_34 : decode cX4_init 34 = .ok (.putfield 22, 3) := by decide +kernel
theorem dX4_init_37 : decode cX4_init 37 = .ok (.return_, 1) := by decide +kernel
theorem dX4_length_0 : decode cX4_length 0 = .ok (.aload_n 0, 1) := by decide +kernel
theorem dX4_length_1 : decode cX4_length 1 = .ok (.getfield 26, 3) := by decide +kernel
theorem dX4_length_4 : decode cX4_length 4 = .ok (.ireturn, 1) := by decide +kernel
theorem dX4_at_0 : decode cX4_at 0 = .ok (.iload_n 1, 1) := by decide +kernel
theorem dX4_at_1 : decode cX4_at 1 = .ok (.ifCond .lt 23, 3) := by decide +kernel
theorem dX4_at_4 : decode cX4_at 4 = .ok (.iload_n 1, 1) := by decide +kernel
theorem dX4_at_5 : decode cX4_at 5 = .ok (.aload_n 0, 1) := by decide +kernel
theorem dX4_at_6 : decode cX4_at 6 = .ok (.getfield 26, 3) := by decide +kernel
theorem dX4_at_9 : decode cX4_at 9 = .ok (.if_icmp .ge 15, 3) := by decide +kernel
theorem dX4_at_12 : decode cX4_at 12 = .ok (.iload_n 2, 1) := by decide +kernel
theorem dX4_at_13 : decode cX4_at 13 = .ok (.ifCond .lt 11, 3) := by decide +kernel
theorem dX4_at_16 : decode cX4_at 16 = .ok (.iload_n 2, 1) := by decide +kernel
theorem dX4_at_17 : decode cX4_at 17 = .ok (.aload_n 0, 1) := by decide +kernel
theorem dX4_at_18 : decode cX4_at 18 = .ok (.getfield 19, 3) := by decide +kernel
theorem dX4_at_21 : decode cX4_at 21 = .ok (.if_icmp .lt 5, 3) := by decide +kernel
theorem dX4_at_24 : decode cX4_at 24 = .ok (.iconst 0, 1) := by decide +kernel
theorem dX4_at_25 : decode cX4_at 25 = .ok (.ireturn, 1) := by decide +kernel
theorem dX4_at_26 : decode cX4_at 26 = .ok (.aload_n 0, 1) := by decide +kernel
theorem dX4_at_27 : decode cX4_at 27 = .ok (.getfield 22, 3) := by decide +kernel
theorem dX4_at_30 : decode cX4_at 30 = .ok (.iload_n 1, 1) := by decide +kernel
theorem dX4_at_31 : decode cX4_at 31 = .ok (.aload_n 0, 1) := by decide +kernel
theorem dX4_at_32 : decode cX4_at 32 = .ok (.getfield 19, 3) := by decide +kernel
theorem dX4_at_35 : decode cX4_at 35 = .ok (.imul, 1) := by decide +kernel
theorem dX4_at_36 : decode cX4_at 36 = .ok (.iload_n 2, 1) := by decide +kernel
theorem dX4_at_37 : decode cX4_at 37 = .ok (.iadd, 1) := by decide +kernel
theorem dX4_at_38 : decode cX4_at 38 = .ok (.iaload, 1) := by decide +kernel
theorem dX4_at_39 : decode cX4_at 39 = .ok (.ireturn, 1) := by decide +kernel
theorem dX4_put_0 : decode cX4_put 0 = .ok (.iload_n 1, 1) := by decide +kernel
theorem dX4_put_1 : decode cX4_put 1 = .ok (.ifCond .lt 37, 3) := by decide +kernel
theorem dX4_put_4 : decode cX4_put 4 = .ok (.iload_n 1, 1) := by decide +kernel
theorem dX4_put_5 : decode cX4_put 5 = .ok (.aload_n 0, 1) := by decide +kernel
theorem dX4_put_6 : decode cX4_put 6 = .ok (.getfield 26, 3) := by decide +kernel
theorem dX4_put_9 : decode cX4_put 9 = .ok (.if_icmp .ge 29, 3) := by decide +kernel
theorem dX4_put_12 : decode cX4_put 12 = .ok (.iload_n 2, 1) := by decide +kernel
theorem dX4_put_13 : decode cX4_put 13 = .ok (.ifCond .lt 25, 3) := by decide +kernel
theorem dX4_put_16 : decode cX4_put 16 = .ok (.iload_n 2, 1) := by decide +kernel
theorem dX4_put_17 : decode cX4_put 17 = .ok (.aload_n 0, 1) := by decide +kernel
theorem dX4_put_18 : decode cX4_put 18 = .ok (.getfield 19, 3) := by decide +kernel
theorem dX4_put_21 : decode cX4_put 21 = .ok (.if_icmp .ge 17, 3) := by decide +kernel
theorem dX4_put_24 : decode cX4_put 24 = .ok (.aload_n 0, 1) := by decide +kernel
theorem dX4_put_25 : decode cX4_put 25 = .ok (.getfield 22, 3) := by decide +kernel
theorem dX4_put_28 : decode cX4_put 28 = .ok (.iload_n 1, 1) := by decide +kernel
theorem dX4_put_29 : decode cX4_put 29 = .ok (.aload_n 0, 1) := by decide +kernel
theorem dX4_put_30 : decode cX4_put 30 = .ok (.getfield 19, 3) := by decide +kernel
theorem dX4_put_33 : decode cX4_put 33 = .ok (.imul, 1) := by decide +kernel
theorem dX4_put_34 : decode cX4_put 34 = .ok (.iload_n 2, 1) := by decide +kernel
theorem dX4_put_35 : decode cX4_put 35 = .ok (.iadd, 1) := by decide +kernel
theorem dX4_put_36 : decode cX4_put 36 = .ok (.iload_n 3, 1) := by decide +kernel
theorem dX4_put_37 : decode cX4_put 37 = .ok (.iastore, 1) := by decide +kernel
theorem dX4_put_38 : decode cX4_put 38 = .ok (.return_, 1) := by decide +kernel
theorem dX4_raise_0 : decode cX4_raise 0 = .ok (.iload_n 1, 1) := by decide +kernel
theorem dX4_raise_1 : decode cX4_raise 1 = .ok (.ifCond .lt 40, 3) := by decide +kernel
theorem dX4_raise_4 : decode cX4_raise 4 = .ok (.iload_n 1, 1) := by decide +kernel
theorem dX4_raise_5 : decode cX4_raise 5 = .ok (.aload_n 0, 1) := by decide +kernel
theorem dX4_raise_6 : decode cX4_raise 6 = .ok (.getfield 26, 3) := by decide +kernel
theorem dX4_raise_9 : decode cX4_raise 9 = .ok (.if_icmp .ge 32, 3) := by decide +kernel
theorem dX4_raise_12 : decode cX4_raise 12 = .ok (.iload_n 2, 1) := by decide +kernel
theorem dX4_raise_13 : decode cX4_raise 13 = .ok (.ifCond .lt 28, 3) := by decide +kernel
theorem dX4_raise_16 : decode cX4_raise 16 = .ok (.iload_n 2, 1) := by decide +kernel
theorem dX4_raise_17 : decode cX4_raise 17 = .ok (.aload_n 0, 1) := by decide +kernel
theorem dX4_raise_18 : decode cX4_raise 18 = .ok (.getfield 19, 3) := by decide +kernel
theorem dX4_raise_21 : decode cX4_raise 21 = .ok (.if_icmp .ge 20, 3) := by decide +kernel
theorem dX4_raise_24 : decode cX4_raise 24 = .ok (.aload_n 0, 1) := by decide +kernel
theorem dX4_raise_25 : decode cX4_raise 25 = .ok (.getfield 22, 3) := by decide +kernel
theorem dX4_raise_28 : decode cX4_raise 28 = .ok (.iload_n 1, 1) := by decide +kernel
theorem dX4_raise_29 : decode cX4_raise 29 = .ok (.aload_n 0, 1) := by decide +kernel
theorem dX4_raise_30 : decode cX4_raise 30 = .ok (.getfield 19, 3) := by decide +kernel
theorem dX4_raise_33 : decode cX4_raise 33 = .ok (.imul, 1) := by decide +kernel
theorem dX4_raise_34 : decode cX4_raise 34 = .ok (.iload_n 2, 1) := by decide +kernel
theorem dX4_raise_35 : decode cX4_raise 35 = .ok (.iadd, 1) := by decide +kernel
theorem dX4_raise_36 : decode cX4_raise 36 = .ok (.dup2, 1) := by decide +kernel
theorem dX4_raise_37 : decode cX4_raise 37 = .ok (.iaload, 1) := by decide +kernel
theorem dX4_raise_38 : decode cX4_raise 38 = .ok (.iload_n 3, 1) := by decide +kernel
theorem dX4_raise_39 : decode cX4_raise 39 = .ok (.iadd, 1) := by decide +kernel
theorem dX4_raise_40 : decode cX4_raise 40 = .ok (.iastore, 1) := by decide +kernel
theorem dX4_raise_41 : decode cX4_raise 41 = .ok (.return_, 1) := by decide +kernel
theorem dX4_append_0 : decode cX4_append 0 = .ok (.aload_n 0, 1) := by decide +kernel
theorem dX4_append_1 : decode cX4_append 1 = .ok (.getfield 26, 3) := by decide +kernel
theorem dX4_append_4 : decode cX4_append 4 = .ok (.aload_n 0, 1) := by decide +kernel
theorem dX4_append_5 : decode cX4_append 5 = .ok (.getfield 13, 3) := by decide +kernel
theorem dX4_append_8 : decode cX4_append 8 = .ok (.if_icmp .lt 5, 3) := by decide +kernel
theorem dX4_append_11 : decode cX4_append 11 = .ok (.iconst (-1), 1) := by decide +kernel
theorem dX4_append_12 : decode cX4_append 12 = .ok (.ireturn, 1) := by decide +kernel
theorem dX4_append_13 : decode cX4_append 13 = .ok (.aload_n 0, 1) := by decide +kernel
theorem dX4_append_14 : decode cX4_append 14 = .ok (.getfield 26, 3) := by decide +kernel
theorem dX4_append_17 : decode cX4_append 17 = .ok (.aload_n 0, 1) := by decide +kernel
theorem dX4_append_18 : decode cX4_append 18 = .ok (.getfield 19, 3) := by decide +kernel
theorem dX4_append_21 : decode cX4_append 21 = .ok (.imul, 1) := by decide +kernel
theorem dX4_append_22 : decode cX4_append 22 = .ok (.istore_n 2, 1) := by decide +kernel
theorem dX4_append_23 : decode cX4_append 23 = .ok (.aload_n 0, 1) := by decide +kernel
theorem dX4_append_24 : decode cX4_append 24 = .ok (.getfield 22, 3) := by decide +kernel
theorem dX4_append_27 : decode cX4_append 27 = .ok (.iload_n 2, 1) := by decide +kernel
theorem dX4_append_28 : decode cX4_append 28 = .ok (.iload_n 2, 1) := by decide +kernel
theorem dX4_append_29 : decode cX4_append 29 = .ok (.aload_n 0, 1) := by decide +kernel
theorem dX4_append_30 : decode cX4_append 30 = .ok (.getfield 19, 3) := by decide +kernel
theorem dX4_append_33 : decode cX4_append 33 = .ok (.iadd, 1) := by decide +kernel
theorem dX4_append_34 : decode cX4_append 34 = .ok (.iconst 0, 1) := by decide +kernel
theorem dX4_append_35 : decode cX4_append 35 = .ok (.invokestatic 29, 3) := by decide +kernel
theorem dX4_append_38 : decode cX4_append 38 = .ok (.aload_n 0, 1) := by decide +kernel
theorem dX4_append_39 : decode cX4_append 39 = .ok (.getfield 22, 3) := by decide +kernel
theorem dX4_append_42 : decode cX4_append 42 = .ok (.iload_n 2, 1) := by decide +kernel
theorem dX4_append_43 : decode cX4_append 43 = .ok (.iload_n 1, 1) := by decide +kernel
theorem dX4_append_44 : decode cX4_append 44 = .ok (.iastore, 1) := by decide +kernel
theorem dX4_append_45 : decode cX4_append 45 = .ok (.aload_n 0, 1) := by decide +kernel
theorem dX4_append_46 : decode cX4_append 46 = .ok (.dup, 1) := by decide +kernel
theorem dX4_append_47 : decode cX4_append 47 = .ok (.getfield 26, 3) := by decide +kernel
theorem dX4_append_50 : decode cX4_append 50 = .ok (.iconst 1, 1) := by decide +kernel
theorem dX4_append_51 : decode cX4_append 51 = .ok (.iadd, 1) := by decide +kernel
theorem dX4_append_52 : decode cX4_append 52 = .ok (.putfield 26, 3) := by decide +kernel
theorem dX4_append_55 : decode cX4_append 55 = .ok (.aload_n 0, 1) := by decide +kernel
theorem dX4_append_56 : decode cX4_append 56 = .ok (.getfield 26, 3) := by decide +kernel
theorem dX4_append_59 : decode cX4_append 59 = .ok (.iconst 1, 1) := by decide +kernel
theorem dX4_append_60 : decode cX4_append 60 = .ok (.isub, 1) := by decide +kernel
theorem dX4_append_61 : decode cX4_append 61 = .ok (.ireturn, 1) := by decide +kernel
theorem dX4_insert_0 : decode cX4_insert 0 = .ok (.iload_n 1, 1) := by decide +kernel
theorem dX4_insert_1 : decode cX4_insert 1 = .ok (.ifCond .lt 22, 3) := by decide +kernel
theorem dX4_insert_4 : decode cX4_insert 4 = .ok (.iload_n 1, 1) := by decide +kernel
theorem dX4_insert_5 : decode cX4_insert 5 = .ok (.aload_n 0, 1) := by decide +kernel
theorem dX4_insert_6 : decode cX4_insert 6 = .ok (.getfield 26, 3) := by decide +kernel
theorem dX4_insert_9 : decode cX4_insert 9 = .ok (.if_icmp .gt 14, 3) := by decide +kernel
theorem dX4_insert_12 : decode cX4_insert 12 = .ok (.aload_n 0, 1) := by decide +kernel
theorem dX4_insert_13 : decode cX4_insert 13 = .ok (.getfield 26, 3) := by decide +kernel
theorem dX4_insert_16 : decode cX4_insert 16 = .ok (.aload_n 0, 1) := by decide +kernel
theorem dX4_insert_17 : decode cX4_insert 17 = .ok (.getfield 13, 3) := by decide +kernel
theorem dX4_insert_20 : decode cX4_insert 20 = .ok (.if_icmp .lt 4, 3) := by decide +kernel
theorem dX4_insert_23 : decode cX4_insert 23 = .ok (.return_, 1) := by decide +kernel
theorem dX4_insert_24 : decode cX4_insert 24 = .ok (.iload_n 1, 1) := by decide +kernel
theorem dX4_insert_25 : decode cX4_insert 25 = .ok (.aload_n 0, 1) := by decide +kernel
theorem dX4_insert_26 : decode cX4_insert 26 = .ok (.getfield 19, 3) := by decide +kernel
theorem dX4_insert_29 : decode cX4_insert 29 = .ok (.imul, 1) := by decide +kernel
theorem dX4_insert_30 : decode cX4_insert 30 = .ok (.istore_n 3, 1) := by decide +kernel
theorem dX4_insert_31 : decode cX4_insert 31 = .ok (.aload_n 0, 1) := by decide +kernel
theorem dX4_insert_32 : decode cX4_insert 32 = .ok (.getfield 22, 3) := by decide +kernel
theorem dX4_insert_35 : decode cX4_insert 35 = .ok (.iload_n 3, 1) := by decide +kernel
theorem dX4_insert_36 : decode cX4_insert 36 = .ok (.aload_n 0, 1) := by decide +kernel
theorem dX4_insert_37 : decode cX4_insert 37 = .ok (.getfield 22, 3) := by decide +kernel
theorem dX4_insert_40 : decode cX4_insert 40 = .ok (.iload_n 3, 1) := by decide +kernel
theorem dX4_insert_41 : decode cX4_insert 41 = .ok (.aload_n 0, 1) := by decide +kernel
theorem dX4_insert_42 : decode cX4_insert 42 = .ok (.getfield 19, 3) := by decide +kernel
theorem dX4_insert_45 : decode cX4_insert 45 = .ok (.iadd, 1) := by decide +kernel
theorem dX4_insert_46 : decode cX4_insert 46 = .ok (.aload_n 0, 1) := by decide +kernel
theorem dX4_insert_47 : decode cX4_insert 47 = .ok (.getfield 26, 3) := by decide +kernel
theorem dX4_insert_50 : decode cX4_insert 50 = .ok (.iload_n 1, 1) := by decide +kernel
theorem dX4_insert_51 : decode cX4_insert 51 = .ok (.isub, 1) := by decide +kernel
theorem dX4_insert_52 : decode cX4_insert 52 = .ok (.aload_n 0, 1) := by decide +kernel
theorem dX4_insert_53 : decode cX4_insert 53 = .ok (.getfield 19, 3) := by decide +kernel
theorem dX4_insert_56 : decode cX4_insert 56 = .ok (.imul, 1) := by decide +kernel
theorem dX4_insert_57 : decode cX4_insert 57 = .ok (.invokestatic 35, 3) := by decide +kernel
theorem dX4_insert_60 : decode cX4_insert 60 = .ok (.aload_n 0, 1) := by decide +kernel
theorem dX4_insert_61 : decode cX4_insert 61 = .ok (.getfield 22, 3) := by decide +kernel
theorem dX4_insert_64 : decode cX4_insert 64 = .ok (.iload_n 3, 1) := by decide +kernel
theorem dX4_insert_65 : decode cX4_insert 65 = .ok (.iload_n 3, 1) := by decide +kernel
theorem dX4_insert_66 : decode cX4_insert 66 = .ok (.aload_n 0, 1) := by decide +kernel
theorem dX4_insert_67 : decode cX4_insert 67 = .ok (.getfield 19, 3) := by decide +kernel
theorem dX4_insert_70 : decode cX4_insert 70 = .ok (.iadd, 1) := by decide +kernel
theorem dX4_insert_71 : decode cX4_insert 71 = .ok (.iconst 0, 1) := by decide +kernel
theorem dX4_insert_72 : decode cX4_insert 72 = .ok (.invokestatic 29, 3) := by decide +kernel
theorem dX4_insert_75 : decode cX4_insert 75 = .ok (.aload_n 0, 1) := by decide +kernel
theorem dX4_insert_76 : decode cX4_insert 76 = .ok (.getfield 22, 3) := by decide +kernel
theorem dX4_insert_79 : decode cX4_insert 79 = .ok (.iload_n 3, 1) := by decide +kernel
theorem dX4_insert_80 : decode cX4_insert 80 = .ok (.iload_n 2, 1) := by decide +kernel
theorem dX4_insert_81 : decode cX4_insert 81 = .ok (.iastore, 1) := by decide +kernel
theorem dX4_insert_82 : decode cX4_insert 82 = .ok (.aload_n 0, 1) := by decide +kernel
theorem dX4_insert_83 : decode cX4_insert 83 = .ok (.dup, 1) := by decide +kernel
theorem dX4_insert_84 : decode cX4_insert 84 = .ok (.getfield 26, 3) := by decide +kernel
theorem dX4_insert_87 : decode cX4_insert 87 = .ok (.iconst 1, 1) := by decide +kernel
theorem dX4_insert_88 : decode cX4_insert 88 = .ok (.iadd, 1) := by decide +kernel
theorem dX4_insert_89 : decode cX4_insert 89 = .ok (.putfield 26, 3) := by decide +kernel
theorem dX4_insert_92 : decode cX4_insert 92 = .ok (.return_, 1) := by decide +kernel
theorem dX4_remove_0 : decode cX4_remove 0 = .ok (.iload_n 1, 1) := by decide +kernel
theorem dX4_remove_1 : decode cX4_remove 1 = .ok (.ifCond .lt 11, 3) := by decide +kernel
theorem dX4_remove_4 : decode cX4_remove 4 = .ok (.iload_n 1, 1) := by decide +kernel
theorem dX4_remove_5 : decode cX4_remove 5 = .ok (.aload_n 0, 1) := by decide +kernel
theorem dX4_remove_6 : decode cX4_remove 6 = .ok (.getfield 26, 3) := by decide +kernel
theorem dX4_remove_9 : decode cX4_remove 9 = .ok (.if_icmp .lt 4, 3) := by decide +kernel
theorem dX4_remove_12 : decode cX4_remove 12 = .ok (.return_, 1) := by decide +kernel
theorem dX4_remove_13 : decode cX4_remove 13 = .ok (.iload_n 1, 1) := by decide +kernel
theorem dX4_remove_14 : decode cX4_remove 14 = .ok (.aload_n 0, 1) := by decide +kernel
theorem dX4_remove_15 : decode cX4_remove 15 = .ok (.getfield 19, 3) := by decide +kernel
theorem dX4_remove_18 : decode cX4_remove 18 = .ok (.imul, 1) := by decide +kernel
theorem dX4_remove_19 : decode cX4_remove 19 = .ok (.istore_n 2, 1) := by decide +kernel
theorem dX4_remove_20 : decode cX4_remove 20 = .ok (.aload_n 0, 1) := by decide +kernel
theorem dX4_remove_21 : decode cX4_remove 21 = .ok (.getfield 22, 3) := by decide +kernel
theorem dX4_remove_24 : decode cX4_remove 24 = .ok (.iload_n 2, 1) := by decide +kernel
theorem dX4_remove_25 : decode cX4_remove 25 = .ok (.aload_n 0, 1) := by decide +kernel
theorem dX4_remove_26 : decode cX4_remove 26 = .ok (.getfield 19, 3) := by decide +kernel
theorem dX4_remove_29 : decode cX4_remove 29 = .ok (.iadd, 1) := by decide +kernel
theorem dX4_remove_30 : decode cX4_remove 30 = .ok (.aload_n 0, 1) := by decide +kernel
theorem dX4_remove_31 : decode cX4_remove 31 = .ok (.getfield 22, 3) := by decide +kernel
theorem dX4_remove_34 : decode cX4_remove 34 = .ok (.iload_n 2, 1) := by decide +kernel
theorem dX4_remove_35 : decode cX4_remove 35 = .ok (.aload_n 0, 1) := by decide +kernel
theorem dX4_remove_36 : decode cX4_remove 36 = .ok (.getfield 26, 3) := by decide +kernel
theorem dX4_remove_39 : decode cX4_remove 39 = .ok (.iload_n 1, 1) := by decide +kernel
theorem dX4_remove_40 : decode cX4_remove 40 = .ok (.isub, 1) := by decide +kernel
theorem dX4_remove_41 : decode cX4_remove 41 = .ok (.iconst 1, 1) := by decide +kernel
theorem dX4_remove_42 : decode cX4_remove 42 = .ok (.isub, 1) := by decide +kernel
theorem dX4_remove_43 : decode cX4_remove 43 = .ok (.aload_n 0, 1) := by decide +kernel
theorem dX4_remove_44 : decode cX4_remove 44 = .ok (.getfield 19, 3) := by decide +kernel
theorem dX4_remove_47 : decode cX4_remove 47 = .ok (.imul, 1) := by decide +kernel
theorem dX4_remove_48 : decode cX4_remove 48 = .ok (.invokestatic 35, 3) := by decide +kernel
theorem dX4_remove_51 : decode cX4_remove 51 = .ok (.aload_n 0, 1) := by decide +kernel
theorem dX4_remove_52 : decode cX4_remove 52 = .ok (.dup, 1) := by decide +kernel
theorem dX4_remove_53 : decode cX4_remove 53 = .ok (.getfield 26, 3) := by decide +kernel
theorem dX4_remove_56 : decode cX4_remove 56 = .ok (.iconst 1, 1) := by decide +kernel
theorem dX4_remove_57 : decode cX4_remove 57 = .ok (.isub, 1) := by decide +kernel
theorem dX4_remove_58 : decode cX4_remove 58 = .ok (.putfield 26, 3) := by decide +kernel
theorem dX4_remove_61 : decode cX4_remove 61 = .ok (.return_, 1) := by decide +kernel
theorem dX4_shorten_0 : decode cX4_shorten 0 = .ok (.iload_n 1, 1) := by decide +kernel
theorem dX4_shorten_1 : decode cX4_shorten 1 = .ok (.ifCond .lt 16, 3) := by decide +kernel
theorem dX4_shorten_4 : decode cX4_shorten 4 = .ok (.iload_n 1, 1) := by decide +kernel
theorem dX4_shorten_5 : decode cX4_shorten 5 = .ok (.aload_n 0, 1) := by decide +kernel
theorem dX4_shorten_6 : decode cX4_shorten 6 = .ok (.getfield 26, 3) := by decide +kernel
theorem dX4_shorten_9 : decode cX4_shorten 9 = .ok (.if_icmp .ge 8, 3) := by decide +kernel
theorem dX4_shorten_12 : decode cX4_shorten 12 = .ok (.aload_n 0, 1) := by decide +kernel
theorem dX4_shorten_13 : decode cX4_shorten 13 = .ok (.iload_n 1, 1) := by decide +kernel
theorem dX4_shorten_14 : decode cX4_shorten 14 = .ok (.putfield 26, 3) := by decide +kernel
theorem dX4_shorten_17 : decode cX4_shorten 17 = .ok (.return_, 1) := by decide +kernel
theorem dX4_reset_0 : decode cX4_reset 0 = .ok (.aload_n 0, 1) := by decide +kernel
theorem dX4_reset_1 : decode cX4_reset 1 = .ok (.iconst 0, 1) := by decide +kernel
theorem dX4_reset_2 : decode cX4_reset 2 = .ok (.iload_n 1, 1) := by decide +kernel
theorem dX4_reset_3 : decode cX4_reset 3 = .ok (.aload_n 0, 1) := by decide +kernel
theorem dX4_reset_4 : decode cX4_reset 4 = .ok (.getfield 13, 3) := by decide +kernel
theorem dX4_reset_7 : decode cX4_reset 7 = .ok (.invokestatic 41, 3) := by decide +kernel
theorem dX4_reset_10 : decode cX4_reset 10 = .ok (.invokestatic 7, 3) := by decide +kernel
theorem dX4_reset_13 : decode cX4_reset 13 = .ok (.putfield 26, 3) := by decide +kernel
theorem dX4_reset_16 : decode cX4_reset 16 = .ok (.aload_n 0, 1) := by decide +kernel
theorem dX4_reset_17 : decode cX4_reset 17 = .ok (.getfield 22, 3) := by decide +kernel
theorem dX4_reset_20 : decode cX4_reset 20 = .ok (.iconst 0, 1) := by decide +kernel
theorem dX4_reset_21 : decode cX4_reset 21 = .ok (.aload_n 0, 1) := by decide +kernel
theorem dX4_reset_22 : decode cX4_reset 22 = .ok (.getfield 26, 3) := by decide +kernel
theorem dX4_reset_25 : decode cX4_reset 25 = .ok (.aload_n 0, 1) := by decide +kernel
theorem dX4_reset_26 : decode cX4_reset 26 = .ok (.getfield 19, 3) := by decide +kernel
theorem dX4_reset_29 : decode cX4_reset 29 = .ok (.imul, 1) := by decide +kernel
theorem dX4_reset_30 : decode cX4_reset 30 = .ok (.iconst 0, 1) := by decide +kernel
theorem dX4_reset_31 : decode cX4_reset 31 = .ok (.invokestatic 29, 3) := by decide +kernel
theorem dX4_reset_34 : decode cX4_reset 34 = .ok (.return_, 1) := by decide +kernel
theorem dX4_copyFrom_0 : decode cX4_copyFrom 0 = .ok (.aload_n 1, 1) := by decide +kernel
theorem dX4_copyFrom_1 : decode cX4_copyFrom 1 = .ok (.ifnull 25, 3) := by decide +kernel
theorem dX4_copyFrom_4 : decode cX4_copyFrom 4 = .ok (.aload_n 1, 1) := by decide +kernel
theorem dX4_copyFrom_5 : decode cX4_copyFrom 5 = .ok (.getfield 19, 3) := by decide +kernel
theorem dX4_copyFrom_8 : decode cX4_copyFrom 8 = .ok (.aload_n 0, 1) := by decide +kernel
theorem dX4_copyFrom_9 : decode cX4_copyFrom 9 = .ok (.getfield 19, 3) := by decide +kernel
theorem dX4_copyFrom_12 : decode cX4_copyFrom 12 = .ok (.if_icmp .ne 14, 3) := by decide +kernel
theorem dX4_copyFrom_15 : decode cX4_copyFrom 15 = .ok (.aload_n 1, 1) := by decide +kernel
theorem dX4_copyFrom_16 : decode cX4_copyFrom 16 = .ok (.getfield 26, 3) := by decide +kernel
theorem dX4_copyFrom_19 : decode cX4_copyFrom 19 = .ok (.aload_n 0, 1) := by decide +kernel
theorem dX4_copyFrom_20 : decode cX4_copyFrom 20 = .ok (.getfield 13, 3) := by decide +kernel
theorem dX4_copyFrom_23 : decode cX4_copyFrom 23 = .ok (.if_icmp .le 4, 3) := by decide +kernel
theorem dX4_copyFrom_26 : decode cX4_copyFrom 26 = .ok (.return_, 1) := by decide +kernel
theorem dX4_copyFrom_27 : decode cX4_copyFrom 27 = .ok (.aload_n 1, 1) := by decide +kernel
theorem dX4_copyFrom_28 : decode cX4_copyFrom 28 = .ok (.getfield 22, 3) := by decide +kernel
theorem dX4_copyFrom_31 : decode cX4_copyFrom 31 = .ok (.iconst 0, 1) := by decide +kernel
theorem dX4_copyFrom_32 : decode cX4_copyFrom 32 = .ok (.aload_n 0, 1) := by decide +kernel
theorem dX4_copyFrom_33 : decode cX4_copyFrom 33 = .ok (.getfield 22, 3) := by decide +kernel
theorem dX4_copyFrom_36 : decode cX4_copyFrom 36 = .ok (.iconst 0, 1) := by decide +kernel
theorem dX4_copyFrom_37 : decode cX4_copyFrom 37 = .ok (.aload_n 1, 1) := by decide +kernel
theorem dX4_copyFrom_38 : decode cX4_copyFrom 38 = .ok (.getfield 26, 3) := by decide +kernel
theorem dX4_copyFrom_41 : decode cX4_copyFrom 41 = .ok (.aload_n 0, 1) := by decide +kernel
theorem dX4_copyFrom_42 : decode cX4_copyFrom 42 = .ok (.getfield 19, 3) := by decide +kernel
theorem dX4_copyFrom_45 : decode cX4_copyFrom 45 = .ok (.imul, 1) := by decide +kernel
theorem dX4_copyFrom_46 : decode cX4_copyFrom 46 = .ok (.invokestatic 35, 3) := by decide +kernel
theorem dX4_copyFrom_49 : decode cX4_copyFrom 49 = .ok (.aload_n 0, 1) := by decide +kernel
theorem dX4_copyFrom_50 : decode cX4_copyFrom 50 = .ok (.aload_n 1, 1) := by decide +kernel
theorem dX4_copyFrom_51 : decode cX4_copyFrom 51 = .ok (.getfield 26, 3) := by decide +kernel
theorem dX4_copyFrom_54 : decode cX4_copyFrom 54 = .ok (.putfield 26, 3) := by decide +kernel
theorem dX4_copyFrom_57 : decode cX4_copyFrom 57 = .ok (.return_, 1) := by decide +kernel
theorem dX4_placeOf_0 : decode cX4_placeOf 0 = .ok (.iconst 0, 1) := by decide +kernel
theorem dX4_placeOf_1 : decode cX4_placeOf 1 = .ok (.istore_n 2, 1) := by decide +kernel
theorem dX4_placeOf_2 : decode cX4_placeOf 2 = .ok (.bipush 64, 2) := by decide +kernel
theorem dX4_placeOf_4 : decode cX4_placeOf 4 = .ok (.istore_n 3, 1) := by decide +kernel
theorem dX4_placeOf_5 : decode cX4_placeOf 5 = .ok (.iload_n 3, 1) := by decide +kernel
theorem dX4_placeOf_6 : decode cX4_placeOf 6 = .ok (.ifCond .le 43, 3) := by decide +kernel
theorem dX4_placeOf_9 : decode cX4_placeOf 9 = .ok (.iload_n 2, 1) := by decide +kernel
theorem dX4_placeOf_10 : decode cX4_placeOf 10 = .ok (.iload_n 3, 1) := by decide +kernel
theorem dX4_placeOf_11 : decode cX4_placeOf 11 = .ok (.iadd, 1) := by decide +kernel
theorem dX4_placeOf_12 : decode cX4_placeOf 12 = .ok (.aload_n 0, 1) := by decide +kernel
theorem dX4_placeOf_13 : decode cX4_placeOf 13 = .ok (.getfield 26, 3) := by decide +kernel
theorem dX4_placeOf_16 : decode cX4_placeOf 16 = .ok (.if_icmp .gt 26, 3) := by decide +kernel
theorem dX4_placeOf_19 : decode cX4_placeOf 19 = .ok (.aload_n 0, 1) := by decide +kernel
theorem dX4_placeOf_20 : decode cX4_placeOf 20 = .ok (.getfield 22, 3) := by decide +kernel
theorem dX4_placeOf_23 : decode cX4_placeOf 23 = .ok (.iload_n 2, 1) := by decide +kernel
theorem dX4_placeOf_24 : decode cX4_placeOf 24 = .ok (.iload_n 3, 1) := by decide +kernel
theorem dX4_placeOf_25 : decode cX4_placeOf 25 = .ok (.iadd, 1) := by decide +kernel
theorem dX4_placeOf_26 : decode cX4_placeOf 26 = .ok (.iconst 1, 1) := by decide +kernel
theorem dX4_placeOf_27 : decode cX4_placeOf 27 = .ok (.isub, 1) := by decide +kernel
theorem dX4_placeOf_28 : decode cX4_placeOf 28 = .ok (.aload_n 0, 1) := by decide +kernel
theorem dX4_placeOf_29 : decode cX4_placeOf 29 = .ok (.getfield 19, 3) := by decide +kernel
theorem dX4_placeOf_32 : decode cX4_placeOf 32 = .ok (.imul, 1) := by decide +kernel
theorem dX4_placeOf_33 : decode cX4_placeOf 33 = .ok (.iaload, 1) := by decide +kernel
theorem dX4_placeOf_34 : decode cX4_placeOf 34 = .ok (.iload_n 1, 1) := by decide +kernel
theorem dX4_placeOf_35 : decode cX4_placeOf 35 = .ok (.if_icmp .ge 7, 3) := by decide +kernel
theorem dX4_placeOf_38 : decode cX4_placeOf 38 = .ok (.iload_n 2, 1) := by decide +kernel
theorem dX4_placeOf_39 : decode cX4_placeOf 39 = .ok (.iload_n 3, 1) := by decide +kernel
theorem dX4_placeOf_40 : decode cX4_placeOf 40 = .ok (.iadd, 1) := by decide +kernel
theorem dX4_placeOf_41 : decode cX4_placeOf 41 = .ok (.istore_n 2, 1) := by decide +kernel
theorem dX4_placeOf_42 : decode cX4_placeOf 42 = .ok (.iload_n 3, 1) := by decide +kernel
theorem dX4_placeOf_43 : decode cX4_placeOf 43 = .ok (.iconst 2, 1) := by decide +kernel
theorem dX4_placeOf_44 : decode cX4_placeOf 44 = .ok (.idiv, 1) := by decide +kernel
theorem dX4_placeOf_45 : decode cX4_placeOf 45 = .ok (.istore_n 3, 1) := by decide +kernel
theorem dX4_placeOf_46 : decode cX4_placeOf 46 = .ok (.goto (-41), 3) := by decide +kernel
theorem dX4_placeOf_49 : decode cX4_placeOf 49 = .ok (.iload_n 2, 1) := by decide +kernel
theorem dX4_placeOf_50 : decode cX4_placeOf 50 = .ok (.ireturn, 1) := by decide +kernel
theorem dX4_sumOf_0 : decode cX4_sumOf 0 = .ok (.iconst 0, 1) := by decide +kernel
theorem dX4_sumOf_1 : decode cX4_sumOf 1 = .ok (.istore_n 2, 1) := by decide +kernel
theorem dX4_sumOf_2 : decode cX4_sumOf 2 = .ok (.iconst 0, 1) := by decide +kernel
theorem dX4_sumOf_3 : decode cX4_sumOf 3 = .ok (.istore_n 3, 1) := by decide +kernel
theorem dX4_sumOf_4 : decode cX4_sumOf 4 = .ok (.iload_n 3, 1) := by decide +kernel
theorem dX4_sumOf_5 : decode cX4_sumOf 5 = .ok (.aload_n 0, 1) := by decide +kernel
theorem dX4_sumOf_6 : decode cX4_sumOf 6 = .ok (.getfield 26, 3) := by decide +kernel
theorem dX4_sumOf_9 : decode cX4_sumOf 9 = .ok (.if_icmp .ge 18, 3) := by decide +kernel
theorem dX4_sumOf_12 : decode cX4_sumOf 12 = .ok (.iload_n 2, 1) := by decide +kernel
theorem dX4_sumOf_13 : decode cX4_sumOf 13 = .ok (.aload_n 0, 1) := by decide +kernel
theorem dX4_sumOf_14 : decode cX4_sumOf 14 = .ok (.iload_n 3, 1) := by decide +kernel
theorem dX4_sumOf_15 : decode cX4_sumOf 15 = .ok (.iload_n 1, 1) := by decide +kernel
theorem dX4_sumOf_16 : decode cX4_sumOf 16 = .ok (.invokevirtual 44, 3) := by decide +kernel
theorem dX4_sumOf_19 : decode cX4_sumOf 19 = .ok (.iadd, 1) := by decide +kernel
theorem dX4_sumOf_20 : decode cX4_sumOf 20 = .ok (.istore_n 2, 1) := by decide +kernel
theorem dX4_sumOf_21 : decode cX4_sumOf 21 = .ok (.iinc 3 1, 3) := by decide +kernel
theorem dX4_sumOf_24 : decode cX4_sumOf 24 = .ok (.goto (-20), 3) := by decide +kernel
theorem dX4_sumOf_27 : decode cX4_sumOf 27 = .ok (.iload_n 2, 1) := by decide +kernel
theorem dX4_sumOf_28 : decode cX4_sumOf 28 = .ok (.ireturn, 1) := by decide +kernel
theorem dX4_greatestOf_0 : decode cX4_greatestOf 0 = .ok (.iconst 0, 1) := by decide +kernel
theorem dX4_greatestOf_1 : decode cX4_greatestOf 1 = .ok (.istore_n 2, 1) := by decide +kernel
theorem dX4_greatestOf_2 : decode cX4_greatestOf 2 = .ok (.iconst 0, 1) := by decide +kernel
theorem dX4_greatestOf_3 : decode cX4_greatestOf 3 = .ok (.istore_n 3, 1) := by decide +kernel
theorem dX4_greatestOf_4 : decode cX4_greatestOf 4 = .ok (.iload_n 3, 1) := by decide +kernel
theorem dX4_greatestOf_5 : decode cX4_greatestOf 5 = .ok (.aload_n 0, 1) := by decide +kernel
theorem dX4_greatestOf_6 : decode cX4_greatestOf 6 = .ok (.getfield 26, 3) := by decide +kernel
theorem dX4_greatestOf_9 : decode cX4_greatestOf 9 = .ok (.if_icmp .ge 20, 3) := by decide +kernel
theorem dX4_greatestOf_12 : decode cX4_greatestOf 12 = .ok (.iload_n 2, 1) := by decide +kernel
theorem dX4_greatestOf_13 : decode cX4_greatestOf 13 = .ok (.aload_n 0, 1) := by decide +kernel
theorem dX4_greatestOf_14 : decode cX4_greatestOf 14 = .ok (.iload_n 3, 1) := by decide +kernel
theorem dX4_greatestOf_15 : decode cX4_greatestOf 15 = .ok (.iload_n 1, 1) := by decide +kernel
theorem dX4_greatestOf_16 : decode cX4_greatestOf 16 = .ok (.invokevirtual 44, 3) := by decide +kernel
theorem dX4_greatestOf_19 : decode cX4_greatestOf 19 = .ok (.invokestatic 7, 3) := by decide +kernel
theorem dX4_greatestOf_22 : decode cX4_greatestOf 22 = .ok (.istore_n 2, 1) := by decide +kernel
theorem dX4_greatestOf_23 : decode cX4_greatestOf 23 = .ok (.iinc 3 1, 3) := by decide +kernel
theorem dX4_greatestOf_26 : decode cX4_greatestOf 26 = .ok (.goto (-22), 3) := by decide +kernel
theorem dX4_greatestOf_29 : decode cX4_greatestOf 29 = .ok (.iload_n 2, 1) := by decide +kernel
theorem dX4_greatestOf_30 : decode cX4_greatestOf 30 = .ok (.ireturn, 1) := by decide +kernel
theorem dX5_init_0 : decode cX5_init 0 = .ok (.aload_n 0, 1) := by decide +kernel
theorem dX5_init_1 : decode cX5_init 1 = .ok (.invokespecial 3, 3) := by decide +kernel
theorem dX5_init_4 : decode cX5_init 4 = .ok (.aload_n 0, 1) := by decide +kernel
theorem dX5_init_5 : decode cX5_init 5 = .ok (.new 9, 3) := by decide +kernel
theorem dX5_init_8 : decode cX5_init 8 = .ok (.dup, 1) := by decide +kernel
theorem dX5_init_9 : decode cX5_init 9 = .ok (.bipush 60, 2) := by decide +kernel
theorem dX5_init_11 : decode cX5_init 11 = .ok (.iconst 1, 1) := by decide +kernel
theorem dX5_init_12 : decode cX5_init 12 = .ok (.invokespecial 11, 3) := by decide +kernel
theorem dX5_init_15 : decode cX5_init 15 = .ok (.putfield 14, 3) := by decide +kernel
theorem dX5_init_18 : decode cX5_init 18 = .ok (.aload_n 0, 1) := by decide +kernel
theorem dX5_init_19 : decode cX5_init 19 = .ok (.new 9, 3) := by decide +kernel
theorem dX5_init_22 : decode cX5_init 22 = .ok (.dup, 1) := by decide +kernel
theorem dX5_init_23 : decode cX5_init 23 = .ok (.bipush 15, 2) := by decide +kernel
theorem dX5_init_25 : decode cX5_init 25 = .ok (.iconst 2, 1) := by decide +kernel
theorem dX5_init_26 : decode cX5_init 26 = .ok (.invokespecial 11, 3) := by decide +kernel
theorem dX5_init_29 : decode cX5_init 29 = .ok (.putfield 22, 3) := by decide +kernel
theorem dX5_init_32 : decode cX5_init 32 = .ok (.return_, 1) := by decide +kernel
theorem dX5_read_0 : decode cX5_read 0 = .ok (.aload_n 0, 1) := by decide +kernel
theorem dX5_read_1 : decode cX5_read 1 = .ok (.iconst 0, 1) := by decide +kernel
theorem dX5_read_2 : decode cX5_read 2 = .ok (.putfield 25, 3) := by decide +kernel
theorem dX5_read_5 : decode cX5_read 5 = .ok (.aload_n 0, 1) := by decide +kernel
theorem dX5_read_6 : decode cX5_read 6 = .ok (.getfield 22, 3) := by decide +kernel
theorem dX5_read_9 : decode cX5_read 9 = .ok (.iconst 0, 1) := by decide +kernel
theorem dX5_read_10 : decode cX5_read 10 = .ok (.invokevirtual 29, 3) := by decide +kernel
theorem dX5_read_13 : decode cX5_read 13 = .ok (.aload_n 0, 1) := by decide +kernel
theorem dX5_read_14 : decode cX5_read 14 = .ok (.iconst 0, 1) := by decide +kernel
theorem dX5_read_15 : decode cX5_read 15 = .ok (.putfield 33, 3) := by decide +kernel
theorem dX5_read_18 : decode cX5_read 18 = .ok (.iconst 0, 1) := by decide +kernel
theorem dX5_read_19 : decode cX5_read 19 = .ok (.istore_n 2, 1) := by decide +kernel
theorem dX5_read_20 : decode cX5_read 20 = .ok (.iload_n 2, 1) := by decide +kernel
theorem dX5_read_21 : decode cX5_read 21 = .ok (.bipush 60, 2) := by decide +kernel
theorem dX5_read_23 : decode cX5_read 23 = .ok (.if_icmp .ge 85, 3) := by decide +kernel
theorem dX5_read_26 : decode cX5_read 26 = .ok (.aload_n 0, 1) := by decide +kernel
theorem dX5_read_27 : decode cX5_read 27 = .ok (.getfield 33, 3) := by decide +kernel
theorem dX5_read_30 : decode cX5_read 30 = .ok (.aload_n 0, 1) := by decide +kernel
theorem dX5_read_31 : decode cX5_read 31 = .ok (.getfield 14, 3) := by decide +kernel
theorem dX5_read_34 : decode cX5_read 34 = .ok (.invokevirtual 36, 3) := by decide +kernel
theorem dX5_read_37 : decode cX5_read 37 = .ok (.if_icmp .ge 71, 3) := by decide +kernel
theorem dX5_read_40 : decode cX5_read 40 = .ok (.aload_n 0, 1) := by decide +kernel
theorem dX5_read_41 : decode cX5_read 41 = .ok (.aload_n 0, 1) := by decide +kernel
theorem dX5_read_42 : decode cX5_read 42 = .ok (.getfield 33, 3) := by decide +kernel
theorem dX5_read_45 : decode cX5_read 45 = .ok (.putfield 40, 3) := by decide +kernel
theorem dX5_read_48 : decode cX5_read 48 = .ok (.aload_n 0, 1) := by decide +kernel
theorem dX5_read_49 : decode cX5_read 49 = .ok (.invokevirtual 43, 3) := by decide +kernel
theorem dX5_read_52 : decode cX5_read 52 = .ok (.ifCond .ne 22, 3) := by decide +kernel
theorem dX5_read_55 : decode cX5_read 55 = .ok (.aload_n 0, 1) := by decide +kernel
theorem dX5_read_56 : decode cX5_read 56 = .ok (.iconst 1, 1) := by decide +kernel
theorem dX5_read_57 : decode cX5_read 57 = .ok (.putfield 25, 3) := by decide +kernel
theorem dX5_read_60 : decode cX5_read 60 = .ok (.aload_n 0, 1) := by decide +kernel
theorem dX5_read_61 : decode cX5_read 61 = .ok (.aload_n 0, 1) := by decide +kernel
theorem dX5_read_62 : decode cX5_read 62 = .ok (.getfield 33, 3) := by decide +kernel
theorem dX5_read_65 : decode cX5_read 65 = .ok (.aload_n 0, 1) := by decide +kernel
theorem dX5_read_66 : decode cX5_read 66 = .ok (.getfield 40, 3) := by decide +kernel
theorem dX5_read_69 : decode cX5_read 69 = .ok (.isub, 1) := by decide +kernel
theorem dX5_read_70 : decode cX5_read 70 = .ok (.putfield 47, 3) := by decide +kernel
theorem dX5_read_73 : decode cX5_read 73 = .ok (.return_, 1) := by decide +kernel
theorem dX5_read_74 : decode cX5_read 74 = .ok (.iload_n 1, 1) := by decide +kernel
theorem dX5_read_75 : decode cX5_read 75 = .ok (.aload_n 0, 1) := by decide +kernel
theorem dX5_read_76 : decode cX5_read 76 = .ok (.getfield 22, 3) := by decide +kernel
theorem dX5_read_79 : decode cX5_read 79 = .ok (.invokevirtual 36, 3) := by decide +kernel
theorem dX5_read_82 : decode cX5_read 82 = .ok (.iadd, 1) := by decide +kernel
theorem dX5_read_83 : decode cX5_read 83 = .ok (.bipush 100, 2) := by decide +kernel
theorem dX5_read_85 : decode cX5_read 85 = .ok (.if_icmp .le 17, 3) := by decide +kernel
theorem dX5_read_88 : decode cX5_read 88 = .ok (.aload_n 0, 1) := by decide +kernel
theorem dX5_read_89 : decode cX5_read 89 = .ok (.iconst 2, 1) := by decide +kernel
theorem dX5_read_90 : decode cX5_read 90 = .ok (.putfield 25, 3) := by decide +kernel
theorem dX5_read_93 : decode cX5_read 93 = .ok (.aload_n 0, 1) := by decide +kernel
theorem dX5_read_94 : decode cX5_read 94 = .ok (.bipush 100, 2) := by decide +kernel
theorem dX5_read_96 : decode cX5_read 96 = .ok (.iload_n 1, 1) := by decide +kernel
theorem dX5_read_97 : decode cX5_read 97 = .ok (.isub, 1) := by decide +kernel
theorem dX5_read_98 : decode cX5_read 98 = .ok (.putfield 47, 3) := by decide +kernel
theorem dX5_read_101 : decode cX5_read 101 = .ok (.return_, 1) := by decide +kernel
theorem dX5_read_102 : decode cX5_read 102 = .ok (.iinc 2 1, 3) := by decide +kernel
theorem dX5_read_105 : decode cX5_read 105 = .ok (.goto (-85), 3) := by decide +kernel
theorem dX5_read_108 : decode cX5_read 108 = .ok (.return_, 1) := by decide +kernel
theorem dX5_readRow_0 : decode cX5_readRow 0 = .ok (.aload_n 0, 1) := by decide +kernel
theorem dX5_readRow_1 : decode cX5_readRow 1 = .ok (.iconst 4, 1) := by decide +kernel
theorem dX5_readRow_2 : decode cX5_readRow 2 = .ok (.invokevirtual 50, 3) := by decide +kernel
theorem dX5_readRow_5 : decode cX5_readRow 5 = .ok (.istore_n 1, 1) := by decide +kernel
theorem dX5_readRow_6 : decode cX5_readRow 6 = .ok (.iload_n 1, 1) := by decide +kernel
theorem dX5_readRow_7 : decode cX5_readRow 7 = .ok (.iconst (-1), 1) := by decide +kernel
theorem dX5_readRow_8 : decode cX5_readRow 8 = .ok (.if_icmp .eq 12, 3) := by decide +kernel
theorem dX5_readRow_11 : decode cX5_readRow 11 = .ok (.aload_n 0, 1) := by decide +kernel
theorem dX5_readRow_12 : decode cX5_readRow 12 = .ok (.bipush 61, 2) := by decide +kernel
theorem dX5_readRow_14 : decode cX5_readRow 14 = .ok (.invokevirtual 54, 3) := by decide +kernel
theorem dX5_readRow_17 : decode cX5_readRow 17 = .ok (.ifCond .ne 5, 3) := by decide +kernel
theorem dX5_readRow_20 : decode cX5_readRow 20 = .ok (.iconst 0, 1) := by decide +kernel
theorem dX5_readRow_21 : decode cX5_readRow 21 = .ok (.ireturn, 1) := by decide +kernel
theorem dX5_readRow_22 : decode cX5_readRow 22 = .ok (.aload_n 0, 1) := by decide +kernel
theorem dX5_readRow_23 : decode cX5_readRow 23 = .ok (.bipush 45, 2) := by decide +kernel
theorem dX5_readRow_25 : decode cX5_readRow 25 = .ok (.invokevirtual 54, 3) := by decide +kernel
theorem dX5_readRow_28 : decode cX5_readRow 28 = .ok (.istore_n 2, 1) := by decide +kernel
theorem dX5_readRow_29 : decode cX5_readRow 29 = .ok (.aload_n 0, 1) := by decide +kernel
theorem dX5_readRow_30 : decode cX5_readRow 30 = .ok (.iconst 3, 1) := by decide +kernel
theorem dX5_readRow_31 : decode cX5_readRow 31 = .ok (.invokevirtual 50, 3) := by decide +kernel
theorem dX5_readRow_34 : decode cX5_readRow 34 = .ok (.istore_n 3, 1) := by decide +kernel
theorem dX5_readRow_35 : decode cX5_readRow 35 = .ok (.iload_n 3, 1) := by decide +kernel
theorem dX5_readRow_36 : decode cX5_readRow 36 = .ok (.iconst (-1), 1) := by decide +kernel
theorem dX5_readRow_37 : decode cX5_readRow 37 = .ok (.if_icmp .eq 12, 3) := by decide +kernel
theorem dX5_readRow_40 : decode cX5_readRow 40 = .ok (.aload_n 0, 1) := by decide +kernel
theorem dX5_readRow_41 : decode cX5_readRow 41 = .ok (.bipush 59, 2) := by decide +kernel
theorem dX5_readRow_43 : decode cX5_readRow 43 = .ok (.invokevirtual 54, 3) := by decide +kernel
theorem dX5_readRow_46 : decode cX5_readRow 46 = .ok (.ifCond .ne 5, 3) := by decide +kernel
theorem dX5_readRow_49 : decode cX5_readRow 49 = .ok (.iconst 0, 1) := by decide +kernel
theorem dX5_readRow_50 : decode cX5_readRow 50 = .ok (.ireturn, 1) := by decide +kernel
theorem dX5_readRow_51 : decode cX5_readRow 51 = .ok (.aload_n 0, 1) := by decide +kernel
theorem dX5_readRow_52 : decode cX5_readRow 52 = .ok (.getfield 22, 3) := by decide +kernel
theorem dX5_readRow_55 : decode cX5_readRow 55 = .ok (.aload_n 0, 1) := by decide +kernel
theorem dX5_readRow_56 : decode cX5_readRow 56 = .ok (.getfield 22, 3) := by decide +kernel
theorem dX5_readRow_59 : decode cX5_readRow 59 = .ok (.iload_n 1, 1) := by decide +kernel
theorem dX5_readRow_60 : decode cX5_readRow 60 = .ok (.invokevirtual 58, 3) := by decide +kernel
theorem dX5_readRow_63 : decode cX5_readRow 63 = .ok (.iconst 1, 1) := by decide +kernel
theorem dX5_readRow_64 : decode cX5_readRow 64 = .ok (.iload_n 2, 1) := by decide +kernel
theorem dX5_readRow_65 : decode cX5_readRow 65 = .ok (.ifCond .eq 8, 3) := by decide +kernel
theorem dX5_readRow_68 : decode cX5_readRow 68 = .ok (.iload_n 3, 1) := by decide +kernel
theorem dX5_readRow_69 : decode cX5_readRow 69 = .ok (.ineg, 1) := by decide +kernel
theorem dX5_readRow_70 : decode cX5_readRow 70 = .ok (.goto 4, 3) := by decide +kernel
theorem dX5_readRow_73 : decode cX5_readRow 73 = .ok (.iload_n 3, 1) := by decide +kernel
theorem dX5_readRow_74 : decode cX5_readRow 74 = .ok (.invokevirtual 61, 3) := by decide +kernel
theorem dX5_readRow_77 : decode cX5_readRow 77 = .ok (.iconst 1, 1) := by decide +kernel
theorem dX5_readRow_78 : decode cX5_readRow 78 = .ok (.ireturn, 1) := by decide +kernel
theorem dX5_readNumber_0 : decode cX5_readNumber 0 = .ok (.iconst (-1), 1) := by decide +kernel
theorem dX5_readNumber_1 : decode cX5_readNumber 1 = .ok (.istore_n 2, 1) := by decide +kernel
theorem dX5_readNumber_2 : decode cX5_readNumber 2 = .ok (.iconst 0, 1) := by decide +kernel
theorem dX5_readNumber_3 : decode cX5_readNumber 3 = .ok (.istore_n 3, 1) := by decide +kernel
theorem dX5_readNumber_4 : decode cX5_readNumber 4 = .ok (.iload_n 3, 1) := by decide +kernel
theorem dX5_readNumber_5 : decode cX5_readNumber 5 = .ok (.iload_n 1, 1) := by decide +kernel
theorem dX5_readNumber_6 : decode cX5_readNumber 6 = .ok (.if_icmp .ge 61, 3) := by decide +kernel
theorem dX5_readNumber_9 : decode cX5_readNumber 9 = .ok (.aload_n 0, 1) := by decide +kernel
theorem dX5_readNumber_10 : decode cX5_readNumber 10 = .ok (.getfield 14, 3) := by decide +kernel
theorem dX5_readNumber_13 : decode cX5_readNumber 13 = .ok (.aload_n 0, 1) := by decide +kernel
theorem dX5_readNumber_14 : decode cX5_readNumber 14 = .ok (.getfield 33, 3) := by decide +kernel
theorem dX5_readNumber_17 : decode cX5_readNumber 17 = .ok (.iconst 0, 1) := by decide +kernel
theorem dX5_readNumber_18 : decode cX5_readNumber 18 = .ok (.invokevirtual 65, 3) := by decide +kernel
theorem dX5_readNumber_21 : decode cX5_readNumber 21 = .ok (.bipush 48, 2) := by decide +kernel
theorem dX5_readNumber_23 : decode cX5_readNumber 23 = .ok (.isub, 1) := by decide +kernel
theorem dX5_readNumber_24 : decode cX5_readNumber 24 = .ok (.istore 4, 2) := by decide +kernel
theorem dX5_readNumber_26 : decode cX5_readNumber 26 = .ok (.iload 4, 2) := by decide +kernel
theorem dX5_readNumber_28 : decode cX5_readNumber 28 = .ok (.iconst 0, 1) := by decide +kernel
theorem dX5_readNumber_29 : decode cX5_readNumber 29 = .ok (.bipush 9, 2) := by decide +kernel
theorem dX5_readNumber_31 : decode cX5_readNumber 31 = .ok (.invokestatic 69, 3) := by decide +kernel
theorem dX5_readNumber_34 : decode cX5_readNumber 34 = .ok (.ifCond .eq 5, 3) := by decide +kernel
theorem dX5_readNumber_37 : decode cX5_readNumber 37 = .ok (.iload_n 2, 1) := by decide +kernel
theorem dX5_readNumber_38 : decode cX5_readNumber 38 = .ok (.ireturn, 1) := by decide +kernel
theorem dX5_readNumber_39 : decode cX5_readNumber 39 = .ok (.iload_n 2, 1) := by decide +kernel
theorem dX5_readNumber_40 : decode cX5_readNumber 40 = .ok (.iconst 0, 1) := by decide +kernel
theorem dX5_readNumber_41 : decode cX5_readNumber 41 = .ok (.invokestatic 73, 3) := by decide +kernel
theorem dX5_readNumber_44 : decode cX5_readNumber 44 = .ok (.bipush 10, 2) := by decide +kernel
theorem dX5_readNumber_46 : decode cX5_readNumber 46 = .ok (.imul, 1) := by decide +kernel
theorem dX5_readNumber_47 : decode cX5_readNumber 47 = .ok (.iload 4, 2) := by decide +kernel
theorem dX5_readNumber_49 : decode cX5_readNumber 49 = .ok (.iadd, 1) := by decide +kernel
theorem dX5_readNumber_50 : decode cX5_readNumber 50 = .ok (.istore_n 2, 1) := by decide +kernel
theorem dX5_readNumber_51 : decode cX5_readNumber 51 = .ok (.aload_n 0, 1) := by decide +kernel
theorem dX5_readNumber_52 : decode cX5_readNumber 52 = .ok (.dup, 1) := by decide +kernel
theorem dX5_readNumber_53 : decode cX5_readNumber 53 = .ok (.getfield 33, 3) := by decide +kernel
theorem dX5_readNumber_56 : decode cX5_readNumber 56 = .ok (.iconst 1, 1) := by decide +kernel
theorem dX5_readNumber_57 : decode cX5_readNumber 57 = .ok (.iadd, 1) := by decide +kernel
theorem dX5_readNumber_58 : decode cX5_readNumber 58 = .ok (.putfield 33, 3) := by decide +kernel
theorem dX5_readNumber_61 : decode cX5_readNumber 61 = .ok (.iinc 3 1, 3) := by decide +kernel
theorem dX5_readNumber_64 : decode cX5_readNumber 64 = .ok (.goto (-60), 3) := by decide +kernel
theorem dX5_readNumber_67 : decode cX5_readNumber 67 = .ok (.iload_n 2, 1) := by decide +kernel
theorem dX5_readNumber_68 : decode cX5_readNumber 68 = .ok (.ireturn, 1) := by decide +kernel
theorem dX5_readSign_0 : decode cX5_readSign 0 = .ok (.aload_n 0, 1) := by decide +kernel
theorem dX5_readSign_1 : decode cX5_readSign 1 = .ok (.getfield 14, 3) := by decide +kernel
theorem dX5_readSign_4 : decode cX5_readSign 4 = .ok (.aload_n 0, 1) := by decide +kernel
theorem dX5_readSign_5 : decode cX5_readSign 5 = .ok (.getfield 33, 3) := by decide +kernel
theorem dX5_readSign_8 : decode cX5_readSign 8 = .ok (.iconst 0, 1) := by decide +kernel
theorem dX5_readSign_9 : decode cX5_readSign 9 = .ok (.invokevirtual 65, 3) := by decide +kernel
theorem dX5_readSign_12 : decode cX5_readSign 12 = .ok (.iload_n 1, 1) := by decide +kernel
theorem dX5_readSign_13 : decode cX5_readSign 13 = .ok (.if_icmp .eq 5, 3) := by decide +kernel
theorem dX5_readSign_16 : decode cX5_readSign 16 = .ok (.iconst 0, 1) := by decide +kernel
theorem dX5_readSign_17 : decode cX5_readSign 17 = .ok (.ireturn, 1) := by decide +kernel
theorem dX5_readSign_18 : decode cX5_readSign 18 = .ok (.aload_n 0, 1) := by decide +kernel
theorem dX5_readSign_19 : decode cX5_readSign 19 = .ok (.dup, 1) := by decide +kernel
theorem dX5_readSign_20 : decode cX5_readSign 20 = .ok (.getfield 33, 3) := by decide +kernel
theorem dX5_readSign_23 : decode cX5_readSign 23 = .ok (.iconst 1, 1) := by decide +kernel
theorem dX5_readSign_24 : decode cX5_readSign 24 = .ok (.iadd, 1) := by decide +kernel
theorem dX5_readSign_25 : decode cX5_readSign 25 = .ok (.putfield 33, 3) := by decide +kernel
theorem dX5_readSign_28 : decode cX5_readSign 28 = .ok (.iconst 1, 1) := by decide +kernel
theorem dX5_readSign_29 : decode cX5_readSign 29 = .ok (.ireturn, 1) := by decide +kernel
theorem dX6_init_0 : decode cX6_init 0 = .ok (.aload_n 0, 1) := by decide +kernel
theorem dX6_init_1 : decode cX6_init 1 = .ok (.invokespecial 1, 3) := by decide +kernel
theorem dX6_init_4 : decode cX6_init 4 = .ok (.aload_n 0, 1) := by decide +kernel
theorem dX6_init_5 : decode cX6_init 5 = .ok (.new 7, 3) := by decide +kernel
theorem dX6_init_8 : decode cX6_init 8 = .ok (.dup, 1) := by decide +kernel
theorem dX6_init_9 : decode cX6_init 9 = .ok (.invokespecial 9, 3) := by decide +kernel
theorem dX6_init_12 : decode cX6_init 12 = .ok (.putfield 10, 3) := by decide +kernel
theorem dX6_init_15 : decode cX6_init 15 = .ok (.aload_n 0, 1) := by decide +kernel
theorem dX6_init_16 : decode cX6_init 16 = .ok (.new 16, 3) := by decide +kernel
theorem dX6_init_19 : decode cX6_init 19 = .ok (.dup, 1) := by decide +kernel
theorem dX6_init_20 : decode cX6_init 20 = .ok (.invokespecial 18, 3) := by decide +kernel
theorem dX6_init_23 : decode cX6_init 23 = .ok (.putfield 19, 3) := by decide +kernel
theorem dX6_init_26 : decode cX6_init 26 = .ok (.aload_n 0, 1) := by decide +kernel
theorem dX6_init_27 : decode cX6_init 27 = .ok (.new 23, 3) := by decide +kernel
theorem dX6_init_30 : decode cX6_init 30 = .ok (.dup, 1) := by decide +kernel
theorem dX6_init_31 : decode cX6_init 31 = .ok (.invokespecial 25, 3) := by decide +kernel
theorem dX6_init_34 : decode cX6_init 34 = .ok (.putfield 26, 3) := by decide +kernel
theorem dX6_init_37 : decode cX6_init 37 = .ok (.aload_n 0, 1) := by decide +kernel
theorem dX6_init_38 : decode cX6_init 38 = .ok (.new 30, 3) := by decide +kernel
theorem dX6_init_41 : decode cX6_init 41 = .ok (.dup, 1) := by decide +kernel
theorem dX6_init_42 : decode cX6_init 42 = .ok (.aload_n 0, 1) := by decide +kernel
theorem dX6_init_43 : decode cX6_init 43 = .ok (.getfield 26, 3) := by decide +kernel
theorem dX6_init_46 : decode cX6_init 46 = .ok (.invokespecial 32, 3) := by decide +kernel
theorem dX6_init_49 : decode cX6_init 49 = .ok (.putfield 35, 3) := by decide +kernel
theorem dX6_init_52 : decode cX6_init 52 = .ok (.aload_n 0, 1) := by decide +kernel
theorem dX6_init_53 : decode cX6_init 53 = .ok (.new 39, 3) := by decide +kernel
theorem dX6_init_56 : decode cX6_init 56 = .ok (.dup, 1) := by decide +kernel
theorem dX6_init_57 : decode cX6_init 57 = .ok (.invokespecial 41, 3) := by decide +kernel
theorem dX6_init_60 : decode cX6_init 60 = .ok (.putfield 42, 3) := by decide +kernel
theorem dX6_init_63 : decode cX6_init 63 = .ok (.aload_n 0, 1) := by decide +kernel
theorem dX6_init_64 : decode cX6_init 64 = .ok (.iconst 1, 1) := by decide +kernel
theorem dX6_init_65 : decode cX6_init 65 = .ok (.putfield 46, 3) := by decide +kernel
theorem dX6_init_68 : decode cX6_init 68 = .ok (.return_, 1) := by decide +kernel
theorem dX6_row_0 : decode cX6_row 0 = .ok (.iload_n 1, 1) := by decide +kernel
theorem dX6_row_1 : decode cX6_row 1 = .ok (.iconst 0, 1) := by decide +kernel
theorem dX6_row_2 : decode cX6_row 2 = .ok (.sipush 9999, 3) := by decide +kernel
theorem dX6_row_5 : decode cX6_row 5 = .ok (.invokestatic 50, 3) := by decide +kernel
theorem dX6_row_8 : decode cX6_row 8 = .ok (.ifCond .ne 16, 3) := by decide +kernel
theorem dX6_row_11 : decode cX6_row 11 = .ok (.iload_n 2, 1) := by decide +kernel
theorem dX6_row_12 : decode cX6_row 12 = .ok (.sipush (-999), 3) := by decide +kernel
theorem dX6_row_15 : decode cX6_row 15 = .ok (.sipush 999, 3) := by decide +kernel
theorem dX6_row_18 : decode cX6_row 18 = .ok (.invokestatic 50, 3) := by decide +kernel
theorem dX6_row_21 : decode cX6_row 21 = .ok (.ifCond .eq 6, 3) := by decide +kernel
theorem dX6_row_24 : decode cX6_row 24 = .ok (.ldc 54, 2) := by decide +kernel
theorem dX6_row_26 : decode cX6_row 26 = .ok (.ireturn, 1) := by decide +kernel
theorem dX6_row_27 : decode cX6_row 27 = .ok (.aload_n 0, 1) := by decide +kernel
theorem dX6_row_28 : decode cX6_row 28 = .ok (.getfield 10, 3) := by decide +kernel
theorem dX6_row_31 : decode cX6_row 31 = .ok (.getfield 55, 3) := by decide +kernel
theorem dX6_row_34 : decode cX6_row 34 = .ok (.invokevirtual 59, 3) := by decide +kernel
theorem dX6_row_37 : decode cX6_row 37 = .ok (.bipush 100, 2) := by decide +kernel
theorem dX6_row_39 : decode cX6_row 39 = .ok (.if_icmp .lt 6, 3) := by decide +kernel
theorem dX6_row_42 : decode cX6_row 42 = .ok (.ldc 65, 2) := by decide +kernel
theorem dX6_row_44 : decode cX6_row 44 = .ok (.ireturn, 1) := by decide +kernel
theorem dX6_row_45 : decode cX6_row 45 = .ok (.aload_n 0, 1) := by decide +kernel
theorem dX6_row_46 : decode cX6_row 46 = .ok (.invokevirtual 66, 3) := by decide +kernel
theorem dX6_row_49 : decode cX6_row 49 = .ok (.aload_n 0, 1) := by decide +kernel
theorem dX6_row_50 : decode cX6_row 50 = .ok (.getfield 10, 3) := by decide +kernel
theorem dX6_row_53 : decode cX6_row 53 = .ok (.iload_n 1, 1) := by decide +kernel
theorem dX6_row_54 : decode cX6_row 54 = .ok (.iload_n 2, 1) := by decide +kernel
theorem dX6_row_55 : decode cX6_row 55 = .ok (.invokevirtual 69, 3) := by decide +kernel
theorem dX6_row_58 : decode cX6_row 58 = .ok (.aload_n 0, 1) := by decide +kernel
theorem dX6_row_59 : decode cX6_row 59 = .ok (.getfield 10, 3) := by decide +kernel
theorem dX6_row_62 : decode cX6_row 62 = .ok (.getfield 55, 3) := by decide +kernel
theorem dX6_row_65 : decode cX6_row 65 = .ok (.invokevirtual 59, 3) := by decide +kernel
theorem dX6_row_68 : decode cX6_row 68 = .ok (.iconst 1, 1) := by decide +kernel
theorem dX6_row_69 : decode cX6_row 69 = .ok (.isub, 1) := by decide +kernel
theorem dX6_row_70 : decode cX6_row 70 = .ok (.ireturn, 1) := by decide +kernel
theorem dX6_drop_0 : decode cX6_drop 0 = .ok (.iload_n 1, 1) := by decide +kernel
theorem dX6_drop_1 : decode cX6_drop 1 = .ok (.ifCond .ge 6, 3) := by decide +kernel
theorem dX6_drop_4 : decode cX6_drop 4 = .ok (.ldc 54, 2) := by decide +kernel
theorem dX6_drop_6 : decode cX6_drop 6 = .ok (.ireturn, 1) := by decide +kernel
theorem dX6_drop_7 : decode cX6_drop 7 = .ok (.iload_n 1, 1) := by decide +kernel
theorem dX6_drop_8 : decode cX6_drop 8 = .ok (.aload_n 0, 1) := by decide +kernel
theorem dX6_drop_9 : decode cX6_drop 9 = .ok (.getfield 10, 3) := by decide +kernel
theorem dX6_drop_12 : decode cX6_drop 12 = .ok (.getfield 55, 3) := by decide +kernel
theorem dX6_drop_15 : decode cX6_drop 15 = .ok (.invokevirtual 59, 3) := by decide +kernel
theorem dX6_drop_18 : decode cX6_drop 18 = .ok (.if_icmp .lt 6, 3) := by decide +kernel
theorem dX6_drop_21 : decode cX6_drop 21 = .ok (.ldc 73, 2) := by decide +kernel
theorem dX6_drop_23 : decode cX6_drop 23 = .ok (.ireturn, 1) := by decide +kernel
theorem dX6_drop_24 : decode cX6_drop 24 = .ok (.aload_n 0, 1) := by decide +kernel
theorem dX6_drop_25 : decode cX6_drop 25 = .ok (.invokevirtual 66, 3) := by decide +kernel
theorem dX6_drop_28 : decode cX6_drop 28 = .ok (.aload_n 0, 1) := by decide +kernel
theorem dX6_drop_29 : decode cX6_drop 29 = .ok (.getfield 10, 3) := by decide +kernel
theorem dX6_drop_32 : decode cX6_drop 32 = .ok (.getfield 55, 3) := by decide +kernel
theorem dX6_drop_35 : decode cX6_drop 35 = .ok (.iload_n 1, 1) := by decide +kernel
theorem dX6_drop_36 : decode cX6_drop 36 = .ok (.invokevirtual 74, 3) := by decide +kernel
theorem dX6_drop_39 : decode cX6_drop 39 = .ok (.aload_n 0, 1) := by decide +kernel
theorem dX6_drop_40 : decode cX6_drop 40 = .ok (.getfield 10, 3) := by decide +kernel
theorem dX6_drop_43 : decode cX6_drop 43 = .ok (.getfield 55, 3) := by decide +kernel
theorem dX6_drop_46 : decode cX6_drop 46 = .ok (.invokevirtual 59, 3) := by decide +kernel
theorem dX6_drop_49 : decode cX6_drop 49 = .ok (.ireturn, 1) := by decide +kernel
theorem dX6_clear_0 : decode cX6_clear 0 = .ok (.aload_n 0, 1) := by decide +kernel
theorem dX6_clear_1 : decode cX6_clear 1 = .ok (.getfield 10, 3) := by decide +kernel
theorem dX6_clear_4 : decode cX6_clear 4 = .ok (.getfield 55, 3) := by decide +kernel
theorem dX6_clear_7 : decode cX6_clear 7 = .ok (.invokevirtual 59, 3) := by decide +kernel
theorem dX6_clear_10 : decode cX6_clear 10 = .ok (.istore_n 1, 1) := by decide +kernel
theorem dX6_clear_11 : decode cX6_clear 11 = .ok (.aload_n 0, 1) := by decide +kernel
theorem dX6_clear_12 : decode cX6_clear 12 = .ok (.invokevirtual 66, 3) := by decide +kernel
theorem dX6_clear_15 : decode cX6_clear 15 = .ok (.aload_n 0, 1) := by decide +kernel
theorem dX6_clear_16 : decode cX6_clear 16 = .ok (.getfield 10, 3) := by decide +kernel
theorem dX6_clear_19 : decode cX6_clear 19 = .ok (.getfield 55, 3) := by decide +kernel
theorem dX6_clear_22 : decode cX6_clear 22 = .ok (.iconst 0, 1) := by decide +kernel
theorem dX6_clear_23 : decode cX6_clear 23 = .ok (.invokevirtual 78, 3) := by decide +kernel
theorem dX6_clear_26 : decode cX6_clear 26 = .ok (.iload_n 1, 1) := by decide +kernel
theorem dX6_clear_27 : decode cX6_clear 27 = .ok (.ireturn, 1) := by decide +kernel
theorem dX6_set_0 : decode cX6_set 0 = .ok (.iload_n 1, 1) := by decide +kernel
theorem dX6_set_1 : decode cX6_set 1 = .ok (.iload_n 2, 1) := by decide +kernel
theorem dX6_set_2 : decode cX6_set 2 = .ok (.invokestatic 81, 3) := by decide +kernel
theorem dX6_set_5 : decode cX6_set 5 = .ok (.ifCond .ne 6, 3) := by decide +kernel
theorem dX6_set_8 : decode cX6_set 8 = .ok (.ldc 54, 2) := by decide +kernel
theorem dX6_set_10 : decode cX6_set 10 = .ok (.ireturn, 1) := by decide +kernel
theorem dX6_set_11 : decode cX6_set 11 = .ok (.aload_n 0, 1) := by decide +kernel
theorem dX6_set_12 : decode cX6_set 12 = .ok (.invokevirtual 66, 3) := by decide +kernel
theorem dX6_set_15 : decode cX6_set 15 = .ok (.aload_n 0, 1) := by decide +kernel
theorem dX6_set_16 : decode cX6_set 16 = .ok (.getfield 10, 3) := by decide +kernel
theorem dX6_set_19 : decode cX6_set 19 = .ok (.iload_n 1, 1) := by decide +kernel
theorem dX6_set_20 : decode cX6_set 20 = .ok (.invokevirtual 85, 3) := by decide +kernel
theorem dX6_set_23 : decode cX6_set 23 = .ok (.istore_n 3, 1) := by decide +kernel
theorem dX6_set_24 : decode cX6_set 24 = .ok (.aload_n 0, 1) := by decide +kernel
theorem dX6_set_25 : decode cX6_set 25 = .ok (.getfield 10, 3) := by decide +kernel
theorem dX6_set_28 : decode cX6_set 28 = .ok (.getfield 89, 3) := by decide +kernel
theorem dX6_set_31 : decode cX6_set 31 = .ok (.iload_n 1, 1) := by decide +kernel
theorem dX6_set_32 : decode cX6_set 32 = .ok (.iconst 0, 1) := by decide +kernel
theorem dX6_set_33 : decode cX6_set 33 = .ok (.iload_n 2, 1) := by decide +kernel
theorem dX6_set_34 : decode cX6_set 34 = .ok (.invokevirtual 92, 3) := by decide +kernel
theorem dX6_set_37 : decode cX6_set 37 = .ok (.iload_n 3, 1) := by decide +kernel
theorem dX6_set_38 : decode cX6_set 38 = .ok (.ireturn, 1) := by decide +kernel
theorem dX6_rowOf_0 : decode cX6_rowOf 0 = .ok (.iload_n 1, 1) := by decide +kernel
theorem dX6_rowOf_1 : decode cX6_rowOf 1 = .ok (.ifCond .lt 12, 3) := by decide +kernel
theorem dX6_rowOf_4 : decode cX6_rowOf 4 = .ok (.iload_n 2, 1) := by decide +kernel
theorem dX6_rowOf_5 : decode cX6_rowOf 5 = .ok (.iconst 0, 1) := by decide +kernel
theorem dX6_rowOf_6 : decode cX6_rowOf 6 = .ok (.iconst 3, 1) := by decide +kernel
theorem dX6_rowOf_7 : decode cX6_rowOf 7 = .ok (.invokestatic 50, 3) := by decide +kernel
theorem dX6_rowOf_10 : decode cX6_rowOf 10 = .ok (.ifCond .eq 6, 3) := by decide +kernel
theorem dX6_rowOf_13 : decode cX6_rowOf 13 = .ok (.ldc 54, 2) := by decide +kernel
theorem dX6_rowOf_15 : decode cX6_rowOf 15 = .ok (.ireturn, 1) := by decide +kernel
theorem dX6_rowOf_16 : decode cX6_rowOf 16 = .ok (.iload_n 1, 1) := by decide +kernel
theorem dX6_rowOf_17 : decode cX6_rowOf 17 = .ok (.aload_n 0, 1) := by decide +kernel
theorem dX6_rowOf_18 : decode cX6_rowOf 18 = .ok (.getfield 10, 3) := by decide +kernel
theorem dX6_rowOf_21 : decode cX6_rowOf 21 = .ok (.getfield 55, 3) := by decide +kernel
theorem dX6_rowOf_24 : decode cX6_rowOf 24 = .ok (.invokevirtual 59, 3) := by decide +kernel
theorem dX6_rowOf_27 : decode cX6_rowOf 27 = .ok (.if_icmp .lt 6, 3) := by decide +kernel
theorem dX6_rowOf_30 : decode cX6_rowOf 30 = .ok (.ldc 96, 2) := by decide +kernel
theorem dX6_rowOf_32 : decode cX6_rowOf 32 = .ok (.ireturn, 1) := by decide +kernel
theorem dX6_rowOf_33 : decode cX6_rowOf 33 = .ok (.iload_n 2, 1) := by decide +kernel
theorem dX6_rowOf_34 : decode cX6_rowOf 34 = .ok (.tableswitch 53 0 2 #[26, 35, 44], 26) := by decide +kernel
theorem dX6_rowOf_60 : decode cX6_rowOf 60 = .ok (.aload_n 0, 1) := by decide +kernel
theorem dX6_rowOf_61 : decode cX6_rowOf 61 = .ok (.getfield 10, 3) := by decide +kernel
theorem dX6_rowOf_64 : decode cX6_rowOf 64 = .ok (.iload_n 1, 1) := by decide +kernel
theorem dX6_rowOf_65 : decode cX6_rowOf 65 = .ok (.invokevirtual 97, 3) := by decide +kernel
theorem dX6_rowOf_68 : decode cX6_rowOf 68 = .ok (.ireturn, 1) := by decide +kernel
theorem dX6_rowOf_69 : decode cX6_rowOf 69 = .ok (.aload_n 0, 1) := by decide +kernel
theorem dX6_rowOf_70 : decode cX6_rowOf 70 = .ok (.getfield 10, 3) := by decide +kernel
theorem dX6_rowOf_73 : decode cX6_rowOf 73 = .ok (.iload_n 1, 1) := by decide +kernel
theorem dX6_rowOf_74 : decode cX6_rowOf 74 = .ok (.invokevirtual 100, 3) := by decide +kernel
theorem dX6_rowOf_77 : decode cX6_rowOf 77 = .ok (.ireturn, 1) := by decide +kernel
theorem dX6_rowOf_78 : decode cX6_rowOf 78 = .ok (.aload_n 0, 1) := by decide +kernel
theorem dX6_rowOf_79 : decode cX6_rowOf 79 = .ok (.getfield 10, 3) := by decide +kernel
theorem dX6_rowOf_82 : decode cX6_rowOf 82 = .ok (.iload_n 1, 1) := by decide +kernel
theorem dX6_rowOf_83 : decode cX6_rowOf 83 = .ok (.invokevirtual 103, 3) := by decide +kernel
theorem dX6_rowOf_86 : decode cX6_rowOf 86 = .ok (.ireturn, 1) := by decide +kernel
theorem dX6_rowOf_87 : decode cX6_rowOf 87 = .ok (.aload_n 0, 1) := by decide +kernel
theorem dX6_rowOf_88 : decode cX6_rowOf 88 = .ok (.aload_n 0, 1) := by decide +kernel
theorem dX6_rowOf_89 : decode cX6_rowOf 89 = .ok (.getfield 10, 3) := by decide +kernel
theorem dX6_rowOf_92 : decode cX6_rowOf 92 = .ok (.iload_n 1, 1) := by decide +kernel
theorem dX6_rowOf_93 : decode cX6_rowOf 93 = .ok (.invokevirtual 103, 3) := by decide +kernel
theorem dX6_rowOf_96 : decode cX6_rowOf 96 = .ok (.invokevirtual 106, 3) := by decide +kernel
theorem dX6_rowOf_99 : decode cX6_rowOf 99 = .ok (.ireturn, 1) := by decide +kernel
theorem dX6_groupOf_0 : decode cX6_groupOf 0 = .ok (.iload_n 1, 1) := by decide +kernel
theorem dX6_groupOf_1 : decode cX6_groupOf 1 = .ok (.ifCond .lt 13, 3) := by decide +kernel
theorem dX6_groupOf_4 : decode cX6_groupOf 4 = .ok (.iload_n 2, 1) := by decide +kernel
theorem dX6_groupOf_5 : decode cX6_groupOf 5 = .ok (.iconst 0, 1) := by decide +kernel
theorem dX6_groupOf_6 : decode cX6_groupOf 6 = .ok (.bipush 7, 2) := by decide +kernel
theorem dX6_groupOf_8 : decode cX6_groupOf 8 = .ok (.invokestatic 50, 3) := by decide +kernel
theorem dX6_groupOf_11 : decode cX6_groupOf 11 = .ok (.ifCond .eq 6, 3) := by decide +kernel
theorem dX6_groupOf_14 : decode cX6_groupOf 14 = .ok (.ldc 54, 2) := by decide +kernel
theorem dX6_groupOf_16 : decode cX6_groupOf 16 = .ok (.ireturn, 1) := by decide +kernel
theorem dX6_groupOf_17 : decode cX6_groupOf 17 = .ok (.iload_n 1, 1) := by decide +kernel
theorem dX6_groupOf_18 : decode cX6_groupOf 18 = .ok (.aload_n 0, 1) := by decide +kernel
theorem dX6_groupOf_19 : decode cX6_groupOf 19 = .ok (.invokevirtual 109, 3) := by decide +kernel
theorem dX6_groupOf_22 : decode cX6_groupOf 22 = .ok (.getfield 113, 3) := by decide +kernel
theorem dX6_groupOf_25 : decode cX6_groupOf 25 = .ok (.invokevirtual 59, 3) := by decide +kernel
theorem dX6_groupOf_28 : decode cX6_groupOf 28 = .ok (.if_icmp .lt 6, 3) := by decide +kernel
theorem dX6_groupOf_31 : decode cX6_groupOf 31 = .ok (.ldc 96, 2) := by decide +kernel
theorem dX6_groupOf_33 : decode cX6_groupOf 33 = .ok (.ireturn, 1) := by decide +kernel
theorem dX6_groupOf_34 : decode cX6_groupOf 34 = .ok (.iload_n 2, 1) := by decide +kernel
theorem dX6_groupOf_35 : decode cX6_groupOf 35 = .ok (.iconst 4, 1) := by decide +kernel
theorem dX6_groupOf_36 : decode cX6_groupOf 36 = .ok (.if_icmp .gt 16, 3) := by decide +kernel
theorem dX6_groupOf_39 : decode cX6_groupOf 39 = .ok (.aload_n 0, 1) := by decide +kernel
theorem dX6_groupOf_40 : decode cX6_groupOf 40 = .ok (.getfield 26, 3) := by decide +kernel
theorem dX6_groupOf_43 : decode cX6_groupOf 43 = .ok (.getfield 113, 3) := by decide +kernel
theorem dX6_groupOf_46 : decode cX6_groupOf 46 = .ok (.iload_n 1, 1) := by decide +kernel
theorem dX6_groupOf_47 : decode cX6_groupOf 47 = .ok (.iload_n 2, 1) := by decide +kernel
theorem dX6_groupOf_48 : decode cX6_groupOf 48 = .ok (.invokevirtual 116, 3) := by decide +kernel
theorem dX6_groupOf_51 : decode cX6_groupOf 51 = .ok (.ireturn, 1) := by decide +kernel
theorem dX6_groupOf_52 : decode cX6_groupOf 52 = .ok (.aload_n 0, 1) := by decide +kernel
theorem dX6_groupOf_53 : decode cX6_groupOf 53 = .ok (.invokevirtual 120, 3) := by decide +kernel
theorem dX6_groupOf_56 : decode cX6_groupOf 56 = .ok (.getfield 124, 3) := by decide +kernel
theorem dX6_groupOf_59 : decode cX6_groupOf 59 = .ok (.iload_n 1, 1) := by decide +kernel
theorem dX6_groupOf_60 : decode cX6_groupOf 60 = .ok (.iload_n 2, 1) := by decide +kernel
theorem dX6_groupOf_61 : decode cX6_groupOf 61 = .ok (.iconst 4, 1) := by decide +kernel
theorem dX6_groupOf_62 : decode cX6_groupOf 62 = .ok (.isub, 1) := by decide +kernel
theorem dX6_groupOf_63 : decode cX6_groupOf 63 = .ok (.iconst 1, 1) := by decide +kernel
theorem dX6_groupOf_64 : decode cX6_groupOf 64 = .ok (.isub, 1) := by decide +kernel
theorem dX6_groupOf_65 : decode cX6_groupOf 65 = .ok (.invokevirtual 116, 3) := by decide +kernel
theorem dX6_groupOf_68 : decode cX6_groupOf 68 = .ok (.ireturn, 1) := by decide +kernel
theorem dX6_finished_0 : decode cX6_finished 0 = .ok (.iload_n 1, 1) := by decide +kernel
theorem dX6_finished_1 : decode cX6_finished 1 = .ok (.ifCond .ge 6, 3) := by decide +kernel
theorem dX6_finished_4 : decode cX6_finished 4 = .ok (.ldc 54, 2) := by decide +kernel
theorem dX6_finished_6 : decode cX6_finished 6 = .ok (.ireturn, 1) := by decide +kernel
theorem dX6_finished_7 : decode cX6_finished 7 = .ok (.aload_n 0, 1) := by decide +kernel
theorem dX6_finished_8 : decode cX6_finished 8 = .ok (.invokevirtual 120, 3) := by decide +kernel
theorem dX6_finished_11 : decode cX6_finished 11 = .ok (.getfield 127, 3) := by decide +kernel
theorem dX6_finished_14 : decode cX6_finished 14 = .ok (.astore_n 2, 1) := by decide +kernel
theorem dX6_finished_15 : decode cX6_finished 15 = .ok (.iload_n 1, 1) := by decide +kernel
theorem dX6_finished_16 : decode cX6_finished 16 = .ok (.aload_n 2, 1) := by decide +kernel
theorem dX6_finished_17 : decode cX6_finished 17 = .ok (.invokevirtual 59, 3) := by decide +kernel
theorem dX6_finished_20 : decode cX6_finished 20 = .ok (.if_icmp .lt 6, 3) := by decide +kernel
theorem dX6_finished_23 : decode cX6_finished 23 = .ok (.ldc 96, 2) := by decide +kernel
theorem dX6_finished_25 : decode cX6_finished 25 = .ok (.ireturn, 1) := by decide +kernel
theorem dX6_finished_26 : decode cX6_finished 26 = .ok (.aload_n 0, 1) := by decide +kernel
theorem dX6_finished_27 : decode cX6_finished 27 = .ok (.getfield 26, 3) := by decide +kernel
theorem dX6_finished_30 : decode cX6_finished 30 = .ok (.getfield 113, 3) := by decide +kernel
theorem dX6_finished_33 : decode cX6_finished 33 = .ok (.aload_n 2, 1) := by decide +kernel
theorem dX6_finished_34 : decode cX6_finished 34 = .ok (.iload_n 1, 1) := by decide +kernel
theorem dX6_finished_35 : decode cX6_finished 35 = .ok (.iconst 0, 1) := by decide +kernel
theorem dX6_finished_36 : decode cX6_finished 36 = .ok (.invokevirtual 116, 3) := by decide +kernel
theorem dX6_finished_39 : decode cX6_finished 39 = .ok (.iconst 0, 1) := by decide +kernel
theorem dX6_finished_40 : decode cX6_finished 40 = .ok (.invokevirtual 116, 3) := by decide +kernel
theorem dX6_finished_43 : decode cX6_finished 43 = .ok (.ireturn, 1) := by decide +kernel
theorem dX6_passOf_0 : decode cX6_passOf 0 = .ok (.iload_n 1, 1) := by decide +kernel
theorem dX6_passOf_1 : decode cX6_passOf 1 = .ok (.iconst 0, 1) := by decide +kernel
theorem dX6_passOf_2 : decode cX6_passOf 2 = .ok (.bipush 15, 2) := by decide +kernel
theorem dX6_passOf_4 : decode cX6_passOf 4 = .ok (.invokestatic 50, 3) := by decide +kernel
theorem dX6_passOf_7 : decode cX6_passOf 7 = .ok (.ifCond .ne 22, 3) := by decide +kernel
theorem dX6_passOf_10 : decode cX6_passOf 10 = .ok (.iload_n 2, 1) := by decide +kernel
theorem dX6_passOf_11 : decode cX6_passOf 11 = .ok (.iconst 0, 1) := by decide +kernel
theorem dX6_passOf_12 : decode cX6_passOf 12 = .ok (.ldc 130, 2) := by decide +kernel
theorem dX6_passOf_14 : decode cX6_passOf 14 = .ok (.invokestatic 50, 3) := by decide +kernel
theorem dX6_passOf_17 : decode cX6_passOf 17 = .ok (.ifCond .ne 12, 3) := by decide +kernel
theorem dX6_passOf_20 : decode cX6_passOf 20 = .ok (.iload_n 3, 1) := by decide +kernel
theorem dX6_passOf_21 : decode cX6_passOf 21 = .ok (.iconst 0, 1) := by decide +kernel
theorem dX6_passOf_22 : decode cX6_passOf 22 = .ok (.iconst 5, 1) := by decide +kernel
theorem dX6_passOf_23 : decode cX6_passOf 23 = .ok (.invokestatic 50, 3) := by decide +kernel
theorem dX6_passOf_26 : decode cX6_passOf 26 = .ok (.ifCond .eq 6, 3) := by decide +kernel
theorem dX6_passOf_29 : decode cX6_passOf 29 = .ok (.ldc 54, 2) := by decide +kernel
theorem dX6_passOf_31 : decode cX6_passOf 31 = .ok (.ireturn, 1) := by decide +kernel
theorem dX6_passOf_32 : decode cX6_passOf 32 = .ok (.aload_n 0, 1) := by decide +kernel
theorem dX6_passOf_33 : decode cX6_passOf 33 = .ok (.invokevirtual 120, 3) := by decide +kernel
theorem dX6_passOf_36 : decode cX6_passOf 36 = .ok (.iload_n 1, 1) := by decide +kernel
theorem dX6_passOf_37 : decode cX6_passOf 37 = .ok (.iload_n 2, 1) := by decide +kernel
theorem dX6_passOf_38 : decode cX6_passOf 38 = .ok (.invokevirtual 131, 3) := by decide +kernel
theorem dX6_passOf_41 : decode cX6_passOf 41 = .ok (.istore 4, 2) := by decide +kernel
theorem dX6_passOf_43 : decode cX6_passOf 43 = .ok (.iload 4, 2) := by decide +kernel
theorem dX6_passOf_45 : decode cX6_passOf 45 = .ok (.ifCond .ge 8, 3) := by decide +kernel
theorem dX6_passOf_48 : decode cX6_passOf 48 = .ok (.ldc 96, 2) := by decide +kernel
theorem dX6_passOf_50 : decode cX6_passOf 50 = .ok (.goto 16, 3) := by decide +kernel
theorem dX6_passOf_53 : decode cX6_passOf 53 = .ok (.aload_n 0, 1) := by decide +kernel
theorem dX6_passOf_54 : decode cX6_passOf 54 = .ok (.getfield 35, 3) := by decide +kernel
theorem dX6_passOf_57 : decode cX6_passOf 57 = .ok (.getfield 134, 3) := by decide +kernel
theorem dX6_passOf_60 : decode cX6_passOf 60 = .ok (.iload 4, 2) := by decide +kernel
theorem dX6_passOf_62 : decode cX6_passOf 62 = .ok (.iload_n 3, 1) := by decide +kernel
theorem dX6_passOf_63 : decode cX6_passOf 63 = .ok (.invokevirtual 116, 3) := by decide +kernel
theorem dX6_passOf_66 : decode cX6_passOf 66 = .ok (.ireturn, 1) := by decide +kernel
theorem dX6_spillOf_0 : decode cX6_spillOf 0 = .ok (.iload_n 1, 1) := by decide +kernel
theorem dX6_spillOf_1 : decode cX6_spillOf 1 = .ok (.ifCond .lt 12, 3) := by decide +kernel
theorem dX6_spillOf_4 : decode cX6_spillOf 4 = .ok (.iload_n 2, 1) := by decide +kernel
theorem dX6_spillOf_5 : decode cX6_spillOf 5 = .ok (.iconst 0, 1) := by decide +kernel
theorem dX6_spillOf_6 : decode cX6_spillOf 6 = .ok (.iconst 4, 1) := by decide +kernel
theorem dX6_spillOf_7 : decode cX6_spillOf 7 = .ok (.invokestatic 50, 3) := by decide +kernel
theorem dX6_spillOf_10 : decode cX6_spillOf 10 = .ok (.ifCond .eq 6, 3) := by decide +kernel
theorem dX6_spillOf_13 : decode cX6_spillOf 13 = .ok (.ldc 54, 2) := by decide +kernel
theorem dX6_spillOf_15 : decode cX6_spillOf 15 = .ok (.ireturn, 1) := by decide +kernel
theorem dX6_spillOf_16 : decode cX6_spillOf 16 = .ok (.aload_n 0, 1) := by decide +kernel
theorem dX6_spillOf_17 : decode cX6_spillOf 17 = .ok (.invokevirtual 120, 3) := by decide +kernel
theorem dX6_spillOf_20 : decode cX6_spillOf 20 = .ok (.getfield 136, 3) := by decide +kernel
theorem dX6_spillOf_23 : decode cX6_spillOf 23 = .ok (.astore_n 3, 1) := by decide +kernel
theorem dX6_spillOf_24 : decode cX6_spillOf 24 = .ok (.iload_n 1, 1) := by decide +kernel
theorem dX6_spillOf_25 : decode cX6_spillOf 25 = .ok (.aload_n 3, 1) := by decide +kernel
theorem dX6_spillOf_26 : decode cX6_spillOf 26 = .ok (.invokevirtual 59, 3) := by decide +kernel
theorem dX6_spillOf_29 : decode cX6_spillOf 29 = .ok (.if_icmp .lt 8, 3) := by decide +kernel
theorem dX6_spillOf_32 : decode cX6_spillOf 32 = .ok (.ldc 96, 2) := by decide +kernel
theorem dX6_spillOf_34 : decode cX6_spillOf 34 = .ok (.goto 9, 3) := by decide +kernel
theorem dX6_spillOf_37 : decode cX6_spillOf 37 = .ok (.aload_n 3, 1) := by decide +kernel
theorem dX6_spillOf_38 : decode cX6_spillOf 38 = .ok (.iload_n 1, 1) := by decide +kernel
theorem dX6_spillOf_39 : decode cX6_spillOf 39 = .ok (.iload_n 2, 1) := by decide +kernel
theorem dX6_spillOf_40 : decode cX6_spillOf 40 = .ok (.invokevirtual 116, 3) := by decide +kernel
theorem dX6_spillOf_43 : decode cX6_spillOf 43 = .ok (.ireturn, 1) := by decide +kernel
theorem dX6_total_0 : decode cX6_total 0 = .ok (.aload_n 0, 1) := by decide +kernel
theorem dX6_total_1 : decode cX6_total 1 = .ok (.invokevirtual 120, 3) := by decide +kernel
theorem dX6_total_4 : decode cX6_total 4 = .ok (.astore_n 2, 1) := by decide +kernel
theorem dX6_total_5 : decode cX6_total 5 = .ok (.iload_n 1, 1) := by decide +kernel
theorem dX6_total_6 : decode cX6_total 6 = .ok (.tableswitch 104 0 7 #[46, 54, 62, 70, 75, 80, 90, 99], 46) := by decide +kernel
theorem dX6_total_52 : decode cX6_total 52 = .ok (.aload_n 2, 1) := by decide +kernel
theorem dX6_total_53 : decode cX6_total 53 = .ok (.getfield 127, 3) := by decide +kernel
theorem dX6_total_56 : decode cX6_total 56 = .ok (.invokevirtual 59, 3) := by decide +kernel
theorem dX6_total_59 : decode cX6_total 59 = .ok (.ireturn, 1) := by decide +kernel
theorem dX6_total_60 : decode cX6_total 60 = .ok (.aload_n 2, 1) := by decide +kernel
theorem dX6_total_61 : decode cX6_total 61 = .ok (.getfield 134, 3) := by decide +kernel
theorem dX6_total_64 : decode cX6_total 64 = .ok (.invokevirtual 59, 3) := by decide +kernel
theorem dX6_total_67 : decode cX6_total 67 = .ok (.ireturn, 1) := by decide +kernel
theorem dX6_total_68 : decode cX6_total 68 = .ok (.aload_n 2, 1) := by decide +kernel
theorem dX6_total_69 : decode cX6_total 69 = .ok (.getfield 136, 3) := by decide +kernel
theorem dX6_total_72 : decode cX6_total 72 = .ok (.invokevirtual 59, 3) := by decide +kernel
theorem dX6_total_75 : decode cX6_total 75 = .ok (.ireturn, 1) := by decide +kernel
theorem dX6_total_76 : decode cX6_total 76 = .ok (.aload_n 2, 1) := by decide +kernel
theorem dX6_total_77 : decode cX6_total 77 = .ok (.invokevirtual 139, 3) := by decide +kernel
theorem dX6_total_80 : decode cX6_total 80 = .ok (.ireturn, 1) := by decide +kernel
theorem dX6_total_81 : decode cX6_total 81 = .ok (.aload_n 2, 1) := by decide +kernel
theorem dX6_total_82 : decode cX6_total 82 = .ok (.invokevirtual 142, 3) := by decide +kernel
theorem dX6_total_85 : decode cX6_total 85 = .ok (.ireturn, 1) := by decide +kernel
theorem dX6_total_86 : decode cX6_total 86 = .ok (.aload_n 2, 1) := by decide +kernel
theorem dX6_total_87 : decode cX6_total 87 = .ok (.getfield 134, 3) := by decide +kernel
theorem dX6_total_90 : decode cX6_total 90 = .ok (.bipush 6, 2) := by decide +kernel
theorem dX6_total_92 : decode cX6_total 92 = .ok (.invokevirtual 145, 3) := by decide +kernel
theorem dX6_total_95 : decode cX6_total 95 = .ok (.ireturn, 1) := by decide +kernel
theorem dX6_total_96 : decode cX6_total 96 = .ok (.aload_n 2, 1) := by decide +kernel
theorem dX6_total_97 : decode cX6_total 97 = .ok (.getfield 134, 3) := by decide +kernel
theorem dX6_total_100 : decode cX6_total 100 = .ok (.iconst 4, 1) := by decide +kernel
theorem dX6_total_101 : decode cX6_total 101 = .ok (.invokevirtual 145, 3) := by decide +kernel
theorem dX6_total_104 : decode cX6_total 104 = .ok (.ireturn, 1) := by decide +kernel
theorem dX6_total_105 : decode cX6_total 105 = .ok (.aload_n 2, 1) := by decide +kernel
theorem dX6_total_106 : decode cX6_total 106 = .ok (.getfield 148, 3) := by decide +kernel
theorem dX6_total_109 : decode cX6_total 109 = .ok (.ireturn, 1) := by decide +kernel
theorem dX6_total_110 : decode cX6_total 110 = .ok (.ldc 54, 2) := by decide +kernel
theorem dX6_total_112 : decode cX6_total 112 = .ok (.ireturn, 1) := by decide +kernel
theorem dX6_written_0 : decode cX6_written 0 = .ok (.iload_n 1, 1) := by decide +kernel
theorem dX6_written_1 : decode cX6_written 1 = .ok (.iconst 1, 1) := by decide +kernel
theorem dX6_written_2 : decode cX6_written 2 = .ok (.bipush 12, 2) := by decide +kernel
theorem dX6_written_4 : decode cX6_written 4 = .ok (.invokestatic 50, 3) := by decide +kernel
theorem dX6_written_7 : decode cX6_written 7 = .ok (.ifCond .ne 12, 3) := by decide +kernel
theorem dX6_written_10 : decode cX6_written 10 = .ok (.iload_n 2, 1) := by decide +kernel
theorem dX6_written_11 : decode cX6_written 11 = .ok (.iconst 1, 1) := by decide +kernel
theorem dX6_written_12 : decode cX6_written 12 = .ok (.iconst 4, 1) := by decide +kernel
theorem dX6_written_13 : decode cX6_written 13 = .ok (.invokestatic 50, 3) := by decide +kernel
theorem dX6_written_16 : decode cX6_written 16 = .ok (.ifCond .eq 6, 3) := by decide +kernel
theorem dX6_written_19 : decode cX6_written 19 = .ok (.ldc 54, 2) := by decide +kernel
theorem dX6_written_21 : decode cX6_written 21 = .ok (.ireturn, 1) := by decide +kernel
theorem dX6_written_22 : decode cX6_written 22 = .ok (.aload_n 0, 1) := by decide +kernel
theorem dX6_written_23 : decode cX6_written 23 = .ok (.iload_n 1, 1) := by decide +kernel
theorem dX6_written_24 : decode cX6_written 24 = .ok (.iload_n 2, 1) := by decide +kernel
theorem dX6_written_25 : decode cX6_written 25 = .ok (.invokevirtual 152, 3) := by decide +kernel
theorem dX6_written_28 : decode cX6_written 28 = .ok (.invokevirtual 139, 3) := by decide +kernel
theorem dX6_written_31 : decode cX6_written 31 = .ok (.ireturn, 1) := by decide +kernel
theorem dX6_bestBits_0 : decode cX6_bestBits 0 = .ok (.iload_n 1, 1) := by decide +kernel
theorem dX6_bestBits_1 : decode cX6_bestBits 1 = .ok (.iconst 1, 1) := by decide +kernel
theorem dX6_bestBits_2 : decode cX6_bestBits 2 = .ok (.bipush 12, 2) := by decide +kernel
theorem dX6_bestBits_4 : decode cX6_bestBits 4 = .ok (.invokestatic 50, 3) := by decide +kernel
theorem dX6_bestBits_7 : decode cX6_bestBits 7 = .ok (.ifCond .ne 12, 3) := by decide +kernel
theorem dX6_bestBits_10 : decode cX6_bestBits 10 = .ok (.iload_n 2, 1) := by decide +kernel
theorem dX6_bestBits_11 : decode cX6_bestBits 11 = .ok (.iconst 0, 1) := by decide +kernel
theorem dX6_bestBits_12 : decode cX6_bestBits 12 = .ok (.iconst 1, 1) := by decide +kernel
theorem dX6_bestBits_13 : decode cX6_bestBits 13 = .ok (.invokestatic 50, 3) := by decide +kernel
theorem dX6_bestBits_16 : decode cX6_bestBits 16 = .ok (.ifCond .eq 6, 3) := by decide +kernel
theorem dX6_bestBits_19 : decode cX6_bestBits 19 = .ok (.ldc 54, 2) := by decide +kernel
theorem dX6_bestBits_21 : decode cX6_bestBits 21 = .ok (.ireturn, 1) := by decide +kernel
theorem dX6_bestBits_22 : decode cX6_bestBits 22 = .ok (.iconst 1, 1) := by decide +kernel
theorem dX6_bestBits_23 : decode cX6_bestBits 23 = .ok (.istore_n 3, 1) := by decide +kernel
theorem dX6_bestBits_24 : decode cX6_bestBits 24 = .ok (.aload_n 0, 1) := by decide +kernel
theorem dX6_bestBits_25 : decode cX6_bestBits 25 = .ok (.iload_n 1, 1) := by decide +kernel
theorem dX6_bestBits_26 : decode cX6_bestBits 26 = .ok (.iconst 1, 1) := by decide +kernel
theorem dX6_bestBits_27 : decode cX6_bestBits 27 = .ok (.invokevirtual 152, 3) := by decide +kernel
theorem dX6_bestBits_30 : decode cX6_bestBits 30 = .ok (.invokevirtual 139, 3) := by decide +kernel
theorem dX6_bestBits_33 : decode cX6_bestBits 33 = .ok (.istore 4, 2) := by decide +kernel
theorem dX6_bestBits_35 : decode cX6_bestBits 35 = .ok (.iconst 2, 1) := by decide +kernel
theorem dX6_bestBits_36 : decode cX6_bestBits 36 = .ok (.istore 5, 2) := by decide +kernel
theorem dX6_bestBits_38 : decode cX6_bestBits 38 = .ok (.iload 5, 2) := by decide +kernel
theorem dX6_bestBits_40 : decode cX6_bestBits 40 = .ok (.iconst 4, 1) := by decide +kernel
theorem dX6_bestBits_41 : decode cX6_bestBits 41 = .ok (.if_icmp .gt 35, 3) := by decide +kernel
theorem dX6_bestBits_44 : decode cX6_bestBits 44 = .ok (.aload_n 0, 1) := by decide +kernel
theorem dX6_bestBits_45 : decode cX6_bestBits 45 = .ok (.iload_n 1, 1) := by decide +kernel
theorem dX6_bestBits_46 : decode cX6_bestBits 46 = .ok (.iload 5, 2) := by decide +kernel
theorem dX6_bestBits_48 : decode cX6_bestBits 48 = .ok (.invokevirtual 152, 3) := by decide +kernel
theorem dX6_bestBits_51 : decode cX6_bestBits 51 = .ok (.invokevirtual 139, 3) := by decide +kernel
theorem dX6_bestBits_54 : decode cX6_bestBits 54 = .ok (.istore 6, 2) := by decide +kernel
theorem dX6_bestBits_56 : decode cX6_bestBits 56 = .ok (.iload 6, 2) := by decide +kernel
theorem dX6_bestBits_58 : decode cX6_bestBits 58 = .ok (.iload 4, 2) := by decide +kernel
theorem dX6_bestBits_60 : decode cX6_bestBits 60 = .ok (.if_icmp .ge 10, 3) := by decide +kernel
theorem dX6_bestBits_63 : decode cX6_bestBits 63 = .ok (.iload 5, 2) := by decide +kernel
theorem dX6_bestBits_65 : decode cX6_bestBits 65 = .ok (.istore_n 3, 1) := by decide +kernel
theorem dX6_bestBits_66 : decode cX6_bestBits 66 = .ok (.iload 6, 2) := by decide +kernel
theorem dX6_bestBits_68 : decode cX6_bestBits 68 = .ok (.istore 4, 2) := by decide +kernel
theorem dX6_bestBits_70 : decode cX6_bestBits 70 = .ok (.iinc 5 1, 3) := by decide +kernel
theorem dX6_bestBits_73 : decode cX6_bestBits 73 = .ok (.goto (-35), 3) := by decide +kernel
theorem dX6_bestBits_76 : decode cX6_bestBits 76 = .ok (.iload_n 2, 1) := by decide +kernel
theorem dX6_bestBits_77 : decode cX6_bestBits 77 = .ok (.ifCond .ne 7, 3) := by decide +kernel
theorem dX6_bestBits_80 : decode cX6_bestBits 80 = .ok (.iload_n 3, 1) := by decide +kernel
theorem dX6_bestBits_81 : decode cX6_bestBits 81 = .ok (.goto 5, 3) := by decide +kernel
theorem dX6_bestBits_84 : decode cX6_bestBits 84 = .ok (.iload 4, 2) := by decide +kernel
theorem dX6_bestBits_86 : decode cX6_bestBits 86 = .ok (.ireturn, 1) := by decide +kernel
theorem dX6_enough_0 : decode cX6_enough 0 = .ok (.aload_n 0, 1) := by decide +kernel
theorem dX6_enough_1 : decode cX6_enough 1 = .ok (.invokevirtual 109, 3) := by decide +kernel
theorem dX6_enough_4 : decode cX6_enough 4 = .ok (.getfield 113, 3) := by decide +kernel
theorem dX6_enough_7 : decode cX6_enough 7 = .ok (.invokevirtual 59, 3) := by decide +kernel
theorem dX6_enough_10 : decode cX6_enough 10 = .ok (.iconst 1, 1) := by decide +kernel
theorem dX6_enough_11 : decode cX6_enough 11 = .ok (.invokestatic 156, 3) := by decide +kernel
theorem dX6_enough_14 : decode cX6_enough 14 = .ok (.istore_n 1, 1) := by decide +kernel
theorem dX6_enough_15 : decode cX6_enough 15 = .ok (.iload_n 1, 1) := by decide +kernel
theorem dX6_enough_16 : decode cX6_enough 16 = .ok (.bipush 12, 2) := by decide +kernel
theorem dX6_enough_18 : decode cX6_enough 18 = .ok (.if_icmp .le 8, 3) := by decide +kernel
theorem dX6_enough_21 : decode cX6_enough 21 = .ok (.ldc 96, 2) := by decide +kernel
theorem dX6_enough_23 : decode cX6_enough 23 = .ok (.goto 4, 3) := by decide +kernel
theorem dX6_enough_26 : decode cX6_enough 26 = .ok (.iload_n 1, 1) := by decide +kernel
theorem dX6_enough_27 : decode cX6_enough 27 = .ok (.ireturn, 1) := by decide +kernel
theorem dX6_skewed_0 : decode cX6_skewed 0 = .ok (.iload_n 1, 1) := by decide +kernel
theorem dX6_skewed_1 : decode cX6_skewed 1 = .ok (.iconst 0, 1) := by decide +kernel
theorem dX6_skewed_2 : decode cX6_skewed 2 = .ok (.iconst 2, 1) := by decide +kernel
theorem dX6_skewed_3 : decode cX6_skewed 3 = .ok (.invokestatic 50, 3) := by decide +kernel
theorem dX6_skewed_6 : decode cX6_skewed 6 = .ok (.ifCond .eq 6, 3) := by decide +kernel
theorem dX6_skewed_9 : decode cX6_skewed 9 = .ok (.ldc 54, 2) := by decide +kernel
theorem dX6_skewed_11 : decode cX6_skewed 11 = .ok (.ireturn, 1) := by decide +kernel
theorem dX6_skewed_12 : decode cX6_skewed 12 = .ok (.aload_n 0, 1) := by decide +kernel
theorem dX6_skewed_13 : decode cX6_skewed 13 = .ok (.getfield 10, 3) := by decide +kernel
theorem dX6_skewed_16 : decode cX6_skewed 16 = .ok (.getfield 55, 3) := by decide +kernel
theorem dX6_skewed_19 : decode cX6_skewed 19 = .ok (.invokevirtual 59, 3) := by decide +kernel
theorem dX6_skewed_22 : decode cX6_skewed 22 = .ok (.ifCond .ne 6, 3) := by decide +kernel
theorem dX6_skewed_25 : decode cX6_skewed 25 = .ok (.ldc 96, 2) := by decide +kernel
theorem dX6_skewed_27 : decode cX6_skewed 27 = .ok (.ireturn, 1) := by decide +kernel
theorem dX6_skewed_28 : decode cX6_skewed 28 = .ok (.iconst 0, 1) := by decide +kernel
theorem dX6_skewed_29 : decode cX6_skewed 29 = .ok (.istore_n 2, 1) := by decide +kernel
theorem dX6_skewed_30 : decode cX6_skewed 30 = .ok (.iconst 0, 1) := by decide +kernel
theorem dX6_skewed_31 : decode cX6_skewed 31 = .ok (.istore_n 3, 1) := by decide +kernel
theorem dX6_skewed_32 : decode cX6_skewed 32 = .ok (.iconst 0, 1) := by decide +kernel
theorem dX6_skewed_33 : decode cX6_skewed 33 = .ok (.istore 4, 2) := by decide +kernel
theorem dX6_skewed_35 : decode cX6_skewed 35 = .ok (.iload 4, 2) := by decide +kernel
theorem dX6_skewed_37 : decode cX6_skewed 37 = .ok (.iconst 1, 1) := by decide +kernel
theorem dX6_skewed_38 : decode cX6_skewed 38 = .ok (.aload_n 0, 1) := by decide +kernel
theorem dX6_skewed_39 : decode cX6_skewed 39 = .ok (.getfield 10, 3) := by decide +kernel
theorem dX6_skewed_42 : decode cX6_skewed 42 = .ok (.iconst 1, 1) := by decide +kernel
theorem dX6_skewed_43 : decode cX6_skewed 43 = .ok (.invokevirtual 85, 3) := by decide +kernel
theorem dX6_skewed_46 : decode cX6_skewed 46 = .ok (.ishl, 1) := by decide +kernel
theorem dX6_skewed_47 : decode cX6_skewed 47 = .ok (.if_icmp .ge 29, 3) := by decide +kernel
theorem dX6_skewed_50 : decode cX6_skewed 50 = .ok (.aload_n 0, 1) := by decide +kernel
theorem dX6_skewed_51 : decode cX6_skewed 51 = .ok (.iload 4, 2) := by decide +kernel
theorem dX6_skewed_53 : decode cX6_skewed 53 = .ok (.invokevirtual 161, 3) := by decide +kernel
theorem dX6_skewed_56 : decode cX6_skewed 56 = .ok (.istore 5, 2) := by decide +kernel
theorem dX6_skewed_58 : decode cX6_skewed 58 = .ok (.iload 5, 2) := by decide +kernel
theorem dX6_skewed_60 : decode cX6_skewed 60 = .ok (.iload_n 3, 1) := by decide +kernel
theorem dX6_skewed_61 : decode cX6_skewed 61 = .ok (.if_icmp .le 9, 3) := by decide +kernel
theorem dX6_skewed_64 : decode cX6_skewed 64 = .ok (.iload 4, 2) := by decide +kernel
theorem dX6_skewed_66 : decode cX6_skewed 66 = .ok (.istore_n 2, 1) := by decide +kernel
theorem dX6_skewed_67 : decode cX6_skewed 67 = .ok (.iload 5, 2) := by decide +kernel
theorem dX6_skewed_69 : decode cX6_skewed 69 = .ok (.istore_n 3, 1) := by decide +kernel
theorem dX6_skewed_70 : decode cX6_skewed 70 = .ok (.iinc 4 1, 3) := by decide +kernel
theorem dX6_skewed_73 : decode cX6_skewed 73 = .ok (.goto (-38), 3) := by decide +kernel
theorem dX6_skewed_76 : decode cX6_skewed 76 = .ok (.iload_n 1, 1) := by decide +kernel
theorem dX6_skewed_77 : decode cX6_skewed 77 = .ok (.ifCond .ne 5, 3) := by decide +kernel
theorem dX6_skewed_80 : decode cX6_skewed 80 = .ok (.iload_n 2, 1) := by decide +kernel
theorem dX6_skewed_81 : decode cX6_skewed 81 = .ok (.ireturn, 1) := by decide +kernel
theorem dX6_skewed_82 : decode cX6_skewed 82 = .ok (.iload_n 1, 1) := by decide +kernel
theorem dX6_skewed_83 : decode cX6_skewed 83 = .ok (.iconst 1, 1) := by decide +kernel
theorem dX6_skewed_84 : decode cX6_skewed 84 = .ok (.if_icmp .ne 7, 3) := by decide +kernel
theorem dX6_skewed_87 : decode cX6_skewed 87 = .ok (.iload_n 3, 1) := by decide +kernel
theorem dX6_skewed_88 : decode cX6_skewed 88 = .ok (.goto 8, 3) := by decide +kernel
theorem dX6_skewed_91 : decode cX6_skewed 91 = .ok (.aload_n 0, 1) := by decide +kernel
theorem dX6_skewed_92 : decode cX6_skewed 92 = .ok (.iload_n 2, 1) := by decide +kernel
theorem dX6_skewed_93 : decode cX6_skewed 93 = .ok (.invokevirtual 164, 3) := by decide +kernel
theorem dX6_skewed_96 : decode cX6_skewed 96 = .ok (.ireturn, 1) := by decide +kernel
theorem dX6_count_0 : decode cX6_count 0 = .ok (.iload_n 1, 1) := by decide +kernel
theorem dX6_count_1 : decode cX6_count 1 = .ok (.tableswitch 172 0 22 #[107, 118, 130, 141, 149, 172, 172, 172, 172, 172, 172, 172, 172, 172, 172, 172, 172, 172, 172, 172, 160, 160, 160], 107) := by decide +kernel
theorem dX6_count_108 : decode cX6_count 108 = .ok (.aload_n 0, 1) := by decide +kernel
theorem dX6_count_109 : decode cX6_count 109 = .ok (.getfield 10, 3) := by decide +kernel
theorem dX6_count_112 : decode cX6_count 112 = .ok (.getfield 55, 3) := by decide +kernel
theorem dX6_count_115 : decode cX6_count 115 = .ok (.invokevirtual 59, 3) := by decide +kernel
theorem dX6_count_118 : decode cX6_count 118 = .ok (.ireturn, 1) := by decide +kernel
theorem dX6_count_119 : decode cX6_count 119 = .ok (.aload_n 0, 1) := by decide +kernel
theorem dX6_count_120 : decode cX6_count 120 = .ok (.getfield 10, 3) := by decide +kernel
theorem dX6_count_123 : decode cX6_count 123 = .ok (.getfield 55, 3) := by decide +kernel
theorem dX6_count_126 : decode cX6_count 126 = .ok (.iconst 1, 1) := by decide +kernel
theorem dX6_count_127 : decode cX6_count 127 = .ok (.invokevirtual 167, 3) := by decide +kernel
theorem dX6_count_130 : decode cX6_count 130 = .ok (.ireturn, 1) := by decide +kernel
theorem dX6_count_131 : decode cX6_count 131 = .ok (.aload_n 0, 1) := by decide +kernel
theorem dX6_count_132 : decode cX6_count 132 = .ok (.invokevirtual 109, 3) := by decide +kernel
theorem dX6_count_135 : decode cX6_count 135 = .ok (.getfield 113, 3) := by decide +kernel
theorem dX6_count_138 : decode cX6_count 138 = .ok (.invokevirtual 59, 3) := by decide +kernel
theorem dX6_count_141 : decode cX6_count 141 = .ok (.ireturn, 1) := by decide +kernel
theorem dX6_count_142 : decode cX6_count 142 = .ok (.aload_n 0, 1) := by decide +kernel
theorem dX6_count_143 : decode cX6_count 143 = .ok (.getfield 19, 3) := by decide +kernel
theorem dX6_count_146 : decode cX6_count 146 = .ok (.invokevirtual 170, 3) := by decide +kernel
theorem dX6_count_149 : decode cX6_count 149 = .ok (.ireturn, 1) := by decide +kernel
theorem dX6_count_150 : decode cX6_count 150 = .ok (.aload_n 0, 1) := by decide +kernel
theorem dX6_count_151 : decode cX6_count 151 = .ok (.getfield 42, 3) := by decide +kernel
theorem dX6_count_154 : decode cX6_count 154 = .ok (.getfield 171, 3) := by decide +kernel
theorem dX6_count_157 : decode cX6_count 157 = .ok (.invokevirtual 59, 3) := by decide +kernel
theorem dX6_count_160 : decode cX6_count 160 = .ok (.ireturn, 1) := by decide +kernel
theorem dX6_count_161 : decode cX6_count 161 = .ok (.aload_n 0, 1) := by decide +kernel
theorem dX6_count_162 : decode cX6_count 162 = .ok (.getfield 10, 3) := by decide +kernel
theorem dX6_count_165 : decode cX6_count 165 = .ok (.iload_n 1, 1) := by decide +kernel
theorem dX6_count_166 : decode cX6_count 166 = .ok (.bipush 20, 2) := by decide +kernel
theorem dX6_count_168 : decode cX6_count 168 = .ok (.isub, 1) := by decide +kernel
theorem dX6_count_169 : decode cX6_count 169 = .ok (.invokevirtual 85, 3) := by decide +kernel
theorem dX6_count_172 : decode cX6_count 172 = .ok (.ireturn, 1) := by decide +kernel
theorem dX6_count_173 : decode cX6_count 173 = .ok (.ldc 54, 2) := by decide +kernel
theorem dX6_count_175 : decode cX6_count 175 = .ok (.ireturn, 1) := by decide +kernel
theorem dX6_undo_0 : decode cX6_undo 0 = .ok (.aload_n 0, 1) := by decide +kernel
theorem dX6_undo_1 : decode cX6_undo 1 = .ok (.getfield 19, 3) := by decide +kernel
theorem dX6_undo_4 : decode cX6_undo 4 = .ok (.invokevirtual 170, 3) := by decide +kernel
theorem dX6_undo_7 : decode cX6_undo 7 = .ok (.ifCond .ne 6, 3) := by decide +kernel
theorem dX6_undo_10 : decode cX6_undo 10 = .ok (.ldc 73, 2) := by decide +kernel
theorem dX6_undo_12 : decode cX6_undo 12 = .ok (.ireturn, 1) := by decide +kernel
theorem dX6_undo_13 : decode cX6_undo 13 = .ok (.aload_n 0, 1) := by decide +kernel
theorem dX6_undo_14 : decode cX6_undo 14 = .ok (.getfield 19, 3) := by decide +kernel
theorem dX6_undo_17 : decode cX6_undo 17 = .ok (.aload_n 0, 1) := by decide +kernel
theorem dX6_undo_18 : decode cX6_undo 18 = .ok (.getfield 10, 3) := by decide +kernel
theorem dX6_undo_21 : decode cX6_undo 21 = .ok (.invokevirtual 174, 3) := by decide +kernel
theorem dX6_undo_24 : decode cX6_undo 24 = .ok (.aload_n 0, 1) := by decide +kernel
theorem dX6_undo_25 : decode cX6_undo 25 = .ok (.iconst 1, 1) := by decide +kernel
theorem dX6_undo_26 : decode cX6_undo 26 = .ok (.putfield 46, 3) := by decide +kernel
theorem dX6_undo_29 : decode cX6_undo 29 = .ok (.aload_n 0, 1) := by decide +kernel
theorem dX6_undo_30 : decode cX6_undo 30 = .ok (.getfield 19, 3) := by decide +kernel
theorem dX6_undo_33 : decode cX6_undo 33 = .ok (.invokevirtual 170, 3) := by decide +kernel
theorem dX6_undo_36 : decode cX6_undo 36 = .ok (.ireturn, 1) := by decide +kernel
theorem dX6_type_0 : decode cX6_type 0 = .ok (.iload_n 1, 1) := by decide +kernel
theorem dX6_type_1 : decode cX6_type 1 = .ok (.bipush 32, 2) := by decide +kernel
theorem dX6_type_3 : decode cX6_type 3 = .ok (.bipush 126, 2) := by decide +kernel
theorem dX6_type_5 : decode cX6_type 5 = .ok (.invokestatic 50, 3) := by decide +kernel
theorem dX6_type_8 : decode cX6_type 8 = .ok (.ifCond .eq 6, 3) := by decide +kernel
theorem dX6_type_11 : decode cX6_type 11 = .ok (.ldc 54, 2) := by decide +kernel
theorem dX6_type_13 : decode cX6_type 13 = .ok (.ireturn, 1) := by decide +kernel
theorem dX6_type_14 : decode cX6_type 14 = .ok (.aload_n 0, 1) := by decide +kernel
theorem dX6_type_15 : decode cX6_type 15 = .ok (.getfield 42, 3) := by decide +kernel
theorem dX6_type_18 : decode cX6_type 18 = .ok (.getfield 171, 3) := by decide +kernel
theorem dX6_type_21 : decode cX6_type 21 = .ok (.invokevirtual 59, 3) := by decide +kernel
theorem dX6_type_24 : decode cX6_type 24 = .ok (.bipush 60, 2) := by decide +kernel
theorem dX6_type_26 : decode cX6_type 26 = .ok (.if_icmp .lt 6, 3) := by decide +kernel
theorem dX6_type_29 : decode cX6_type 29 = .ok (.ldc 65, 2) := by decide +kernel
theorem dX6_type_31 : decode cX6_type 31 = .ok (.ireturn, 1) := by decide +kernel
theorem dX6_type_32 : decode cX6_type 32 = .ok (.aload_n 0, 1) := by decide +kernel
theorem dX6_type_33 : decode cX6_type 33 = .ok (.getfield 42, 3) := by decide +kernel
theorem dX6_type_36 : decode cX6_type 36 = .ok (.getfield 171, 3) := by decide +kernel
theorem dX6_type_39 : decode cX6_type 39 = .ok (.iload_n 1, 1) := by decide +kernel
theorem dX6_type_40 : decode cX6_type 40 = .ok (.invokevirtual 178, 3) := by decide +kernel
theorem dX6_type_43 : decode cX6_type 43 = .ok (.pop, 1) := by decide +kernel
theorem dX6_type_44 : decode cX6_type 44 = .ok (.aload_n 0, 1) := by decide +kernel
theorem dX6_type_45 : decode cX6_type 45 = .ok (.getfield 42, 3) := by decide +kernel
theorem dX6_type_48 : decode cX6_type 48 = .ok (.getfield 171, 3) := by decide +kernel
theorem dX6_type_51 : decode cX6_type 51 = .ok (.invokevirtual 59, 3) := by decide +kernel
theorem dX6_type_54 : decode cX6_type 54 = .ok (.ireturn, 1) := by decide +kernel
theorem dX6_clearText_0 : decode cX6_clearText 0 = .ok (.aload_n 0, 1) := by decide +kernel
theorem dX6_clearText_1 : decode cX6_clearText 1 = .ok (.getfield 42, 3) := by decide +kernel
theorem dX6_clearText_4 : decode cX6_clearText 4 = .ok (.getfield 171, 3) := by decide +kernel
theorem dX6_clearText_7 : decode cX6_clearText 7 = .ok (.invokevirtual 59, 3) := by decide +kernel
theorem dX6_clearText_10 : decode cX6_clearText 10 = .ok (.istore_n 1, 1) := by decide +kernel
theorem dX6_clearText_11 : decode cX6_clearText 11 = .ok (.aload_n 0, 1) := by decide +kernel
theorem dX6_clearText_12 : decode cX6_clearText 12 = .ok (.getfield 42, 3) := by decide +kernel
theorem dX6_clearText_15 : decode cX6_clearText 15 = .ok (.getfield 171, 3) := by decide +kernel
theorem dX6_clearText_18 : decode cX6_clearText 18 = .ok (.iconst 0, 1) := by decide +kernel
theorem dX6_clearText_19 : decode cX6_clearText 19 = .ok (.invokevirtual 78, 3) := by decide +kernel
theorem dX6_clearText_22 : decode cX6_clearText 22 = .ok (.iload_n 1, 1) := by decide +kernel
theorem dX6_clearText_23 : decode cX6_clearText 23 = .ok (.ireturn, 1) := by decide +kernel
theorem dX6_fault_0 : decode cX6_fault 0 = .ok (.iload_n 1, 1) := by decide +kernel
theorem dX6_fault_1 : decode cX6_fault 1 = .ok (.iconst 0, 1) := by decide +kernel
theorem dX6_fault_2 : decode cX6_fault 2 = .ok (.iconst 2, 1) := by decide +kernel
theorem dX6_fault_3 : decode cX6_fault 3 = .ok (.invokestatic 50, 3) := by decide +kernel
theorem dX6_fault_6 : decode cX6_fault 6 = .ok (.ifCond .eq 6, 3) := by decide +kernel
theorem dX6_fault_9 : decode cX6_fault 9 = .ok (.ldc 54, 2) := by decide +kernel
theorem dX6_fault_11 : decode cX6_fault 11 = .ok (.ireturn, 1) := by decide +kernel
theorem dX6_fault_12 : decode cX6_fault 12 = .ok (.aload_n 0, 1) := by decide +kernel
theorem dX6_fault_13 : decode cX6_fault 13 = .ok (.getfield 42, 3) := by decide +kernel
theorem dX6_fault_16 : decode cX6_fault 16 = .ok (.aload_n 0, 1) := by decide +kernel
theorem dX6_fault_17 : decode cX6_fault 17 = .ok (.getfield 10, 3) := by decide +kernel
theorem dX6_fault_20 : decode cX6_fault 20 = .ok (.getfield 55, 3) := by decide +kernel
theorem dX6_fault_23 : decode cX6_fault 23 = .ok (.invokevirtual 59, 3) := by decide +kernel
theorem dX6_fault_26 : decode cX6_fault 26 = .ok (.invokevirtual 181, 3) := by decide +kernel
theorem dX6_fault_29 : decode cX6_fault 29 = .ok (.aload_n 0, 1) := by decide +kernel
theorem dX6_fault_30 : decode cX6_fault 30 = .ok (.getfield 42, 3) := by decide +kernel
theorem dX6_fault_33 : decode cX6_fault 33 = .ok (.getfield 184, 3) := by decide +kernel
theorem dX6_fault_36 : decode cX6_fault 36 = .ok (.ifCond .ne 6, 3) := by decide +kernel
theorem dX6_fault_39 : decode cX6_fault 39 = .ok (.ldc 96, 2) := by decide +kernel
theorem dX6_fault_41 : decode cX6_fault 41 = .ok (.ireturn, 1) := by decide +kernel
theorem dX6_fault_42 : decode cX6_fault 42 = .ok (.iload_n 1, 1) := by decide +kernel
theorem dX6_fault_43 : decode cX6_fault 43 = .ok (.ifCond .ne 11, 3) := by decide +kernel
theorem dX6_fault_46 : decode cX6_fault 46 = .ok (.aload_n 0, 1) := by decide +kernel
theorem dX6_fault_47 : decode cX6_fault 47 = .ok (.getfield 42, 3) := by decide +kernel
theorem dX6_fault_50 : decode cX6_fault 50 = .ok (.getfield 187, 3) := by decide +kernel
theorem dX6_fault_53 : decode cX6_fault 53 = .ok (.ireturn, 1) := by decide +kernel
theorem dX6_fault_54 : decode cX6_fault 54 = .ok (.iload_n 1, 1) := by decide +kernel
theorem dX6_fault_55 : decode cX6_fault 55 = .ok (.iconst 1, 1) := by decide +kernel
theorem dX6_fault_56 : decode cX6_fault 56 = .ok (.if_icmp .ne 13, 3) := by decide +kernel
theorem dX6_fault_59 : decode cX6_fault 59 = .ok (.aload_n 0, 1) := by decide +kernel
theorem dX6_fault_60 : decode cX6_fault 60 = .ok (.getfield 42, 3) := by decide +kernel
theorem dX6_fault_63 : decode cX6_fault 63 = .ok (.getfield 184, 3) := by decide +kernel
theorem dX6_fault_66 : decode cX6_fault 66 = .ok (.goto 10, 3) := by decide +kernel
theorem dX6_fault_69 : decode cX6_fault 69 = .ok (.aload_n 0, 1) := by decide +kernel
theorem dX6_fault_70 : decode cX6_fault 70 = .ok (.getfield 42, 3) := by decide +kernel
theorem dX6_fault_73 : decode cX6_fault 73 = .ok (.getfield 190, 3) := by decide +kernel
theorem dX6_fault_76 : decode cX6_fault 76 = .ok (.ireturn, 1) := by decide +kernel
theorem dX6_play_0 : decode cX6_play 0 = .ok (.aload_n 0, 1) := by decide +kernel
theorem dX6_play_1 : decode cX6_play 1 = .ok (.getfield 42, 3) := by decide +kernel
theorem dX6_play_4 : decode cX6_play 4 = .ok (.aload_n 0, 1) := by decide +kernel
theorem dX6_play_5 : decode cX6_play 5 = .ok (.getfield 10, 3) := by decide +kernel
theorem dX6_play_8 : decode cX6_play 8 = .ok (.getfield 55, 3) := by decide +kernel
theorem dX6_play_11 : decode cX6_play 11 = .ok (.invokevirtual 59, 3) := by decide +kernel
theorem dX6_play_14 : decode cX6_play 14 = .ok (.invokevirtual 181, 3) := by decide +kernel
theorem dX6_play_17 : decode cX6_play 17 = .ok (.aload_n 0, 1) := by decide +kernel
theorem dX6_play_18 : decode cX6_play 18 = .ok (.getfield 42, 3) := by decide +kernel
theorem dX6_play_21 : decode cX6_play 21 = .ok (.getfield 184, 3) := by decide +kernel
theorem dX6_play_24 : decode cX6_play 24 = .ok (.ifCond .eq 6, 3) := by decide +kernel
theorem dX6_play_27 : decode cX6_play 27 = .ok (.ldc 73, 2) := by decide +kernel
theorem dX6_play_29 : decode cX6_play 29 = .ok (.ireturn, 1) := by decide +kernel
theorem dX6_play_30 : decode cX6_play 30 = .ok (.aload_n 0, 1) := by decide +kernel
theorem dX6_play_31 : decode cX6_play 31 = .ok (.invokevirtual 66, 3) := by decide +kernel
theorem dX6_play_34 : decode cX6_play 34 = .ok (.iconst 0, 1) := by decide +kernel
theorem dX6_play_35 : decode cX6_play 35 = .ok (.istore_n 1, 1) := by decide +kernel
theorem dX6_play_36 : decode cX6_play 36 = .ok (.iload_n 1, 1) := by decide +kernel
theorem dX6_play_37 : decode cX6_play 37 = .ok (.aload_n 0, 1) := by decide +kernel
theorem dX6_play_38 : decode cX6_play 38 = .ok (.getfield 42, 3) := by decide +kernel
theorem dX6_play_41 : decode cX6_play 41 = .ok (.getfield 193, 3) := by decide +kernel
theorem dX6_play_44 : decode cX6_play 44 = .ok (.invokevirtual 59, 3) := by decide +kernel
theorem dX6_play_47 : decode cX6_play 47 = .ok (.if_icmp .ge 40, 3) := by decide +kernel
theorem dX6_play_50 : decode cX6_play 50 = .ok (.aload_n 0, 1) := by decide +kernel
theorem dX6_play_51 : decode cX6_play 51 = .ok (.getfield 10, 3) := by decide +kernel
theorem dX6_play_54 : decode cX6_play 54 = .ok (.aload_n 0, 1) := by decide +kernel
theorem dX6_play_55 : decode cX6_play 55 = .ok (.getfield 42, 3) := by decide +kernel
theorem dX6_play_58 : decode cX6_play 58 = .ok (.getfield 193, 3) := by decide +kernel
theorem dX6_play_61 : decode cX6_play 61 = .ok (.iload_n 1, 1) := by decide +kernel
theorem dX6_play_62 : decode cX6_play 62 = .ok (.iconst 0, 1) := by decide +kernel
theorem dX6_play_63 : decode cX6_play 63 = .ok (.invokevirtual 116, 3) := by decide +kernel
theorem dX6_play_66 : decode cX6_play 66 = .ok (.aload_n 0, 1) := by decide +kernel
theorem dX6_play_67 : decode cX6_play 67 = .ok (.getfield 42, 3) := by decide +kernel
theorem dX6_play_70 : decode cX6_play 70 = .ok (.getfield 193, 3) := by decide +kernel
theorem dX6_play_73 : decode cX6_play 73 = .ok (.iload_n 1, 1) := by decide +kernel
theorem dX6_play_74 : decode cX6_play 74 = .ok (.iconst 1, 1) := by decide +kernel
theorem dX6_play_75 : decode cX6_play 75 = .ok (.invokevirtual 116, 3) := by decide +kernel
theorem dX6_play_78 : decode cX6_play 78 = .ok (.invokevirtual 69, 3) := by decide +kernel
theorem dX6_play_81 : decode cX6_play 81 = .ok (.iinc 1 1, 3) := by decide +kernel
theorem dX6_play_84 : decode cX6_play 84 = .ok (.goto (-48), 3) := by decide +kernel
theorem dX6_play_87 : decode cX6_play 87 = .ok (.aload_n 0, 1) := by decide +kernel
theorem dX6_play_88 : decode cX6_play 88 = .ok (.getfield 10, 3) := by decide +kernel
theorem dX6_play_91 : decode cX6_play 91 = .ok (.getfield 55, 3) := by decide +kernel
theorem dX6_play_94 : decode cX6_play 94 = .ok (.invokevirtual 59, 3) := by decide +kernel
theorem dX6_play_97 : decode cX6_play 97 = .ok (.ireturn, 1) := by decide +kernel
theorem dX6_isOutside_0 : decode cX6_isOutside 0 = .ok (.iload_n 0, 1) := by decide +kernel
theorem dX6_isOutside_1 : decode cX6_isOutside 1 = .ok (.iload_n 1, 1) := by decide +kernel
theorem dX6_isOutside_2 : decode cX6_isOutside 2 = .ok (.if_icmp .lt 8, 3) := by decide +kernel
theorem dX6_isOutside_5 : decode cX6_isOutside 5 = .ok (.iload_n 0, 1) := by decide +kernel
theorem dX6_isOutside_6 : decode cX6_isOutside 6 = .ok (.iload_n 2, 1) := by decide +kernel
theorem dX6_isOutside_7 : decode cX6_isOutside 7 = .ok (.if_icmp .le 7, 3) := by decide +kernel
theorem dX6_isOutside_10 : decode cX6_isOutside 10 = .ok (.iconst 1, 1) := by decide +kernel
theorem dX6_isOutside_11 : decode cX6_isOutside 11 = .ok (.goto 4, 3) := by decide +kernel
theorem dX6_isOutside_14 : decode cX6_isOutside 14 = .ok (.iconst 0, 1) := by decide +kernel
theorem dX6_isOutside_15 : decode cX6_isOutside 15 = .ok (.ireturn, 1) := by decide +kernel
theorem dX6_isSettingValue_0 : decode cX6_isSettingValue 0 = .ok (.iload_n 0, 1) := by decide +kernel
theorem dX6_isSettingValue_1 : decode cX6_isSettingValue 1 = .ok (.tableswitch 81 0 2 #[27, 43, 58], 27) := by decide +kernel
theorem dX6_isSettingValue_28 : decode cX6_isSettingValue 28 = .ok (.iload_n 1, 1) := by decide +kernel
theorem dX6_isSettingValue_29 : decode cX6_isSettingValue 29 = .ok (.iconst 1, 1) := by decide +kernel
theorem dX6_isSettingValue_30 : decode cX6_isSettingValue 30 = .ok (.bipush 12, 2) := by decide +kernel
theorem dX6_isSettingValue_32 : decode cX6_isSettingValue 32 = .ok (.invokestatic 50, 3) := by decide +kernel
theorem dX6_isSettingValue_35 : decode cX6_isSettingValue 35 = .ok (.ifCond .ne 7, 3) := by decide +kernel
theorem dX6_isSettingValue_38 : decode cX6_isSettingValue 38 = .ok (.iconst 1, 1) := by decide +kernel
theorem dX6_isSettingValue_39 : decode cX6_isSettingValue 39 = .ok (.goto 4, 3) := by decide +kernel
theorem dX6_isSettingValue_42 : decode cX6_isSettingValue 42 = .ok (.iconst 0, 1) := by decide +kernel
theorem dX6_isSettingValue_43 : decode cX6_isSettingValue 43 = .ok (.ireturn, 1) := by decide +kernel
theorem dX6_isSettingValue_44 : decode cX6_isSettingValue 44 = .ok (.iload_n 1, 1) := by decide +kernel
theorem dX6_isSettingValue_45 : decode cX6_isSettingValue 45 = .ok (.iconst 1, 1) := by decide +kernel
theorem dX6_isSettingValue_46 : decode cX6_isSettingValue 46 = .ok (.iconst 4, 1) := by decide +kernel
theorem dX6_isSettingValue_47 : decode cX6_isSettingValue 47 = .ok (.invokestatic 50, 3) := by decide +kernel
theorem dX6_isSettingValue_50 : decode cX6_isSettingValue 50 = .ok (.ifCond .ne 7, 3) := by decide +kernel
theorem dX6_isSettingValue_53 : decode cX6_isSettingValue 53 = .ok (.iconst 1, 1) := by decide +kernel
theorem dX6_isSettingValue_54 : decode cX6_isSettingValue 54 = .ok (.goto 4, 3) := by decide +kernel
theorem dX6_isSettingValue_57 : decode cX6_isSettingValue 57 = .ok (.iconst 0, 1) := by decide +kernel
theorem dX6_isSettingValue_58 : decode cX6_isSettingValue 58 = .ok (.ireturn, 1) := by decide +kernel
theorem dX6_isSettingValue_59 : decode cX6_isSettingValue 59 = .ok (.iload_n 1, 1) := by decide +kernel
theorem dX6_isSettingValue_60 : decode cX6_isSettingValue 60 = .ok (.iconst 1, 1) := by decide +kernel
theorem dX6_isSettingValue_61 : decode cX6_isSettingValue 61 = .ok (.ldc 130, 2) := by decide +kernel
theorem dX6_isSettingValue_63 : decode cX6_isSettingValue 63 = .ok (.invokestatic 50, 3) := by decide +kernel
theorem dX6_isSettingValue_66 : decode cX6_isSettingValue 66 = .ok (.ifCond .ne 14, 3) := by decide +kernel
theorem dX6_isSettingValue_69 : decode cX6_isSettingValue 69 = .ok (.iload_n 1, 1) := by decide +kernel
theorem dX6_isSettingValue_70 : decode cX6_isSettingValue 70 = .ok (.iconst 1, 1) := by decide +kernel
theorem dX6_isSettingValue_71 : decode cX6_isSettingValue 71 = .ok (.iand, 1) := by decide +kernel
theorem dX6_isSettingValue_72 : decode cX6_isSettingValue 72 = .ok (.iconst 1, 1) := by decide +kernel
theorem dX6_isSettingValue_73 : decode cX6_isSettingValue 73 = .ok (.if_icmp .ne 7, 3) := by decide +kernel
theorem dX6_isSettingValue_76 : decode cX6_isSettingValue 76 = .ok (.iconst 1, 1) := by decide +kernel
theorem dX6_isSettingValue_77 : decode cX6_isSettingValue 77 = .ok (.goto 4, 3) := by decide +kernel
theorem dX6_isSettingValue_80 : decode cX6_isSettingValue 80 = .ok (.iconst 0, 1) := by decide +kernel
theorem dX6_isSettingValue_81 : decode cX6_isSettingValue 81 = .ok (.ireturn, 1) := by decide +kernel
theorem dX6_isSettingValue_82 : decode cX6_isSettingValue 82 = .ok (.iconst 0, 1) := by decide +kernel
theorem dX6_isSettingValue_83 : decode cX6_isSettingValue 83 = .ok (.ireturn, 1) := by decide +kernel
theorem dX6_beginChange_0 : decode cX6_beginChange 0 = .ok (.aload_n 0, 1) := by decide +kernel
theorem dX6_beginChange_1 : decode cX6_beginChange 1 = .ok (.getfield 19, 3) := by decide +kernel
theorem dX6_beginChange_4 : decode cX6_beginChange 4 = .ok (.aload_n 0, 1) := by decide +kernel
theorem dX6_beginChange_5 : decode cX6_beginChange 5 = .ok (.getfield 10, 3) := by decide +kernel
theorem dX6_beginChange_8 : decode cX6_beginChange 8 = .ok (.invokevirtual 194, 3) := by decide +kernel
theorem dX6_beginChange_11 : decode cX6_beginChange 11 = .ok (.aload_n 0, 1) := by decide +kernel
theorem dX6_beginChange_12 : decode cX6_beginChange 12 = .ok (.iconst 1, 1) := by decide +kernel
theorem dX6_beginChange_13 : decode cX6_beginChange 13 = .ok (.putfield 46, 3) := by decide +kernel
theorem dX6_beginChange_16 : decode cX6_beginChange 16 = .ok (.return_, 1) := by decide +kernel
theorem dX6_groupsNow_0 : decode cX6_groupsNow 0 = .ok (.aload_n 0, 1) := by decide +kernel
theorem dX6_groupsNow_1 : decode cX6_groupsNow 1 = .ok (.getfield 46, 3) := by decide +kernel
theorem dX6_groupsNow_4 : decode cX6_groupsNow 4 = .ok (.ifCond .eq 26, 3) := by decide +kernel
theorem dX6_groupsNow_7 : decode cX6_groupsNow 7 = .ok (.aload_n 0, 1) := by decide +kernel
theorem dX6_groupsNow_8 : decode cX6_groupsNow 8 = .ok (.getfield 26, 3) := by decide +kernel
theorem dX6_groupsNow_11 : decode cX6_groupsNow 11 = .ok (.aload_n 0, 1) := by decide +kernel
theorem dX6_groupsNow_12 : decode cX6_groupsNow 12 = .ok (.getfield 10, 3) := by decide +kernel
theorem dX6_groupsNow_15 : decode cX6_groupsNow 15 = .ok (.invokevirtual 197, 3) := by decide +kernel
theorem dX6_groupsNow_18 : decode cX6_groupsNow 18 = .ok (.aload_n 0, 1) := by decide +kernel
theorem dX6_groupsNow_19 : decode cX6_groupsNow 19 = .ok (.getfield 35, 3) := by decide +kernel
theorem dX6_groupsNow_22 : decode cX6_groupsNow 22 = .ok (.invokevirtual 200, 3) := by decide +kernel
theorem dX6_groupsNow_25 : decode cX6_groupsNow 25 = .ok (.aload_n 0, 1) := by decide +kernel
theorem dX6_groupsNow_26 : decode cX6_groupsNow 26 = .ok (.iconst 0, 1) := by decide +kernel
theorem dX6_groupsNow_27 : decode cX6_groupsNow 27 = .ok (.putfield 46, 3) := by decide +kernel
theorem dX6_groupsNow_30 : decode cX6_groupsNow 30 = .ok (.aload_n 0, 1) := by decide +kernel
theorem dX6_groupsNow_31 : decode cX6_groupsNow 31 = .ok (.getfield 26, 3) := by decide +kernel
theorem dX6_groupsNow_34 : decode cX6_groupsNow 34 = .ok (.areturn, 1) := by decide +kernel
theorem dX6_passesNow_0 : decode cX6_passesNow 0 = .ok (.aload_n 0, 1) := by decide +kernel
theorem dX6_passesNow_1 : decode cX6_passesNow 1 = .ok (.invokevirtual 109, 3) := by decide +kernel
theorem dX6_passesNow_4 : decode cX6_passesNow 4 = .ok (.pop, 1) := by decide +kernel
theorem dX6_passesNow_5 : decode cX6_passesNow 5 = .ok (.aload_n 0, 1) := by decide +kernel
theorem dX6_passesNow_6 : decode cX6_passesNow 6 = .ok (.getfield 35, 3) := by decide +kernel
theorem dX6_passesNow_9 : decode cX6_passesNow 9 = .ok (.aload_n 0, 1) := by decide +kernel
theorem dX6_passesNow_10 : decode cX6_passesNow 10 = .ok (.getfield 10, 3) := by decide +kernel
theorem dX6_passesNow_13 : decode cX6_passesNow 13 = .ok (.iconst 0, 1) := by decide +kernel
theorem dX6_passesNow_14 : decode cX6_passesNow 14 = .ok (.invokevirtual 85, 3) := by decide +kernel
theorem dX6_passesNow_17 : decode cX6_passesNow 17 = .ok (.aload_n 0, 1) := by decide +kernel
theorem dX6_passesNow_18 : decode cX6_passesNow 18 = .ok (.getfield 10, 3) := by decide +kernel
theorem dX6_passesNow_21 : decode cX6_passesNow 21 = .ok (.iconst 1, 1) := by decide +kernel
theorem dX6_passesNow_22 : decode cX6_passesNow 22 = .ok (.invokevirtual 85, 3) := by decide +kernel
theorem dX6_passesNow_25 : decode cX6_passesNow 25 = .ok (.invokevirtual 203, 3) := by decide +kernel
theorem dX6_passesNow_28 : decode cX6_passesNow 28 = .ok (.aload_n 0, 1) := by decide +kernel
theorem dX6_passesNow_29 : decode cX6_passesNow 29 = .ok (.getfield 35, 3) := by decide +kernel
theorem dX6_passesNow_32 : decode cX6_passesNow 32 = .ok (.areturn, 1) := by decide +kernel
theorem dX6_passesBy_0 : decode cX6_passesBy 0 = .ok (.aload_n 0, 1) := by decide +kernel
theorem dX6_passesBy_1 : decode cX6_passesBy 1 = .ok (.invokevirtual 109, 3) := by decide +kernel
theorem dX6_passesBy_4 : decode cX6_passesBy 4 = .ok (.pop, 1) := by decide +kernel
theorem dX6_passesBy_5 : decode cX6_passesBy 5 = .ok (.aload_n 0, 1) := by decide +kernel
theorem dX6_passesBy_6 : decode cX6_passesBy 6 = .ok (.getfield 35, 3) := by decide +kernel
theorem dX6_passesBy_9 : decode cX6_passesBy 9 = .ok (.iload_n 1, 1) := by decide +kernel
theorem dX6_passesBy_10 : decode cX6_passesBy 10 = .ok (.iload_n 2, 1) := by decide +kernel
theorem dX6_passesBy_11 : decode cX6_passesBy 11 = .ok (.invokevirtual 203, 3) := by decide +kernel
theorem dX6_passesBy_14 : decode cX6_passesBy 14 = .ok (.aload_n 0, 1) := by decide +kernel
theorem dX6_passesBy_15 : decode cX6_passesBy 15 = .ok (.getfield 35, 3) := by decide +kernel
theorem dX6_passesBy_18 : decode cX6_passesBy 18 = .ok (.areturn, 1) := by decide +kernel
theorem dX6_firstPart_0 : decode cX6_firstPart 0 = .ok (.iload_n 1, 1) := by decide +kernel
theorem dX6_firstPart_1 : decode cX6_firstPart 1 = .ok (.bipush 16, 2) := by decide +kernel
theorem dX6_firstPart_3 : decode cX6_firstPart 3 = .ok (.aload_n 0, 1) := by decide +kernel
theorem dX6_firstPart_4 : decode cX6_firstPart 4 = .ok (.getfield 10, 3) := by decide +kernel
theorem dX6_firstPart_7 : decode cX6_firstPart 7 = .ok (.iconst 1, 1) := by decide +kernel
theorem dX6_firstPart_8 : decode cX6_firstPart 8 = .ok (.invokevirtual 85, 3) := by decide +kernel
theorem dX6_firstPart_11 : decode cX6_firstPart 11 = .ok (.isub, 1) := by decide +kernel
theorem dX6_firstPart_12 : decode cX6_firstPart 12 = .ok (.ishr, 1) := by decide +kernel
theorem dX6_firstPart_13 : decode cX6_firstPart 13 = .ok (.ireturn, 1) := by decide +kernel
theorem dX6_rowsInPart_0 : decode cX6_rowsInPart 0 = .ok (.iconst 0, 1) := by decide +kernel
theorem dX6_rowsInPart_1 : decode cX6_rowsInPart 1 = .ok (.istore_n 2, 1) := by decide +kernel
theorem dX6_rowsInPart_2 : decode cX6_rowsInPart 2 = .ok (.iconst 0, 1) := by decide +kernel
theorem dX6_rowsInPart_3 : decode cX6_rowsInPart 3 = .ok (.istore_n 3, 1) := by decide +kernel
theorem dX6_rowsInPart_4 : decode cX6_rowsInPart 4 = .ok (.iload_n 3, 1) := by decide +kernel
theorem dX6_rowsInPart_5 : decode cX6_rowsInPart 5 = .ok (.aload_n 0, 1) := by decide +kernel
theorem dX6_rowsInPart_6 : decode cX6_rowsInPart 6 = .ok (.getfield 10, 3) := by decide +kernel
theorem dX6_rowsInPart_9 : decode cX6_rowsInPart 9 = .ok (.getfield 55, 3) := by decide +kernel
theorem dX6_rowsInPart_12 : decode cX6_rowsInPart 12 = .ok (.invokevirtual 59, 3) := by decide +kernel
theorem dX6_rowsInPart_15 : decode cX6_rowsInPart 15 = .ok (.if_icmp .ge 28, 3) := by decide +kernel
theorem dX6_rowsInPart_18 : decode cX6_rowsInPart 18 = .ok (.aload_n 0, 1) := by decide +kernel
theorem dX6_rowsInPart_19 : decode cX6_rowsInPart 19 = .ok (.aload_n 0, 1) := by decide +kernel
theorem dX6_rowsInPart_20 : decode cX6_rowsInPart 20 = .ok (.getfield 10, 3) := by decide +kernel
theorem dX6_rowsInPart_23 : decode cX6_rowsInPart 23 = .ok (.iload_n 3, 1) := by decide +kernel
theorem dX6_rowsInPart_24 : decode cX6_rowsInPart 24 = .ok (.invokevirtual 103, 3) := by decide +kernel
theorem dX6_rowsInPart_27 : decode cX6_rowsInPart 27 = .ok (.invokevirtual 106, 3) := by decide +kernel
theorem dX6_rowsInPart_30 : decode cX6_rowsInPart 30 = .ok (.iload_n 1, 1) := by decide +kernel
theorem dX6_rowsInPart_31 : decode cX6_rowsInPart 31 = .ok (.if_icmp .ne 6, 3) := by decide +kernel
theorem dX6_rowsInPart_34 : decode cX6_rowsInPart 34 = .ok (.iinc 2 1, 3) := by decide +kernel
theorem dX6_rowsInPart_37 : decode cX6_rowsInPart 37 = .ok (.iinc 3 1, 3) := by decide +kernel
theorem dX6_rowsInPart_40 : decode cX6_rowsInPart 40 = .ok (.goto (-36), 3) := by decide +kernel
theorem dX6_rowsInPart_43 : decode cX6_rowsInPart 43 = .ok (.iload_n 2, 1) := by decide +kernel
theorem dX6_rowsInPart_44 : decode cX6_rowsInPart 44 = .ok (.ireturn, 1) := by decide +kernel
theorem dX6_groupsInPart_0 : decode cX6_groupsInPart 0 = .ok (.aload_n 0, 1) := by decide +kernel
theorem dX6_groupsInPart_1 : decode cX6_groupsInPart 1 = .ok (.invokevirtual 109, 3) := by decide +kernel
theorem dX6_groupsInPart_4 : decode cX6_groupsInPart 4 = .ok (.getfield 113, 3) := by decide +kernel
theorem dX6_groupsInPart_7 : decode cX6_groupsInPart 7 = .ok (.astore_n 2, 1) := by decide +kernel
theorem dX6_groupsInPart_8 : decode cX6_groupsInPart 8 = .ok (.iconst 0, 1) := by decide +kernel
theorem dX6_groupsInPart_9 : decode cX6_groupsInPart 9 = .ok (.istore_n 3, 1) := by decide +kernel
theorem dX6_groupsInPart_10 : decode cX6_groupsInPart 10 = .ok (.iconst 0, 1) := by decide +kernel
theorem dX6_groupsInPart_11 : decode cX6_groupsInPart 11 = .ok (.istore 4, 2) := by decide +kernel
theorem dX6_groupsInPart_13 : decode cX6_groupsInPart 13 = .ok (.iload 4, 2) := by decide +kernel
theorem dX6_groupsInPart_15 : decode cX6_groupsInPart 15 = .ok (.aload_n 2, 1) := by decide +kernel
theorem dX6_groupsInPart_16 : decode cX6_groupsInPart 16 = .ok (.invokevirtual 59, 3) := by decide +kernel
theorem dX6_groupsInPart_19 : decode cX6_groupsInPart 19 = .ok (.if_icmp .ge 27, 3) := by decide +kernel
theorem dX6_groupsInPart_22 : decode cX6_groupsInPart 22 = .ok (.aload_n 0, 1) := by decide +kernel
theorem dX6_groupsInPart_23 : decode cX6_groupsInPart 23 = .ok (.aload_n 2, 1) := by decide +kernel
theorem dX6_groupsInPart_24 : decode cX6_groupsInPart 24 = .ok (.iload 4, 2) := by decide +kernel
theorem dX6_groupsInPart_26 : decode cX6_groupsInPart 26 = .ok (.iconst 5, 1) := by decide +kernel
theorem dX6_groupsInPart_27 : decode cX6_groupsInPart 27 = .ok (.invokevirtual 116, 3) := by decide +kernel
theorem dX6_groupsInPart_30 : decode cX6_groupsInPart 30 = .ok (.invokevirtual 106, 3) := by decide +kernel
theorem dX6_groupsInPart_33 : decode cX6_groupsInPart 33 = .ok (.iload_n 1, 1) := by decide +kernel
theorem dX6_groupsInPart_34 : decode cX6_groupsInPart 34 = .ok (.if_icmp .ne 6, 3) := by decide +kernel
theorem dX6_groupsInPart_37 : decode cX6_groupsInPart 37 = .ok (.iinc 3 1, 3) := by decide +kernel
theorem dX6_groupsInPart_40 : decode cX6_groupsInPart 40 = .ok (.iinc 4 1, 3) := by decide +kernel
theorem dX6_groupsInPart_43 : decode cX6_groupsInPart 43 = .ok (.goto (-30), 3) := by decide +kernel
theorem dX6_groupsInPart_46 : decode cX6_groupsInPart 46 = .ok (.iload_n 3, 1) := by decide +kernel
theorem dX6_groupsInPart_47 : decode cX6_groupsInPart 47 = .ok (.ireturn, 1) := by decide +kernel
theorem dX7_init_0 : decode cX7_init 0 = .ok (.aload_n 0, 1) := by decide +kernel
theorem dX7_init_1 : decode cX7_init 1 = .ok (.invokespecial 1, 3) := by decide +kernel
theorem dX7_init_4 : decode cX7_init 4 = .ok (.aload_n 0, 1) := by decide +kernel
theorem dX7_init_5 : decode cX7_init 5 = .ok (.sipush 204, 3) := by decide +kernel
theorem dX7_init_8 : decode cX7_init 8 = .ok (.newarray .int, 2) := by decide +kernel
theorem dX7_init_10 : decode cX7_init 10 = .ok (.putfield 7, 3) := by decide +kernel
theorem dX7_init_13 : decode cX7_init 13 = .ok (.aload_n 0, 1) := by decide +kernel
theorem dX7_init_14 : decode cX7_init 14 = .ok (.sipush 816, 3) := by decide +kernel
theorem dX7_init_17 : decode cX7_init 17 = .ok (.newarray .int, 2) := by decide +kernel
theorem dX7_init_19 : decode cX7_init 19 = .ok (.putfield 13, 3) := by decide +kernel
theorem dX7_init_22 : decode cX7_init 22 = .ok (.aload_n 0, 1) := by decide +kernel
theorem dX7_init_23 : decode cX7_init 23 = .ok (.sipush 11400, 3) := by decide +kernel
theorem dX7_init_26 : decode cX7_init 26 = .ok (.newarray .int, 2) := by decide +kernel
theorem dX7_init_28 : decode cX7_init 28 = .ok (.putfield 16, 3) := by decide +kernel
theorem dX7_init_31 : decode cX7_init 31 = .ok (.aload_n 0, 1) := by decide +kernel
theorem dX7_init_32 : decode cX7_init 32 = .ok (.sipush 500, 3) := by decide +kernel
theorem dX7_init_35 : decode cX7_init 35 = .ok (.newarray .int, 2) := by decide +kernel
theorem dX7_init_37 : decode cX7_init 37 = .ok (.putfield 19, 3) := by decide +kernel
theorem dX7_init_40 : decode cX7_init 40 = .ok (.aload_n 0, 1) := by decide +kernel
theorem dX7_init_41 : decode cX7_init 41 = .ok (.sipush 13300, 3) := by decide +kernel
theorem dX7_init_44 : decode cX7_init 44 = .ok (.newarray .int, 2) := by decide +kernel
theorem dX7_init_46 : decode cX7_init 46 = .ok (.putfield 22, 3) := by decide +kernel
theorem dX7_init_49 : decode cX7_init 49 = .ok (.aload_n 0, 1) := by decide +kernel
theorem dX7_init_50 : decode cX7_init 50 = .ok (.sipush 9500, 3) := by decide +kernel
theorem dX7_init_53 : decode cX7_init 53 = .ok (.newarray .int, 2) := by decide +kernel
theorem dX7_init_55 : decode cX7_init 55 = .ok (.putfield 25, 3) := by decide +kernel
theorem dX7_init_58 : decode cX7_init 58 = .ok (.aload_n 0, 1) := by decide +kernel
theorem dX7_init_59 : decode cX7_init 59 = .ok (.sipush 700, 3) := by decide +kernel
theorem dX7_init_62 : decode cX7_init 62 = .ok (.newarray .int, 2) := by decide +kernel
theorem dX7_init_64 : decode cX7_init 64 = .ok (.putfield 28, 3) := by decide +kernel
theorem dX7_init_67 : decode cX7_init 67 = .ok (.aload_n 0, 1) := by decide +kernel
theorem dX7_init_68 : decode cX7_init 68 = .ok (.sipush 900, 3) := by decide +kernel
theorem dX7_init_71 : decode cX7_init 71 = .ok (.newarray .int, 2) := by decide +kernel
theorem dX7_init_73 : decode cX7_init 73 = .ok (.putfield 31, 3) := by decide +kernel
theorem dX7_init_76 : decode cX7_init 76 = .ok (.aload_n 0, 1) := by decide +kernel
theorem dX7_init_77 : decode cX7_init 77 = .ok (.bipush 16, 2) := by decide +kernel
theorem dX7_init_79 : decode cX7_init 79 = .ok (.newarray .int, 2) := by decide +kernel
theorem dX7_init_81 : decode cX7_init 81 = .ok (.putfield 34, 3) := by decide +kernel
theorem dX7_init_84 : decode cX7_init 84 = .ok (.aload_n 0, 1) := by decide +kernel
theorem dX7_init_85 : decode cX7_init 85 = .ok (.bipush 16, 2) := by decide +kernel
theorem dX7_init_87 : decode cX7_init 87 = .ok (.newarray .int, 2) := by decide +kernel
theorem dX7_init_89 : decode cX7_init 89 = .ok (.putfield 37, 3) := by decide +kernel
theorem dX7_init_92 : decode cX7_init 92 = .ok (.aload_n 0, 1) := by decide +kernel
theorem dX7_init_93 : decode cX7_init 93 = .ok (.bipush 16, 2) := by decide +kernel
theorem dX7_init_95 : decode cX7_init 95 = .ok (.newarray .int, 2) := by decide +kernel
theorem dX7_init_97 : decode cX7_init 97 = .ok (.putfield 40, 3) := by decide +kernel
theorem dX7_init_100 : decode cX7_init 100 = .ok (.aload_n 0, 1) := by decide +kernel
theorem dX7_init_101 : decode cX7_init 101 = .ok (.bipush 60, 2) := by decide +kernel
theorem dX7_init_103 : decode cX7_init 103 = .ok (.newarray .int, 2) := by decide +kernel
theorem dX7_init_105 : decode cX7_init 105 = .ok (.putfield 43, 3) := by decide +kernel
theorem dX7_init_108 : decode cX7_init 108 = .ok (.aload_n 0, 1) := by decide +kernel
theorem dX7_init_109 : decode cX7_init 109 = .ok (.getfield 7, 3) := by decide +kernel
theorem dX7_init_112 : decode cX7_init 112 = .ok (.iconst 1, 1) := by decide +kernel
theorem dX7_init_113 : decode cX7_init 113 = .ok (.iconst 3, 1) := by decide +kernel
theorem dX7_init_114 : decode cX7_init 114 = .ok (.iastore, 1) := by decide +kernel
theorem dX7_init_115 : decode cX7_init 115 = .ok (.aload_n 0, 1) := by decide +kernel
theorem dX7_init_116 : decode cX7_init 116 = .ok (.getfield 7, 3) := by decide +kernel
theorem dX7_init_119 : decode cX7_init 119 = .ok (.iconst 2, 1) := by decide +kernel
theorem dX7_init_120 : decode cX7_init 120 = .ok (.iconst 2, 1) := by decide +kernel
theorem dX7_init_121 : decode cX7_init 121 = .ok (.iastore, 1) := by decide +kernel
theorem dX7_init_122 : decode cX7_init 122 = .ok (.aload_n 0, 1) := by decide +kernel
theorem dX7_init_123 : decode cX7_init 123 = .ok (.getfield 7, 3) := by decide +kernel
theorem dX7_init_126 : decode cX7_init 126 = .ok (.iconst 3, 1) := by decide +kernel
theorem dX7_init_127 : decode cX7_init 127 = .ok (.ldc 46, 2) := by decide +kernel
theorem dX7_init_129 : decode cX7_init 129 = .ok (.iastore, 1) := by decide +kernel
theorem dX7_init_130 : decode cX7_init 130 = .ok (.return_, 1) := by decide +kernel
theorem dX7_in_0 : decode cX7_in 0 = .ok (.lload_n 0, 1) := by decide +kernel
theorem dX7_in_1 : decode cX7_in 1 = .ok (.lload_n 2, 1) := by decide +kernel
theorem dX7_in_2 : decode cX7_in 2 = .ok (.lcmp, 1) := by decide +kernel
theorem dX7_in_3 : decode cX7_in 3 = .ok (.ifCond .lt 14, 3) := by decide +kernel
theorem dX7_in_6 : decode cX7_in 6 = .ok (.lload_n 0, 1) := by decide +kernel
theorem dX7_in_7 : decode cX7_in 7 = .ok (.lload 4, 2) := by decide +kernel
theorem dX7_in_9 : decode cX7_in 9 = .ok (.lcmp, 1) := by decide +kernel
theorem dX7_in_10 : decode cX7_in 10 = .ok (.ifCond .gt 7, 3) := by decide +kernel
theorem dX7_in_13 : decode cX7_in 13 = .ok (.iconst 1, 1) := by decide +kernel
theorem dX7_in_14 : decode cX7_in 14 = .ok (.goto 4, 3) := by decide +kernel
theorem dX7_in_17 : decode cX7_in 17 = .ok (.iconst 0, 1) := by decide +kernel
theorem dX7_in_18 : decode cX7_in 18 = .ok (.ireturn, 1) := by decide +kernel
theorem dX7_record_0 : decode cX7_record 0 = .ok (.aload_n 0, 1) := by decide +kernel
theorem dX7_record_1 : decode cX7_record 1 = .ok (.getfield 47, 3) := by decide +kernel
theorem dX7_record_4 : decode cX7_record 4 = .ok (.iconst 4, 1) := by decide +kernel
theorem dX7_record_5 : decode cX7_record 5 = .ok (.if_icmp .ne 44, 3) := by decide +kernel
theorem dX7_record_8 : decode cX7_record 8 = .ok (.iconst 0, 1) := by decide +kernel
theorem dX7_record_9 : decode cX7_record 9 = .ok (.istore_n 1, 1) := by decide +kernel
theorem dX7_record_10 : decode cX7_record 10 = .ok (.iload_n 1, 1) := by decide +kernel
theorem dX7_record_11 : decode cX7_record 11 = .ok (.sipush 612, 3) := by decide +kernel
theorem dX7_record_14 : decode cX7_record 14 = .ok (.if_icmp .ge 25, 3) := by decide +kernel
theorem dX7_record_17 : decode cX7_record 17 = .ok (.aload_n 0, 1) := by decide +kernel
theorem dX7_record_18 : decode cX7_record 18 = .ok (.getfield 13, 3) := by decide +kernel
theorem dX7_record_21 : decode cX7_record 21 = .ok (.iload_n 1, 1) := by decide +kernel
theorem dX7_record_22 : decode cX7_record 22 = .ok (.aload_n 0, 1) := by decide +kernel
theorem dX7_record_23 : decode cX7_record 23 = .ok (.getfield 13, 3) := by decide +kernel
theorem dX7_record_26 : decode cX7_record 26 = .ok (.iload_n 1, 1) := by decide +kernel
theorem dX7_record_27 : decode cX7_record 27 = .ok (.sipush 204, 3) := by decide +kernel
theorem dX7_record_30 : decode cX7_record 30 = .ok (.iadd, 1) := by decide +kernel
theorem dX7_record_31 : decode cX7_record 31 = .ok (.iaload, 1) := by decide +kernel
theorem dX7_record_32 : decode cX7_record 32 = .ok (.iastore, 1) := by decide +kernel
theorem dX7_record_33 : decode cX7_record 33 = .ok (.iinc 1 1, 3) := by decide +kernel
theorem dX7_record_36 : decode cX7_record 36 = .ok (.goto (-26), 3) := by decide +kernel
theorem dX7_record_39 : decode cX7_record 39 = .ok (.aload_n 0, 1) := by decide +kernel
theorem dX7_record_40 : decode cX7_record 40 = .ok (.dup, 1) := by decide +kernel
theorem dX7_record_41 : decode cX7_record 41 = .ok (.getfield 47, 3) := by decide +kernel
theorem dX7_record_44 : decode cX7_record 44 = .ok (.iconst 1, 1) := by decide +kernel
theorem dX7_record_45 : decode cX7_record 45 = .ok (.isub, 1) := by decide +kernel
theorem dX7_record_46 : decode cX7_record 46 = .ok (.putfield 47, 3) := by decide +kernel
theorem dX7_record_49 : decode cX7_record 49 = .ok (.iconst 0, 1) := by decide +kernel
theorem dX7_record_50 : decode cX7_record 50 = .ok (.istore_n 1, 1) := by decide +kernel
theorem dX7_record_51 : decode cX7_record 51 = .ok (.iload_n 1, 1) := by decide +kernel
theorem dX7_record_52 : decode cX7_record 52 = .ok (.sipush 204, 3) := by decide +kernel
theorem dX7_record_55 : decode cX7_record 55 = .ok (.if_icmp .ge 30, 3) := by decide +kernel
theorem dX7_record_58 : decode cX7_record 58 = .ok (.aload_n 0, 1) := by decide +kernel
theorem dX7_record_59 : decode cX7_record 59 = .ok (.getfield 13, 3) := by decide +kernel
theorem dX7_record_62 : decode cX7_record 62 = .ok (.sipush 204, 3) := by decide +kernel
theorem dX7_record_65 : decode cX7_record 65 = .ok (.aload_n 0, 1) := by decide +kernel
theorem dX7_record_66 : decode cX7_record 66 = .ok (.getfield 47, 3) := by decide +kernel
theorem dX7_record_69 : decode cX7_record 69 = .ok (.imul, 1) := by decide +kernel
theorem dX7_record_70 : decode cX7_record 70 = .ok (.iload_n 1, 1) := by decide +kernel
theorem dX7_record_71 : decode cX7_record 71 = .ok (.iadd, 1) := by decide +kernel
theorem dX7_record_72 : decode cX7_record 72 = .ok (.aload_n 0, 1) := by decide +kernel
theorem dX7_record_73 : decode cX7_record 73 = .ok (.getfield 7, 3) := by decide +kernel
theorem dX7_record_76 : decode cX7_record 76 = .ok (.iload_n 1, 1) := by decide +kernel
theorem dX7_record_77 : decode cX7_record 77 = .ok (.iaload, 1) := by decide +kernel
theorem dX7_record_78 : decode cX7_record 78 = .ok (.iastore, 1) := by decide +kernel
theorem dX7_record_79 : decode cX7_record 79 = .ok (.iinc 1 1, 3) := by decide +kernel
theorem dX7_record_82 : decode cX7_record 82 = .ok (.goto (-31), 3) := by decide +kernel
theorem dX7_record_85 : decode cX7_record 85 = .ok (.aload_n 0, 1) := by decide +kernel
theorem dX7_record_86 : decode cX7_record 86 = .ok (.dup, 1) := by decide +kernel
theorem dX7_record_87 : decode cX7_record 87 = .ok (.getfield 47, 3) := by decide +kernel
theorem dX7_record_90 : decode cX7_record 90 = .ok (.iconst 1, 1) := by decide +kernel
theorem dX7_record_91 : decode cX7_record 91 = .ok (.iadd, 1) := by decide +kernel
theorem dX7_record_92 : decode cX7_record 92 = .ok (.putfield 47, 3) := by decide +kernel
theorem dX7_record_95 : decode cX7_record 95 = .ok (.return_, 1) := by decide +kernel
theorem dX7_isRow_0 : decode cX7_isRow 0 = .ok (.iload_n 0, 1) := by decide +kernel
theorem dX7_isRow_1 : decode cX7_isRow 1 = .ok (.i2l, 1) := by decide +kernel
theorem dX7_isRow_2 : decode cX7_isRow 2 = .ok (.lconst 0, 1) := by decide +kernel
theorem dX7_isRow_3 : decode cX7_isRow 3 = .ok (.ldc2_w 51, 3) := by decide +kernel
theorem dX7_isRow_6 : decode cX7_isRow 6 = .ok (.invokestatic 53, 3) := by decide +kernel
theorem dX7_isRow_9 : decode cX7_isRow 9 = .ok (.ifCond .eq 21, 3) := by decide +kernel
theorem dX7_isRow_12 : decode cX7_isRow 12 = .ok (.iload_n 1, 1) := by decide +kernel
theorem dX7_isRow_13 : decode cX7_isRow 13 = .ok (.i2l, 1) := by decide +kernel
theorem dX7_isRow_14 : decode cX7_isRow 14 = .ok (.ldc2_w 57, 3) := by decide +kernel
theorem dX7_isRow_17 : decode cX7_isRow 17 = .ok (.ldc2_w 59, 3) := by decide +kernel
theorem dX7_isRow_20 : decode cX7_isRow 20 = .ok (.invokestatic 53, 3) := by decide +kernel
theorem dX7_isRow_23 : decode cX7_isRow 23 = .ok (.ifCond .eq 7, 3) := by decide +kernel
theorem dX7_isRow_26 : decode cX7_isRow 26 = .ok (.iconst 1, 1) := by decide +kernel
theorem dX7_isRow_27 : decode cX7_isRow 27 = .ok (.goto 4, 3) := by decide +kernel
theorem dX7_isRow_30 : decode cX7_isRow 30 = .ok (.iconst 0, 1) := by decide +kernel
theorem dX7_isRow_31 : decode cX7_isRow 31 = .ok (.ireturn, 1) := by decide +kernel
theorem dX7_adds_0 : decode cX7_adds 0 = .ok (.aload_n 0, 1) := by decide +kernel
theorem dX7_adds_1 : decode cX7_adds 1 = .ok (.getfield 7, 3) := by decide +kernel
theorem dX7_adds_4 : decode cX7_adds 4 = .ok (.iconst 4, 1) := by decide +kernel
theorem dX7_adds_5 : decode cX7_adds 5 = .ok (.aload_n 0, 1) := by decide +kernel
theorem dX7_adds_6 : decode cX7_adds 6 = .ok (.getfield 7, 3) := by decide +kernel
theorem dX7_adds_9 : decode cX7_adds 9 = .ok (.iconst 0, 1) := by decide +kernel
theorem dX7_adds_10 : decode cX7_adds 10 = .ok (.iaload, 1) := by decide +kernel
theorem dX7_adds_11 : decode cX7_adds 11 = .ok (.iadd, 1) := by decide +kernel
theorem dX7_adds_12 : decode cX7_adds 12 = .ok (.iload_n 1, 1) := by decide +kernel
theorem dX7_adds_13 : decode cX7_adds 13 = .ok (.iastore, 1) := by decide +kernel
theorem dX7_adds_14 : decode cX7_adds 14 = .ok (.aload_n 0, 1) := by decide +kernel
theorem dX7_adds_15 : decode cX7_adds 15 = .ok (.getfield 7, 3) := by decide +kernel
theorem dX7_adds_18 : decode cX7_adds 18 = .ok (.bipush 104, 2) := by decide +kernel
theorem dX7_adds_20 : decode cX7_adds 20 = .ok (.aload_n 0, 1) := by decide +kernel
theorem dX7_adds_21 : decode cX7_adds 21 = .ok (.getfield 7, 3) := by decide +kernel
theorem dX7_adds_24 : decode cX7_adds 24 = .ok (.iconst 0, 1) := by decide +kernel
theorem dX7_adds_25 : decode cX7_adds 25 = .ok (.iaload, 1) := by decide +kernel
theorem dX7_adds_26 : decode cX7_adds 26 = .ok (.iadd, 1) := by decide +kernel
theorem dX7_adds_27 : decode cX7_adds 27 = .ok (.iload_n 2, 1) := by decide +kernel
theorem dX7_adds_28 : decode cX7_adds 28 = .ok (.iastore, 1) := by decide +kernel
theorem dX7_adds_29 : decode cX7_adds 29 = .ok (.aload_n 0, 1) := by decide +kernel
theorem dX7_adds_30 : decode cX7_adds 30 = .ok (.getfield 7, 3) := by decide +kernel
theorem dX7_adds_33 : decode cX7_adds 33 = .ok (.iconst 0, 1) := by decide +kernel
theorem dX7_adds_34 : decode cX7_adds 34 = .ok (.dup2, 1) := by decide +kernel
theorem dX7_adds_35 : decode cX7_adds 35 = .ok (.iaload, 1) := by decide +kernel
theorem dX7_adds_36 : decode cX7_adds 36 = .ok (.iconst 1, 1) := by decide +kernel
theorem dX7_adds_37 : decode cX7_adds 37 = .ok (.iadd, 1) := by decide +kernel
theorem dX7_adds_38 : decode cX7_adds 38 = .ok (.iastore, 1) := by decide +kernel
theorem dX7_adds_39 : decode cX7_adds 39 = .ok (.return_, 1) := by decide +kernel
theorem dX7_row_0 : decode cX7_row 0 = .ok (.iload_n 1, 1) := by decide +kernel
theorem dX7_row_1 : decode cX7_row 1 = .ok (.iload_n 2, 1) := by decide +kernel
theorem dX7_row_2 : decode cX7_row 2 = .ok (.invokestatic 61, 3) := by decide +kernel
theorem dX7_row_5 : decode cX7_row 5 = .ok (.ifCond .ne 6, 3) := by decide +kernel
theorem dX7_row_8 : decode cX7_row 8 = .ok (.ldc 65, 2) := by decide +kernel
theorem dX7_row_10 : decode cX7_row 10 = .ok (.ireturn, 1) := by decide +kernel
theorem dX7_row_11 : decode cX7_row 11 = .ok (.aload_n 0, 1) := by decide +kernel
theorem dX7_row_12 : decode cX7_row 12 = .ok (.getfield 7, 3) := by decide +kernel
theorem dX7_row_15 : decode cX7_row 15 = .ok (.iconst 0, 1) := by decide +kernel
theorem dX7_row_16 : decode cX7_row 16 = .ok (.iaload, 1) := by decide +kernel
theorem dX7_row_17 : decode cX7_row 17 = .ok (.bipush 100, 2) := by decide +kernel
theorem dX7_row_19 : decode cX7_row 19 = .ok (.if_icmp .ne 6, 3) := by decide +kernel
theorem dX7_row_22 : decode cX7_row 22 = .ok (.ldc 66, 2) := by decide +kernel
theorem dX7_row_24 : decode cX7_row 24 = .ok (.ireturn, 1) := by decide +kernel
theorem dX7_row_25 : decode cX7_row 25 = .ok (.aload_n 0, 1) := by decide +kernel
theorem dX7_row_26 : decode cX7_row 26 = .ok (.invokevirtual 67, 3) := by decide +kernel
theorem dX7_row_29 : decode cX7_row 29 = .ok (.aload_n 0, 1) := by decide +kernel
theorem dX7_row_30 : decode cX7_row 30 = .ok (.iload_n 1, 1) := by decide +kernel
theorem dX7_row_31 : decode cX7_row 31 = .ok (.iload_n 2, 1) := by decide +kernel
theorem dX7_row_32 : decode cX7_row 32 = .ok (.invokevirtual 70, 3) := by decide +kernel
theorem dX7_row_35 : decode cX7_row 35 = .ok (.aload_n 0, 1) := by decide +kernel
theorem dX7_row_36 : decode cX7_row 36 = .ok (.getfield 7, 3) := by decide +kernel
theorem dX7_row_39 : decode cX7_row 39 = .ok (.iconst 0, 1) := by decide +kernel
theorem dX7_row_40 : decode cX7_row 40 = .ok (.iaload, 1) := by decide +kernel
theorem dX7_row_41 : decode cX7_row 41 = .ok (.iconst 1, 1) := by decide +kernel
theorem dX7_row_42 : decode cX7_row 42 = .ok (.isub, 1) := by decide +kernel
theorem dX7_row_43 : decode cX7_row 43 = .ok (.ireturn, 1) := by decide +kernel
theorem dX7_drop_0 : decode cX7_drop 0 = .ok (.iload_n 1, 1) := by decide +kernel
theorem dX7_drop_1 : decode cX7_drop 1 = .ok (.ifCond .ge 6, 3) := by decide +kernel
theorem dX7_drop_4 : decode cX7_drop 4 = .ok (.ldc 65, 2) := by decide +kernel
theorem dX7_drop_6 : decode cX7_drop 6 = .ok (.ireturn, 1) := by decide +kernel
theorem dX7_drop_7 : decode cX7_drop 7 = .ok (.iload_n 1, 1) := by decide +kernel
theorem dX7_drop_8 : decode cX7_drop 8 = .ok (.aload_n 0, 1) := by decide +kernel
theorem dX7_drop_9 : decode cX7_drop 9 = .ok (.getfield 7, 3) := by decide +kernel
theorem dX7_drop_12 : decode cX7_drop 12 = .ok (.iconst 0, 1) := by decide +kernel
theorem dX7_drop_13 : decode cX7_drop 13 = .ok (.iaload, 1) := by decide +kernel
theorem dX7_drop_14 : decode cX7_drop 14 = .ok (.if_icmp .lt 6, 3) := by decide +kernel
theorem dX7_drop_17 : decode cX7_drop 17 = .ok (.ldc 74, 2) := by decide +kernel
theorem dX7_drop_19 : decode cX7_drop 19 = .ok (.ireturn, 1) := by decide +kernel
theorem dX7_drop_20 : decode cX7_drop 20 = .ok (.aload_n 0, 1) := by decide +kernel
theorem dX7_drop_21 : decode cX7_drop 21 = .ok (.invokevirtual 67, 3) := by decide +kernel
theorem dX7_drop_24 : decode cX7_drop 24 = .ok (.aload_n 0, 1) := by decide +kernel
theorem dX7_drop_25 : decode cX7_drop 25 = .ok (.getfield 7, 3) := by decide +kernel
theorem dX7_drop_28 : decode cX7_drop 28 = .ok (.iconst 0, 1) := by decide +kernel
theorem dX7_drop_29 : decode cX7_drop 29 = .ok (.dup2, 1) := by decide +kernel
theorem dX7_drop_30 : decode cX7_drop 30 = .ok (.iaload, 1) := by decide +kernel
theorem dX7_drop_31 : decode cX7_drop 31 = .ok (.iconst 1, 1) := by decide +kernel
theorem dX7_drop_32 : decode cX7_drop 32 = .ok (.isub, 1) := by decide +kernel
theorem dX7_drop_33 : decode cX7_drop 33 = .ok (.iastore, 1) := by decide +kernel
theorem dX7_drop_34 : decode cX7_drop 34 = .ok (.iload_n 1, 1) := by decide +kernel
theorem dX7_drop_35 : decode cX7_drop 35 = .ok (.istore_n 2, 1) := by decide +kernel
theorem dX7_drop_36 : decode cX7_drop 36 = .ok (.iload_n 2, 1) := by decide +kernel
theorem dX7_drop_37 : decode cX7_drop 37 = .ok (.aload_n 0, 1) := by decide +kernel
theorem dX7_drop_38 : decode cX7_drop 38 = .ok (.getfield 7, 3) := by decide +kernel
theorem dX7_drop_41 : decode cX7_drop 41 = .ok (.iconst 0, 1) := by decide +kernel
theorem dX7_drop_42 : decode cX7_drop 42 = .ok (.iaload, 1) := by decide +kernel
theorem dX7_drop_43 : decode cX7_drop 43 = .ok (.if_icmp .ge 47, 3) := by decide +kernel
theorem dX7_drop_46 : decode cX7_drop 46 = .ok (.aload_n 0, 1) := by decide +kernel
theorem dX7_drop_47 : decode cX7_drop 47 = .ok (.getfield 7, 3) := by decide +kernel
theorem dX7_drop_50 : decode cX7_drop 50 = .ok (.iconst 4, 1) := by decide +kernel
theorem dX7_drop_51 : decode cX7_drop 51 = .ok (.iload_n 2, 1) := by decide +kernel
theorem dX7_drop_52 : decode cX7_drop 52 = .ok (.iadd, 1) := by decide +kernel
theorem dX7_drop_53 : decode cX7_drop 53 = .ok (.aload_n 0, 1) := by decide +kernel
theorem dX7_drop_54 : decode cX7_drop 54 = .ok (.getfield 7, 3) := by decide +kernel
theorem dX7_drop_57 : decode cX7_drop 57 = .ok (.iconst 4, 1) := by decide +kernel
theorem dX7_drop_58 : decode cX7_drop 58 = .ok (.iload_n 2, 1) := by decide +kernel
theorem dX7_drop_59 : decode cX7_drop 59 = .ok (.iadd, 1) := by decide +kernel
theorem dX7_drop_60 : decode cX7_drop 60 = .ok (.iconst 1, 1) := by decide +kernel
theorem dX7_drop_61 : decode cX7_drop 61 = .ok (.iadd, 1) := by decide +kernel
theorem dX7_drop_62 : decode cX7_drop 62 = .ok (.iaload, 1) := by decide +kernel
theorem dX7_drop_63 : decode cX7_drop 63 = .ok (.iastore, 1) := by decide +kernel
theorem dX7_drop_64 : decode cX7_drop 64 = .ok (.aload_n 0, 1) := by decide +kernel
theorem dX7_drop_65 : decode cX7_drop 65 = .ok (.getfield 7, 3) := by decide +kernel
theorem dX7_drop_68 : decode cX7_drop 68 = .ok (.bipush 104, 2) := by decide +kernel
theorem dX7_drop_70 : decode cX7_drop 70 = .ok (.iload_n 2, 1) := by decide +kernel
theorem dX7_drop_71 : decode cX7_drop 71 = .ok (.iadd, 1) := by decide +kernel
theorem dX7_drop_72 : decode cX7_drop 72 = .ok (.aload_n 0, 1) := by decide +kernel
theorem dX7_drop_73 : decode cX7_drop 73 = .ok (.getfield 7, 3) := by decide +kernel
theorem dX7_drop_76 : decode cX7_drop 76 = .ok (.bipush 104, 2) := by decide +kernel
theorem dX7_drop_78 : decode cX7_drop 78 = .ok (.iload_n 2, 1) := by decide +kernel
theorem dX7_drop_79 : decode cX7_drop 79 = .ok (.iadd, 1) := by decide +kernel
theorem dX7_drop_80 : decode cX7_drop 80 = .ok (.iconst 1, 1) := by decide +kernel
theorem dX7_drop_81 : decode cX7_drop 81 = .ok (.iadd, 1) := by decide +kernel
theorem dX7_drop_82 : decode cX7_drop 82 = .ok (.iaload, 1) := by decide +kernel
theorem dX7_drop_83 : decode cX7_drop 83 = .ok (.iastore, 1) := by decide +kernel
theorem dX7_drop_84 : decode cX7_drop 84 = .ok (.iinc 2 1, 3) := by decide +kernel
theorem dX7_drop_87 : decode cX7_drop 87 = .ok (.goto (-51), 3) := by decide +kernel
theorem dX7_drop_90 : decode cX7_drop 90 = .ok (.aload_n 0, 1) := by decide +kernel
theorem dX7_drop_91 : decode cX7_drop 91 = .ok (.getfield 7, 3) := by decide +kernel
theorem dX7_drop_94 : decode cX7_drop 94 = .ok (.iconst 0, 1) := by decide +kernel
theorem dX7_drop_95 : decode cX7_drop 95 = .ok (.iaload, 1) := by decide +kernel
theorem dX7_drop_96 : decode cX7_drop 96 = .ok (.ireturn, 1) := by decide +kernel
theorem dX7_clear_0 : decode cX7_clear 0 = .ok (.aload_n 0, 1) := by decide +kernel
theorem dX7_clear_1 : decode cX7_clear 1 = .ok (.invokevirtual 67, 3) := by decide +kernel
theorem dX7_clear_4 : decode cX7_clear 4 = .ok (.aload_n 0, 1) := by decide +kernel
theorem dX7_clear_5 : decode cX7_clear 5 = .ok (.getfield 7, 3) := by decide +kernel
theorem dX7_clear_8 : decode cX7_clear 8 = .ok (.iconst 0, 1) := by decide +kernel
theorem dX7_clear_9 : decode cX7_clear 9 = .ok (.iaload, 1) := by decide +kernel
theorem dX7_clear_10 : decode cX7_clear 10 = .ok (.istore_n 1, 1) := by decide +kernel
theorem dX7_clear_11 : decode cX7_clear 11 = .ok (.aload_n 0, 1) := by decide +kernel
theorem dX7_clear_12 : decode cX7_clear 12 = .ok (.getfield 7, 3) := by decide +kernel
theorem dX7_clear_15 : decode cX7_clear 15 = .ok (.iconst 0, 1) := by decide +kernel
theorem dX7_clear_16 : decode cX7_clear 16 = .ok (.iconst 0, 1) := by decide +kernel
theorem dX7_clear_17 : decode cX7_clear 17 = .ok (.iastore, 1) := by decide +kernel
theorem dX7_clear_18 : decode cX7_clear 18 = .ok (.iload_n 1, 1) := by decide +kernel
theorem dX7_clear_19 : decode cX7_clear 19 = .ok (.ireturn, 1) := by decide +kernel
theorem dX7_set_0 : decode cX7_set 0 = .ok (.iload_n 1, 1) := by decide +kernel
theorem dX7_set_1 : decode cX7_set 1 = .ok (.ifCond .ne 15, 3) := by decide +kernel
theorem dX7_set_4 : decode cX7_set 4 = .ok (.iload_n 2, 1) := by decide +kernel
theorem dX7_set_5 : decode cX7_set 5 = .ok (.i2l, 1) := by decide +kernel
theorem dX7_set_6 : decode cX7_set 6 = .ok (.lconst 1, 1) := by decide +kernel
theorem dX7_set_7 : decode cX7_set 7 = .ok (.ldc2_w 75, 3) := by decide +kernel
theorem dX7_set_10 : decode cX7_set 10 = .ok (.invokestatic 53, 3) := by decide +kernel
theorem dX7_set_13 : decode cX7_set 13 = .ok (.goto 49, 3) := by decide +kernel
theorem dX7_set_16 : decode cX7_set 16 = .ok (.iload_n 1, 1) := by decide +kernel
theorem dX7_set_17 : decode cX7_set 17 = .ok (.iconst 1, 1) := by decide +kernel
theorem dX7_set_18 : decode cX7_set 18 = .ok (.if_icmp .ne 15, 3) := by decide +kernel
theorem dX7_set_21 : decode cX7_set 21 = .ok (.iload_n 2, 1) := by decide +kernel
theorem dX7_set_22 : decode cX7_set 22 = .ok (.i2l, 1) := by decide +kernel
theorem dX7_set_23 : decode cX7_set 23 = .ok (.lconst 1, 1) := by decide +kernel
theorem dX7_set_24 : decode cX7_set 24 = .ok (.ldc2_w 77, 3) := by decide +kernel
theorem dX7_set_27 : decode cX7_set 27 = .ok (.invokestatic 53, 3) := by decide +kernel
theorem dX7_set_30 : decode cX7_set 30 = .ok (.goto 32, 3) := by decide +kernel
theorem dX7_set_33 : decode cX7_set 33 = .ok (.iload_n 1, 1) := by decide +kernel
theorem dX7_set_34 : decode cX7_set 34 = .ok (.iconst 2, 1) := by decide +kernel
theorem dX7_set_35 : decode cX7_set 35 = .ok (.if_icmp .ne 26, 3) := by decide +kernel
theorem dX7_set_38 : decode cX7_set 38 = .ok (.iload_n 2, 1) := by decide +kernel
theorem dX7_set_39 : decode cX7_set 39 = .ok (.i2l, 1) := by decide +kernel
theorem dX7_set_40 : decode cX7_set 40 = .ok (.lconst 1, 1) := by decide +kernel
theorem dX7_set_41 : decode cX7_set 41 = .ok (.ldc2_w 79, 3) := by decide +kernel
theorem dX7_set_44 : decode cX7_set 44 = .ok (.invokestatic 53, 3) := by decide +kernel
theorem dX7_set_47 : decode cX7_set 47 = .ok (.ifCond .eq 14, 3) := by decide +kernel
theorem dX7_set_50 : decode cX7_set 50 = .ok (.iload_n 2, 1) := by decide +kernel
theorem dX7_set_51 : decode cX7_set 51 = .ok (.iconst 2, 1) := by decide +kernel
theorem dX7_set_52 : decode cX7_set 52 = .ok (.irem, 1) := by decide +kernel
theorem dX7_set_53 : decode cX7_set 53 = .ok (.iconst 1, 1) := by decide +kernel
theorem dX7_set_54 : decode cX7_set 54 = .ok (.if_icmp .ne 7, 3) := by decide +kernel
theorem dX7_set_57 : decode cX7_set 57 = .ok (.iconst 1, 1) := by decide +kernel
theorem dX7_set_58 : decode cX7_set 58 = .ok (.goto 4, 3) := by decide +kernel
theorem dX7_set_61 : decode cX7_set 61 = .ok (.iconst 0, 1) := by decide +kernel
theorem dX7_set_62 : decode cX7_set 62 = .ok (.istore_n 3, 1) := by decide +kernel
theorem dX7_set_63 : decode cX7_set 63 = .ok (.iload_n 3, 1) := by decide +kernel
theorem dX7_set_64 : decode cX7_set 64 = .ok (.ifCond .ne 6, 3) := by decide +kernel
theorem dX7_set_67 : decode cX7_set 67 = .ok (.ldc 65, 2) := by decide +kernel
theorem dX7_set_69 : decode cX7_set 69 = .ok (.ireturn, 1) := by decide +kernel
theorem dX7_set_70 : decode cX7_set 70 = .ok (.aload_n 0, 1) := by decide +kernel
theorem dX7_set_71 : decode cX7_set 71 = .ok (.invokevirtual 67, 3) := by decide +kernel
theorem dX7_set_74 : decode cX7_set 74 = .ok (.aload_n 0, 1) := by decide +kernel
theorem dX7_set_75 : decode cX7_set 75 = .ok (.getfield 7, 3) := by decide +kernel
theorem dX7_set_78 : decode cX7_set 78 = .ok (.iconst 1, 1) := by decide +kernel
theorem dX7_set_79 : decode cX7_set 79 = .ok (.iload_n 1, 1) := by decide +kernel
theorem dX7_set_80 : decode cX7_set 80 = .ok (.iadd, 1) := by decide +kernel
theorem dX7_set_81 : decode cX7_set 81 = .ok (.iaload, 1) := by decide +kernel
theorem dX7_set_82 : decode cX7_set 82 = .ok (.istore 4, 2) := by decide +kernel
theorem dX7_set_84 : decode cX7_set 84 = .ok (.aload_n 0, 1) := by decide +kernel
theorem dX7_set_85 : decode cX7_set 85 = .ok (.getfield 7, 3) := by decide +kernel
theorem dX7_set_88 : decode cX7_set 88 = .ok (.iconst 1, 1) := by decide +kernel
theorem dX7_set_89 : decode cX7_set 89 = .ok (.iload_n 1, 1) := by decide +kernel
theorem dX7_set_90 : decode cX7_set 90 = .ok (.iadd, 1) := by decide +kernel
theorem dX7_set_91 : decode cX7_set 91 = .ok (.iload_n 2, 1) := by decide +kernel
theorem dX7_set_92 : decode cX7_set 92 = .ok (.iastore, 1) := by decide +kernel
theorem dX7_set_93 : decode cX7_set 93 = .ok (.iload 4, 2) := by decide +kernel
theorem dX7_set_95 : decode cX7_set 95 = .ok (.ireturn, 1) := by decide +kernel
theorem dX7_hashOf_0 : decode cX7_hashOf 0 = .ok (.iload_n 1, 1) := by decide +kernel
theorem dX7_hashOf_1 : decode cX7_hashOf 1 = .ok (.aload_n 0, 1) := by decide +kernel
theorem dX7_hashOf_2 : decode cX7_hashOf 2 = .ok (.getfield 7, 3) := by decide +kernel
theorem dX7_hashOf_5 : decode cX7_hashOf 5 = .ok (.iconst 3, 1) := by decide +kernel
theorem dX7_hashOf_6 : decode cX7_hashOf 6 = .ok (.iaload, 1) := by decide +kernel
theorem dX7_hashOf_7 : decode cX7_hashOf 7 = .ok (.imul, 1) := by decide +kernel
theorem dX7_hashOf_8 : decode cX7_hashOf 8 = .ok (.sipush 7919, 3) := by decide +kernel
theorem dX7_hashOf_11 : decode cX7_hashOf 11 = .ok (.iadd, 1) := by decide +kernel
theorem dX7_hashOf_12 : decode cX7_hashOf 12 = .ok (.ldc 81, 2) := by decide +kernel
theorem dX7_hashOf_14 : decode cX7_hashOf 14 = .ok (.irem, 1) := by decide +kernel
theorem dX7_hashOf_15 : decode cX7_hashOf 15 = .ok (.ireturn, 1) := by decide +kernel
theorem dX7_partOf_0 : decode cX7_partOf 0 = .ok (.aload_n 0, 1) := by decide +kernel
theorem dX7_partOf_1 : decode cX7_partOf 1 = .ok (.iload_n 1, 1) := by decide +kernel
theorem dX7_partOf_2 : decode cX7_partOf 2 = .ok (.invokevirtual 82, 3) := by decide +kernel
theorem dX7_partOf_5 : decode cX7_partOf 5 = .ok (.bipush 16, 2) := by decide +kernel
theorem dX7_partOf_7 : decode cX7_partOf 7 = .ok (.iload_n 2, 1) := by decide +kernel
theorem dX7_partOf_8 : decode cX7_partOf 8 = .ok (.iconst 1, 1) := by decide +kernel
theorem dX7_partOf_9 : decode cX7_partOf 9 = .ok (.iadd, 1) := by decide +kernel
theorem dX7_partOf_10 : decode cX7_partOf 10 = .ok (.iload_n 3, 1) := by decide +kernel
theorem dX7_partOf_11 : decode cX7_partOf 11 = .ok (.imul, 1) := by decide +kernel
theorem dX7_partOf_12 : decode cX7_partOf 12 = .ok (.isub, 1) := by decide +kernel
theorem dX7_partOf_13 : decode cX7_partOf 13 = .ok (.ishr, 1) := by decide +kernel
theorem dX7_partOf_14 : decode cX7_partOf 14 = .ok (.iconst 1, 1) := by decide +kernel
theorem dX7_partOf_15 : decode cX7_partOf 15 = .ok (.iload_n 3, 1) := by decide +kernel
theorem dX7_partOf_16 : decode cX7_partOf 16 = .ok (.ishl, 1) := by decide +kernel
theorem dX7_partOf_17 : decode cX7_partOf 17 = .ok (.iconst 1, 1) := by decide +kernel
theorem dX7_partOf_18 : decode cX7_partOf 18 = .ok (.isub, 1) := by decide +kernel
theorem dX7_partOf_19 : decode cX7_partOf 19 = .ok (.iand, 1) := by decide +kernel
theorem dX7_partOf_20 : decode cX7_partOf 20 = .ok (.ireturn, 1) := by decide +kernel
theorem dX7_rowOf_0 : decode cX7_rowOf 0 = .ok (.iload_n 1, 1) := by decide +kernel
theorem dX7_rowOf_1 : decode cX7_rowOf 1 = .ok (.ifCond .lt 15, 3) := by decide +kernel
theorem dX7_rowOf_4 : decode cX7_rowOf 4 = .ok (.iload_n 2, 1) := by decide +kernel
theorem dX7_rowOf_5 : decode cX7_rowOf 5 = .ok (.i2l, 1) := by decide +kernel
theorem dX7_rowOf_6 : decode cX7_rowOf 6 = .ok (.lconst 0, 1) := by decide +kernel
theorem dX7_rowOf_7 : decode cX7_rowOf 7 = .ok (.ldc2_w 86, 3) := by decide +kernel
theorem dX7_rowOf_10 : decode cX7_rowOf 10 = .ok (.invokestatic 53, 3) := by decide +kernel
theorem dX7_rowOf_13 : decode cX7_rowOf 13 = .ok (.ifCond .ne 6, 3) := by decide +kernel
theorem dX7_rowOf_16 : decode cX7_rowOf 16 = .ok (.ldc 65, 2) := by decide +kernel
theorem dX7_rowOf_18 : decode cX7_rowOf 18 = .ok (.ireturn, 1) := by decide +kernel
theorem dX7_rowOf_19 : decode cX7_rowOf 19 = .ok (.iload_n 1, 1) := by decide +kernel
theorem dX7_rowOf_20 : decode cX7_rowOf 20 = .ok (.aload_n 0, 1) := by decide +kernel
theorem dX7_rowOf_21 : decode cX7_rowOf 21 = .ok (.getfield 7, 3) := by decide +kernel
theorem dX7_rowOf_24 : decode cX7_rowOf 24 = .ok (.iconst 0, 1) := by decide +kernel
theorem dX7_rowOf_25 : decode cX7_rowOf 25 = .ok (.iaload, 1) := by decide +kernel
theorem dX7_rowOf_26 : decode cX7_rowOf 26 = .ok (.if_icmp .lt 6, 3) := by decide +kernel
theorem dX7_rowOf_29 : decode cX7_rowOf 29 = .ok (.ldc 88, 2) := by decide +kernel
theorem dX7_rowOf_31 : decode cX7_rowOf 31 = .ok (.ireturn, 1) := by decide +kernel
theorem dX7_rowOf_32 : decode cX7_rowOf 32 = .ok (.aload_n 0, 1) := by decide +kernel
theorem dX7_rowOf_33 : decode cX7_rowOf 33 = .ok (.getfield 7, 3) := by decide +kernel
theorem dX7_rowOf_36 : decode cX7_rowOf 36 = .ok (.iconst 4, 1) := by decide +kernel
theorem dX7_rowOf_37 : decode cX7_rowOf 37 = .ok (.iload_n 1, 1) := by decide +kernel
theorem dX7_rowOf_38 : decode cX7_rowOf 38 = .ok (.iadd, 1) := by decide +kernel
theorem dX7_rowOf_39 : decode cX7_rowOf 39 = .ok (.iaload, 1) := by decide +kernel
theorem dX7_rowOf_40 : decode cX7_rowOf 40 = .ok (.istore_n 3, 1) := by decide +kernel
theorem dX7_rowOf_41 : decode cX7_rowOf 41 = .ok (.iload_n 2, 1) := by decide +kernel
theorem dX7_rowOf_42 : decode cX7_rowOf 42 = .ok (.ifCond .ne 7, 3) := by decide +kernel
theorem dX7_rowOf_45 : decode cX7_rowOf 45 = .ok (.iload_n 3, 1) := by decide +kernel
theorem dX7_rowOf_46 : decode cX7_rowOf 46 = .ok (.goto 45, 3) := by decide +kernel
theorem dX7_rowOf_49 : decode cX7_rowOf 49 = .ok (.iload_n 2, 1) := by decide +kernel
theorem dX7_rowOf_50 : decode cX7_rowOf 50 = .ok (.iconst 1, 1) := by decide +kernel
theorem dX7_rowOf_51 : decode cX7_rowOf 51 = .ok (.if_icmp .ne 15, 3) := by decide +kernel
theorem dX7_rowOf_54 : decode cX7_rowOf 54 = .ok (.aload_n 0, 1) := by decide +kernel
theorem dX7_rowOf_55 : decode cX7_rowOf 55 = .ok (.getfield 7, 3) := by decide +kernel
theorem dX7_rowOf_58 : decode cX7_rowOf 58 = .ok (.bipush 104, 2) := by decide +kernel
theorem dX7_rowOf_60 : decode cX7_rowOf 60 = .ok (.iload_n 1, 1) := by decide +kernel
theorem dX7_rowOf_61 : decode cX7_rowOf 61 = .ok (.iadd, 1) := by decide +kernel
theorem dX7_rowOf_62 : decode cX7_rowOf 62 = .ok (.iaload, 1) := by decide +kernel
theorem dX7_rowOf_63 : decode cX7_rowOf 63 = .ok (.goto 28, 3) := by decide +kernel
theorem dX7_rowOf_66 : decode cX7_rowOf 66 = .ok (.iload_n 2, 1) := by decide +kernel
theorem dX7_rowOf_67 : decode cX7_rowOf 67 = .ok (.iconst 2, 1) := by decide +kernel
theorem dX7_rowOf_68 : decode cX7_rowOf 68 = .ok (.if_icmp .ne 11, 3) := by decide +kernel
theorem dX7_rowOf_71 : decode cX7_rowOf 71 = .ok (.aload_n 0, 1) := by decide +kernel
theorem dX7_rowOf_72 : decode cX7_rowOf 72 = .ok (.iload_n 3, 1) := by decide +kernel
theorem dX7_rowOf_73 : decode cX7_rowOf 73 = .ok (.invokevirtual 82, 3) := by decide +kernel
theorem dX7_rowOf_76 : decode cX7_rowOf 76 = .ok (.goto 15, 3) := by decide +kernel
theorem dX7_rowOf_79 : decode cX7_rowOf 79 = .ok (.aload_n 0, 1) := by decide +kernel
theorem dX7_rowOf_80 : decode cX7_rowOf 80 = .ok (.iload_n 3, 1) := by decide +kernel
theorem dX7_rowOf_81 : decode cX7_rowOf 81 = .ok (.iconst 0, 1) := by decide +kernel
theorem dX7_rowOf_82 : decode cX7_rowOf 82 = .ok (.aload_n 0, 1) := by decide +kernel
theorem dX7_rowOf_83 : decode cX7_rowOf 83 = .ok (.getfield 7, 3) := by decide +kernel
theorem dX7_rowOf_86 : decode cX7_rowOf 86 = .ok (.iconst 2, 1) := by decide +kernel
theorem dX7_rowOf_87 : decode cX7_rowOf 87 = .ok (.iaload, 1) := by decide +kernel
theorem dX7_rowOf_88 : decode cX7_rowOf 88 = .ok (.invokevirtual 89, 3) := by decide +kernel
theorem dX7_rowOf_91 : decode cX7_rowOf 91 = .ok (.ireturn, 1) := by decide +kernel
theorem dX7_makes_0 : decode cX7_makes 0 = .ok (.bipush 6, 2) := by decide +kernel
theorem dX7_makes_2 : decode cX7_makes 2 = .ok (.aload_n 0, 1) := by decide +kernel
theorem dX7_makes_3 : decode cX7_makes 3 = .ok (.getfield 93, 3) := by decide +kernel
theorem dX7_makes_6 : decode cX7_makes 6 = .ok (.imul, 1) := by decide +kernel
theorem dX7_makes_7 : decode cX7_makes 7 = .ok (.istore 6, 2) := by decide +kernel
theorem dX7_makes_9 : decode cX7_makes 9 = .ok (.aload_n 0, 1) := by decide +kernel
theorem dX7_makes_10 : decode cX7_makes 10 = .ok (.getfield 16, 3) := by decide +kernel
theorem dX7_makes_13 : decode cX7_makes 13 = .ok (.iload 6, 2) := by decide +kernel
theorem dX7_makes_15 : decode cX7_makes 15 = .ok (.iload_n 1, 1) := by decide +kernel
theorem dX7_makes_16 : decode cX7_makes 16 = .ok (.iastore, 1) := by decide +kernel
theorem dX7_makes_17 : decode cX7_makes 17 = .ok (.aload_n 0, 1) := by decide +kernel
theorem dX7_makes_18 : decode cX7_makes 18 = .ok (.getfield 16, 3) := by decide +kernel
theorem dX7_makes_21 : decode cX7_makes 21 = .ok (.iload 6, 2) := by decide +kernel
theorem dX7_makes_23 : decode cX7_makes 23 = .ok (.iconst 1, 1) := by decide +kernel
theorem dX7_makes_24 : decode cX7_makes 24 = .ok (.iadd, 1) := by decide +kernel
theorem dX7_makes_25 : decode cX7_makes 25 = .ok (.iload_n 2, 1) := by decide +kernel
theorem dX7_makes_26 : decode cX7_makes 26 = .ok (.iastore, 1) := by decide +kernel
theorem dX7_makes_27 : decode cX7_makes 27 = .ok (.aload_n 0, 1) := by decide +kernel
theorem dX7_makes_28 : decode cX7_makes 28 = .ok (.getfield 16, 3) := by decide +kernel
theorem dX7_makes_31 : decode cX7_makes 31 = .ok (.iload 6, 2) := by decide +kernel
theorem dX7_makes_33 : decode cX7_makes 33 = .ok (.iconst 2, 1) := by decide +kernel
theorem dX7_makes_34 : decode cX7_makes 34 = .ok (.iadd, 1) := by decide +kernel
theorem dX7_makes_35 : decode cX7_makes 35 = .ok (.iload_n 3, 1) := by decide +kernel
theorem dX7_makes_36 : decode cX7_makes 36 = .ok (.iastore, 1) := by decide +kernel
theorem dX7_makes_37 : decode cX7_makes 37 = .ok (.aload_n 0, 1) := by decide +kernel
theorem dX7_makes_38 : decode cX7_makes 38 = .ok (.getfield 16, 3) := by decide +kernel
theorem dX7_makes_41 : decode cX7_makes 41 = .ok (.iload 6, 2) := by decide +kernel
theorem dX7_makes_43 : decode cX7_makes 43 = .ok (.iconst 3, 1) := by decide +kernel
theorem dX7_makes_44 : decode cX7_makes 44 = .ok (.iadd, 1) := by decide +kernel
theorem dX7_makes_45 : decode cX7_makes 45 = .ok (.iload 4, 2) := by decide +kernel
theorem dX7_makes_47 : decode cX7_makes 47 = .ok (.iastore, 1) := by decide +kernel
theorem dX7_makes_48 : decode cX7_makes 48 = .ok (.aload_n 0, 1) := by decide +kernel
theorem dX7_makes_49 : decode cX7_makes 49 = .ok (.getfield 16, 3) := by decide +kernel
theorem dX7_makes_52 : decode cX7_makes 52 = .ok (.iload 6, 2) := by decide +kernel
theorem dX7_makes_54 : decode cX7_makes 54 = .ok (.iconst 4, 1) := by decide +kernel
theorem dX7_makes_55 : decode cX7_makes 55 = .ok (.iadd, 1) := by decide +kernel
theorem dX7_makes_56 : decode cX7_makes 56 = .ok (.iload 5, 2) := by decide +kernel
theorem dX7_makes_58 : decode cX7_makes 58 = .ok (.iastore, 1) := by decide +kernel
theorem dX7_makes_59 : decode cX7_makes 59 = .ok (.aload_n 0, 1) := by decide +kernel
theorem dX7_makes_60 : decode cX7_makes 60 = .ok (.getfield 16, 3) := by decide +kernel
theorem dX7_makes_63 : decode cX7_makes 63 = .ok (.iload 6, 2) := by decide +kernel
theorem dX7_makes_65 : decode cX7_makes 65 = .ok (.iconst 5, 1) := by decide +kernel
theorem dX7_makes_66 : decode cX7_makes 66 = .ok (.iadd, 1) := by decide +kernel
theorem dX7_makes_67 : decode cX7_makes 67 = .ok (.iconst (-1), 1) := by decide +kernel
theorem dX7_makes_68 : decode cX7_makes 68 = .ok (.iastore, 1) := by decide +kernel
theorem dX7_makes_69 : decode cX7_makes 69 = .ok (.aload_n 0, 1) := by decide +kernel
theorem dX7_makes_70 : decode cX7_makes 70 = .ok (.dup, 1) := by decide +kernel
theorem dX7_makes_71 : decode cX7_makes 71 = .ok (.getfield 93, 3) := by decide +kernel
theorem dX7_makes_74 : decode cX7_makes 74 = .ok (.iconst 1, 1) := by decide +kernel
theorem dX7_makes_75 : decode cX7_makes 75 = .ok (.iadd, 1) := by decide +kernel
theorem dX7_makes_76 : decode cX7_makes 76 = .ok (.putfield 93, 3) := by decide +kernel
theorem dX7_makes_79 : decode cX7_makes 79 = .ok (.aload_n 0, 1) := by decide +kernel
theorem dX7_makes_80 : decode cX7_makes 80 = .ok (.getfield 93, 3) := by decide +kernel
theorem dX7_makes_83 : decode cX7_makes 83 = .ok (.iconst 1, 1) := by decide +kernel
theorem dX7_makes_84 : decode cX7_makes 84 = .ok (.isub, 1) := by decide +kernel
theorem dX7_makes_85 : decode cX7_makes 85 = .ok (.ireturn, 1) := by decide +kernel
theorem dX7_of_0 : decode cX7_of 0 = .ok (.aload_n 0, 1) := by decide +kernel
theorem dX7_of_1 : decode cX7_of 1 = .ok (.getfield 16, 3) := by decide +kernel
theorem dX7_of_4 : decode cX7_of 4 = .ok (.bipush 6, 2) := by decide +kernel
theorem dX7_of_6 : decode cX7_of 6 = .ok (.iload_n 1, 1) := by decide +kernel
theorem dX7_of_7 : decode cX7_of 7 = .ok (.imul, 1) := by decide +kernel
theorem dX7_of_8 : decode cX7_of 8 = .ok (.iload_n 2, 1) := by decide +kernel
theorem dX7_of_9 : decode cX7_of 9 = .ok (.iadd, 1) := by decide +kernel
theorem dX7_of_10 : decode cX7_of 10 = .ok (.iaload, 1) := by decide +kernel
theorem dX7_of_11 : decode cX7_of 11 = .ok (.ireturn, 1) := by decide +kernel
theorem dX7_inMemory_0 : decode cX7_inMemory 0 = .ok (.iconst 0, 1) := by decide +kernel
theorem dX7_inMemory_1 : decode cX7_inMemory 1 = .ok (.istore_n 2, 1) := by decide +kernel
theorem dX7_inMemory_2 : decode cX7_inMemory 2 = .ok (.iload_n 2, 1) := by decide +kernel
theorem dX7_inMemory_3 : decode cX7_inMemory 3 = .ok (.aload_n 0, 1) := by decide +kernel
theorem dX7_inMemory_4 : decode cX7_inMemory 4 = .ok (.getfield 96, 3) := by decide +kernel
theorem dX7_inMemory_7 : decode cX7_inMemory 7 = .ok (.if_icmp .ge 21, 3) := by decide +kernel
theorem dX7_inMemory_10 : decode cX7_inMemory 10 = .ok (.aload_n 0, 1) := by decide +kernel
theorem dX7_inMemory_11 : decode cX7_inMemory 11 = .ok (.getfield 19, 3) := by decide +kernel
theorem dX7_inMemory_14 : decode cX7_inMemory 14 = .ok (.iconst 5, 1) := by decide +kernel
theorem dX7_inMemory_15 : decode cX7_inMemory 15 = .ok (.iload_n 2, 1) := by decide +kernel
theorem dX7_inMemory_16 : decode cX7_inMemory 16 = .ok (.imul, 1) := by decide +kernel
theorem dX7_inMemory_17 : decode cX7_inMemory 17 = .ok (.iaload, 1) := by decide +kernel
theorem dX7_inMemory_18 : decode cX7_inMemory 18 = .ok (.iload_n 1, 1) := by decide +kernel
theorem dX7_inMemory_19 : decode cX7_inMemory 19 = .ok (.if_icmp .eq 9, 3) := by decide +kernel
theorem dX7_inMemory_22 : decode cX7_inMemory 22 = .ok (.iinc 2 1, 3) := by decide +kernel
theorem dX7_inMemory_25 : decode cX7_inMemory 25 = .ok (.goto (-23), 3) := by decide +kernel
theorem dX7_inMemory_28 : decode cX7_inMemory 28 = .ok (.iload_n 2, 1) := by decide +kernel
theorem dX7_inMemory_29 : decode cX7_inMemory 29 = .ok (.aload_n 0, 1) := by decide +kernel
theorem dX7_inMemory_30 : decode cX7_inMemory 30 = .ok (.getfield 96, 3) := by decide +kernel
theorem dX7_inMemory_33 : decode cX7_inMemory 33 = .ok (.if_icmp .ge 7, 3) := by decide +kernel
theorem dX7_inMemory_36 : decode cX7_inMemory 36 = .ok (.iload_n 2, 1) := by decide +kernel
theorem dX7_inMemory_37 : decode cX7_inMemory 37 = .ok (.goto 4, 3) := by decide +kernel
theorem dX7_inMemory_40 : decode cX7_inMemory 40 = .ok (.iconst (-1), 1) := by decide +kernel
theorem dX7_inMemory_41 : decode cX7_inMemory 41 = .ok (.ireturn, 1) := by decide +kernel
theorem dX7_addsTo_0 : decode cX7_addsTo 0 = .ok (.aload_n 0, 1) := by decide +kernel
theorem dX7_addsTo_1 : decode cX7_addsTo 1 = .ok (.getfield 19, 3) := by decide +kernel
theorem dX7_addsTo_4 : decode cX7_addsTo 4 = .ok (.iconst 5, 1) := by decide +kernel
theorem dX7_addsTo_5 : decode cX7_addsTo 5 = .ok (.iload_n 1, 1) := by decide +kernel
theorem dX7_addsTo_6 : decode cX7_addsTo 6 = .ok (.imul, 1) := by decide +kernel
theorem dX7_addsTo_7 : decode cX7_addsTo 7 = .ok (.iconst 1, 1) := by decide +kernel
theorem dX7_addsTo_8 : decode cX7_addsTo 8 = .ok (.iadd, 1) := by decide +kernel
theorem dX7_addsTo_9 : decode cX7_addsTo 9 = .ok (.dup2, 1) := by decide +kernel
theorem dX7_addsTo_10 : decode cX7_addsTo 10 = .ok (.iaload, 1) := by decide +kernel
theorem dX7_addsTo_11 : decode cX7_addsTo 11 = .ok (.aload_n 0, 1) := by decide +kernel
theorem dX7_addsTo_12 : decode cX7_addsTo 12 = .ok (.iload_n 2, 1) := by decide +kernel
theorem dX7_addsTo_13 : decode cX7_addsTo 13 = .ok (.iconst 1, 1) := by decide +kernel
theorem dX7_addsTo_14 : decode cX7_addsTo 14 = .ok (.invokevirtual 99, 3) := by decide +kernel
theorem dX7_addsTo_17 : decode cX7_addsTo 17 = .ok (.iadd, 1) := by decide +kernel
theorem dX7_addsTo_18 : decode cX7_addsTo 18 = .ok (.iastore, 1) := by decide +kernel
theorem dX7_addsTo_19 : decode cX7_addsTo 19 = .ok (.aload_n 0, 1) := by decide +kernel
theorem dX7_addsTo_20 : decode cX7_addsTo 20 = .ok (.getfield 19, 3) := by decide +kernel
theorem dX7_addsTo_23 : decode cX7_addsTo 23 = .ok (.iconst 5, 1) := by decide +kernel
theorem dX7_addsTo_24 : decode cX7_addsTo 24 = .ok (.iload_n 1, 1) := by decide +kernel
theorem dX7_addsTo_25 : decode cX7_addsTo 25 = .ok (.imul, 1) := by decide +kernel
theorem dX7_addsTo_26 : decode cX7_addsTo 26 = .ok (.iconst 2, 1) := by decide +kernel
theorem dX7_addsTo_27 : decode cX7_addsTo 27 = .ok (.iadd, 1) := by decide +kernel
theorem dX7_addsTo_28 : decode cX7_addsTo 28 = .ok (.dup2, 1) := by decide +kernel
theorem dX7_addsTo_29 : decode cX7_addsTo 29 = .ok (.iaload, 1) := by decide +kernel
theorem dX7_addsTo_30 : decode cX7_addsTo 30 = .ok (.aload_n 0, 1) := by decide +kernel
theorem dX7_addsTo_31 : decode cX7_addsTo 31 = .ok (.iload_n 2, 1) := by decide +kernel
theorem dX7_addsTo_32 : decode cX7_addsTo 32 = .ok (.iconst 2, 1) := by decide +kernel
theorem dX7_addsTo_33 : decode cX7_addsTo 33 = .ok (.invokevirtual 99, 3) := by decide +kernel
theorem dX7_addsTo_36 : decode cX7_addsTo 36 = .ok (.iadd, 1) := by decide +kernel
theorem dX7_addsTo_37 : decode cX7_addsTo 37 = .ok (.iastore, 1) := by decide +kernel
theorem dX7_addsTo_38 : decode cX7_addsTo 38 = .ok (.aload_n 0, 1) := by decide +kernel
theorem dX7_addsTo_39 : decode cX7_addsTo 39 = .ok (.getfield 19, 3) := by decide +kernel
theorem dX7_addsTo_42 : decode cX7_addsTo 42 = .ok (.iconst 5, 1) := by decide +kernel
theorem dX7_addsTo_43 : decode cX7_addsTo 43 = .ok (.iload_n 1, 1) := by decide +kernel
theorem dX7_addsTo_44 : decode cX7_addsTo 44 = .ok (.imul, 1) := by decide +kernel
theorem dX7_addsTo_45 : decode cX7_addsTo 45 = .ok (.iconst 3, 1) := by decide +kernel
theorem dX7_addsTo_46 : decode cX7_addsTo 46 = .ok (.iadd, 1) := by decide +kernel
theorem dX7_addsTo_47 : decode cX7_addsTo 47 = .ok (.aload_n 0, 1) := by decide +kernel
theorem dX7_addsTo_48 : decode cX7_addsTo 48 = .ok (.iload_n 2, 1) := by decide +kernel
theorem dX7_addsTo_49 : decode cX7_addsTo 49 = .ok (.iconst 3, 1) := by decide +kernel
theorem dX7_addsTo_50 : decode cX7_addsTo 50 = .ok (.invokevirtual 99, 3) := by decide +kernel
theorem dX7_addsTo_53 : decode cX7_addsTo 53 = .ok (.aload_n 0, 1) := by decide +kernel
theorem dX7_addsTo_54 : decode cX7_addsTo 54 = .ok (.getfield 19, 3) := by decide +kernel
theorem dX7_addsTo_57 : decode cX7_addsTo 57 = .ok (.iconst 5, 1) := by decide +kernel
theorem dX7_addsTo_58 : decode cX7_addsTo 58 = .ok (.iload_n 1, 1) := by decide +kernel
theorem dX7_addsTo_59 : decode cX7_addsTo 59 = .ok (.imul, 1) := by decide +kernel
theorem dX7_addsTo_60 : decode cX7_addsTo 60 = .ok (.iconst 3, 1) := by decide +kernel
theorem dX7_addsTo_61 : decode cX7_addsTo 61 = .ok (.iadd, 1) := by decide +kernel
theorem dX7_addsTo_62 : decode cX7_addsTo 62 = .ok (.iaload, 1) := by decide +kernel
theorem dX7_addsTo_63 : decode cX7_addsTo 63 = .ok (.if_icmp .ge 12, 3) := by decide +kernel
theorem dX7_addsTo_66 : decode cX7_addsTo 66 = .ok (.aload_n 0, 1) := by decide +kernel
theorem dX7_addsTo_67 : decode cX7_addsTo 67 = .ok (.iload_n 2, 1) := by decide +kernel
theorem dX7_addsTo_68 : decode cX7_addsTo 68 = .ok (.iconst 3, 1) := by decide +kernel
theorem dX7_addsTo_69 : decode cX7_addsTo 69 = .ok (.invokevirtual 99, 3) := by decide +kernel
theorem dX7_addsTo_72 : decode cX7_addsTo 72 = .ok (.goto 13, 3) := by decide +kernel
theorem dX7_addsTo_75 : decode cX7_addsTo 75 = .ok (.aload_n 0, 1) := by decide +kernel
theorem dX7_addsTo_76 : decode cX7_addsTo 76 = .ok (.getfield 19, 3) := by decide +kernel
theorem dX7_addsTo_79 : decode cX7_addsTo 79 = .ok (.iconst 5, 1) := by decide +kernel
theorem dX7_addsTo_80 : decode cX7_addsTo 80 = .ok (.iload_n 1, 1) := by decide +kernel
theorem dX7_addsTo_81 : decode cX7_addsTo 81 = .ok (.imul, 1) := by decide +kernel
theorem dX7_addsTo_82 : decode cX7_addsTo 82 = .ok (.iconst 3, 1) := by decide +kernel
theorem dX7_addsTo_83 : decode cX7_addsTo 83 = .ok (.iadd, 1) := by decide +kernel
theorem dX7_addsTo_84 : decode cX7_addsTo 84 = .ok (.iaload, 1) := by decide +kernel
theorem dX7_addsTo_85 : decode cX7_addsTo 85 = .ok (.iastore, 1) := by decide +kernel
theorem dX7_addsTo_86 : decode cX7_addsTo 86 = .ok (.aload_n 0, 1) := by decide +kernel
theorem dX7_addsTo_87 : decode cX7_addsTo 87 = .ok (.getfield 19, 3) := by decide +kernel
theorem dX7_addsTo_90 : decode cX7_addsTo 90 = .ok (.iconst 5, 1) := by decide +kernel
theorem dX7_addsTo_91 : decode cX7_addsTo 91 = .ok (.iload_n 1, 1) := by decide +kernel
theorem dX7_addsTo_92 : decode cX7_addsTo 92 = .ok (.imul, 1) := by decide +kernel
theorem dX7_addsTo_93 : decode cX7_addsTo 93 = .ok (.iconst 4, 1) := by decide +kernel
theorem dX7_addsTo_94 : decode cX7_addsTo 94 = .ok (.iadd, 1) := by decide +kernel
theorem dX7_addsTo_95 : decode cX7_addsTo 95 = .ok (.aload_n 0, 1) := by decide +kernel
theorem dX7_addsTo_96 : decode cX7_addsTo 96 = .ok (.iload_n 2, 1) := by decide +kernel
theorem dX7_addsTo_97 : decode cX7_addsTo 97 = .ok (.iconst 4, 1) := by decide +kernel
theorem dX7_addsTo_98 : decode cX7_addsTo 98 = .ok (.invokevirtual 99, 3) := by decide +kernel
theorem dX7_addsTo_101 : decode cX7_addsTo 101 = .ok (.aload_n 0, 1) := by decide +kernel
theorem dX7_addsTo_102 : decode cX7_addsTo 102 = .ok (.getfield 19, 3) := by decide +kernel
theorem dX7_addsTo_105 : decode cX7_addsTo 105 = .ok (.iconst 5, 1) := by decide +kernel
theorem dX7_addsTo_106 : decode cX7_addsTo 106 = .ok (.iload_n 1, 1) := by decide +kernel
theorem dX7_addsTo_107 : decode cX7_addsTo 107 = .ok (.imul, 1) := by decide +kernel
theorem dX7_addsTo_108 : decode cX7_addsTo 108 = .ok (.iconst 4, 1) := by decide +kernel
theorem dX7_addsTo_109 : decode cX7_addsTo 109 = .ok (.iadd, 1) := by decide +kernel
theorem dX7_addsTo_110 : decode cX7_addsTo 110 = .ok (.iaload, 1) := by decide +kernel
theorem dX7_addsTo_111 : decode cX7_addsTo 111 = .ok (.if_icmp .le 12, 3) := by decide +kernel
theorem dX7_addsTo_114 : decode cX7_addsTo 114 = .ok (.aload_n 0, 1) := by decide +kernel
theorem dX7_addsTo_115 : decode cX7_addsTo 115 = .ok (.iload_n 2, 1) := by decide +kernel
theorem dX7_addsTo_116 : decode cX7_addsTo 116 = .ok (.iconst 4, 1) := by decide +kernel
theorem dX7_addsTo_117 : decode cX7_addsTo 117 = .ok (.invokevirtual 99, 3) := by decide +kernel
theorem dX7_addsTo_120 : decode cX7_addsTo 120 = .ok (.goto 13, 3) := by decide +kernel
theorem dX7_addsTo_123 : decode cX7_addsTo 123 = .ok (.aload_n 0, 1) := by decide +kernel
theorem dX7_addsTo_124 : decode cX7_addsTo 124 = .ok (.getfield 19, 3) := by decide +kernel
theorem dX7_addsTo_127 : decode cX7_addsTo 127 = .ok (.iconst 5, 1) := by decide +kernel
theorem dX7_addsTo_128 : decode cX7_addsTo 128 = .ok (.iload_n 1, 1) := by decide +kernel
theorem dX7_addsTo_129 : decode cX7_addsTo 129 = .ok (.imul, 1) := by decide +kernel
theorem dX7_addsTo_130 : decode cX7_addsTo 130 = .ok (.iconst 4, 1) := by decide +kernel
theorem dX7_addsTo_131 : decode cX7_addsTo 131 = .ok (.iadd, 1) := by decide +kernel
theorem dX7_addsTo_132 : decode cX7_addsTo 132 = .ok (.iaload, 1) := by decide +kernel
theorem dX7_addsTo_133 : decode cX7_addsTo 133 = .ok (.iastore, 1) := by decide +kernel
theorem dX7_addsTo_134 : decode cX7_addsTo 134 = .ok (.return_, 1) := by decide +kernel
theorem dX7_laysGroup_0 : decode cX7_laysGroup 0 = .ok (.aload_n 0, 1) := by decide +kernel
theorem dX7_laysGroup_1 : decode cX7_laysGroup 1 = .ok (.getfield 96, 3) := by decide +kernel
theorem dX7_laysGroup_4 : decode cX7_laysGroup 4 = .ok (.istore_n 2, 1) := by decide +kernel
theorem dX7_laysGroup_5 : decode cX7_laysGroup 5 = .ok (.iload_n 2, 1) := by decide +kernel
theorem dX7_laysGroup_6 : decode cX7_laysGroup 6 = .ok (.ifCond .le 63, 3) := by decide +kernel
theorem dX7_laysGroup_9 : decode cX7_laysGroup 9 = .ok (.aload_n 0, 1) := by decide +kernel
theorem dX7_laysGroup_10 : decode cX7_laysGroup 10 = .ok (.getfield 19, 3) := by decide +kernel
theorem dX7_laysGroup_13 : decode cX7_laysGroup 13 = .ok (.iconst 5, 1) := by decide +kernel
theorem dX7_laysGroup_14 : decode cX7_laysGroup 14 = .ok (.iload_n 2, 1) := by decide +kernel
theorem dX7_laysGroup_15 : decode cX7_laysGroup 15 = .ok (.imul, 1) := by decide +kernel
theorem dX7_laysGroup_16 : decode cX7_laysGroup 16 = .ok (.iconst 5, 1) := by decide +kernel
theorem dX7_laysGroup_17 : decode cX7_laysGroup 17 = .ok (.isub, 1) := by decide +kernel
theorem dX7_laysGroup_18 : decode cX7_laysGroup 18 = .ok (.iaload, 1) := by decide +kernel
theorem dX7_laysGroup_19 : decode cX7_laysGroup 19 = .ok (.aload_n 0, 1) := by decide +kernel
theorem dX7_laysGroup_20 : decode cX7_laysGroup 20 = .ok (.iload_n 1, 1) := by decide +kernel
theorem dX7_laysGroup_21 : decode cX7_laysGroup 21 = .ok (.iconst 0, 1) := by decide +kernel
theorem dX7_laysGroup_22 : decode cX7_laysGroup 22 = .ok (.invokevirtual 99, 3) := by decide +kernel
theorem dX7_laysGroup_25 : decode cX7_laysGroup 25 = .ok (.if_icmp .le 44, 3) := by decide +kernel
theorem dX7_laysGroup_28 : decode cX7_laysGroup 28 = .ok (.iconst 0, 1) := by decide +kernel
theorem dX7_laysGroup_29 : decode cX7_laysGroup 29 = .ok (.istore_n 3, 1) := by decide +kernel
theorem dX7_laysGroup_30 : decode cX7_laysGroup 30 = .ok (.iload_n 3, 1) := by decide +kernel
theorem dX7_laysGroup_31 : decode cX7_laysGroup 31 = .ok (.iconst 5, 1) := by decide +kernel
theorem dX7_laysGroup_32 : decode cX7_laysGroup 32 = .ok (.if_icmp .ge 31, 3) := by decide +kernel
theorem dX7_laysGroup_35 : decode cX7_laysGroup 35 = .ok (.aload_n 0, 1) := by decide +kernel
theorem dX7_laysGroup_36 : decode cX7_laysGroup 36 = .ok (.getfield 19, 3) := by decide +kernel
theorem dX7_laysGroup_39 : decode cX7_laysGroup 39 = .ok (.iconst 5, 1) := by decide +kernel
theorem dX7_laysGroup_40 : decode cX7_laysGroup 40 = .ok (.iload_n 2, 1) := by decide +kernel
theorem dX7_laysGroup_41 : decode cX7_laysGroup 41 = .ok (.imul, 1) := by decide +kernel
theorem dX7_laysGroup_42 : decode cX7_laysGroup 42 = .ok (.iload_n 3, 1) := by decide +kernel
theorem dX7_laysGroup_43 : decode cX7_laysGroup 43 = .ok (.iadd, 1) := by decide +kernel
theorem dX7_laysGroup_44 : decode cX7_laysGroup 44 = .ok (.aload_n 0, 1) := by decide +kernel
theorem dX7_laysGroup_45 : decode cX7_laysGroup 45 = .ok (.getfield 19, 3) := by decide +kernel
theorem dX7_laysGroup_48 : decode cX7_laysGroup 48 = .ok (.iconst 5, 1) := by decide +kernel
theorem dX7_laysGroup_49 : decode cX7_laysGroup 49 = .ok (.iload_n 2, 1) := by decide +kernel
theorem dX7_laysGroup_50 : decode cX7_laysGroup 50 = .ok (.imul, 1) := by decide +kernel
theorem dX7_laysGroup_51 : decode cX7_laysGroup 51 = .ok (.iconst 5, 1) := by decide +kernel
theorem dX7_laysGroup_52 : decode cX7_laysGroup 52 = .ok (.isub, 1) := by decide +kernel
theorem dX7_laysGroup_53 : decode cX7_laysGroup 53 = .ok (.iload_n 3, 1) := by decide +kernel
theorem dX7_laysGroup_54 : decode cX7_laysGroup 54 = .ok (.iadd, 1) := by decide +kernel
theorem dX7_laysGroup_55 : decode cX7_laysGroup 55 = .ok (.iaload, 1) := by decide +kernel
theorem dX7_laysGroup_56 : decode cX7_laysGroup 56 = .ok (.iastore, 1) := by decide +kernel
theorem dX7_laysGroup_57 : decode cX7_laysGroup 57 = .ok (.iinc 3 1, 3) := by decide +kernel
theorem dX7_laysGroup_60 : decode cX7_laysGroup 60 = .ok (.goto (-30), 3) := by decide +kernel
theorem dX7_laysGroup_63 : decode cX7_laysGroup 63 = .ok (.iinc 2 (-1), 3) := by decide +kernel
theorem dX7_laysGroup_66 : decode cX7_laysGroup 66 = .ok (.goto (-61), 3) := by decide +kernel
theorem dX7_laysGroup_69 : decode cX7_laysGroup 69 = .ok (.iconst 0, 1) := by decide +kernel
theorem dX7_laysGroup_70 : decode cX7_laysGroup 70 = .ok (.istore_n 3, 1) := by decide +kernel
theorem dX7_laysGroup_71 : decode cX7_laysGroup 71 = .ok (.iload_n 3, 1) := by decide +kernel
theorem dX7_laysGroup_72 : decode cX7_laysGroup 72 = .ok (.iconst 5, 1) := by decide +kernel
theorem dX7_laysGroup_73 : decode cX7_laysGroup 73 = .ok (.if_icmp .ge 25, 3) := by decide +kernel
theorem dX7_laysGroup_76 : decode cX7_laysGroup 76 = .ok (.aload_n 0, 1) := by decide +kernel
theorem dX7_laysGroup_77 : decode cX7_laysGroup 77 = .ok (.getfield 19, 3) := by decide +kernel
theorem dX7_laysGroup_80 : decode cX7_laysGroup 80 = .ok (.iconst 5, 1) := by decide +kernel
theorem dX7_laysGroup_81 : decode cX7_laysGroup 81 = .ok (.iload_n 2, 1) := by decide +kernel
theorem dX7_laysGroup_82 : decode cX7_laysGroup 82 = .ok (.imul, 1) := by decide +kernel
theorem dX7_laysGroup_83 : decode cX7_laysGroup 83 = .ok (.iload_n 3, 1) := by decide +kernel
theorem dX7_laysGroup_84 : decode cX7_laysGroup 84 = .ok (.iadd, 1) := by decide +kernel
theorem dX7_laysGroup_85 : decode cX7_laysGroup 85 = .ok (.aload_n 0, 1) := by decide +kernel
theorem dX7_laysGroup_86 : decode cX7_laysGroup 86 = .ok (.iload_n 1, 1) := by decide +kernel
theorem dX7_laysGroup_87 : decode cX7_laysGroup 87 = .ok (.iload_n 3, 1) := by decide +kernel
theorem dX7_laysGroup_88 : decode cX7_laysGroup 88 = .ok (.invokevirtual 99, 3) := by decide +kernel
theorem dX7_laysGroup_91 : decode cX7_laysGroup 91 = .ok (.iastore, 1) := by decide +kernel
theorem dX7_laysGroup_92 : decode cX7_laysGroup 92 = .ok (.iinc 3 1, 3) := by decide +kernel
theorem dX7_laysGroup_95 : decode cX7_laysGroup 95 = .ok (.goto (-24), 3) := by decide +kernel
theorem dX7_laysGroup_98 : decode cX7_laysGroup 98 = .ok (.aload_n 0, 1) := by decide +kernel
theorem dX7_laysGroup_99 : decode cX7_laysGroup 99 = .ok (.dup, 1) := by decide +kernel
theorem dX7_laysGroup_100 : decode cX7_laysGroup 100 = .ok (.getfield 96, 3) := by decide +kernel
theorem dX7_laysGroup_103 : decode cX7_laysGroup 103 = .ok (.iconst 1, 1) := by decide +kernel
theorem dX7_laysGroup_104 : decode cX7_laysGroup 104 = .ok (.iadd, 1) := by decide +kernel
theorem dX7_laysGroup_105 : decode cX7_laysGroup 105 = .ok (.putfield 96, 3) := by decide +kernel
theorem dX7_laysGroup_108 : decode cX7_laysGroup 108 = .ok (.return_, 1) := by decide +kernel
theorem dX7_takesOut_0 : decode cX7_takesOut 0 = .ok (.aload_n 0, 1) := by decide +kernel
theorem dX7_takesOut_1 : decode cX7_takesOut 1 = .ok (.dup, 1) := by decide +kernel
theorem dX7_takesOut_2 : decode cX7_takesOut 2 = .ok (.getfield 96, 3) := by decide +kernel
theorem dX7_takesOut_5 : decode cX7_takesOut 5 = .ok (.iconst 1, 1) := by decide +kernel
theorem dX7_takesOut_6 : decode cX7_takesOut 6 = .ok (.isub, 1) := by decide +kernel
theorem dX7_takesOut_7 : decode cX7_takesOut 7 = .ok (.putfield 96, 3) := by decide +kernel
theorem dX7_takesOut_10 : decode cX7_takesOut 10 = .ok (.iconst 5, 1) := by decide +kernel
theorem dX7_takesOut_11 : decode cX7_takesOut 11 = .ok (.iload_n 1, 1) := by decide +kernel
theorem dX7_takesOut_12 : decode cX7_takesOut 12 = .ok (.imul, 1) := by decide +kernel
theorem dX7_takesOut_13 : decode cX7_takesOut 13 = .ok (.istore_n 2, 1) := by decide +kernel
theorem dX7_takesOut_14 : decode cX7_takesOut 14 = .ok (.iload_n 2, 1) := by decide +kernel
theorem dX7_takesOut_15 : decode cX7_takesOut 15 = .ok (.iconst 5, 1) := by decide +kernel
theorem dX7_takesOut_16 : decode cX7_takesOut 16 = .ok (.aload_n 0, 1) := by decide +kernel
theorem dX7_takesOut_17 : decode cX7_takesOut 17 = .ok (.getfield 96, 3) := by decide +kernel
theorem dX7_takesOut_20 : decode cX7_takesOut 20 = .ok (.imul, 1) := by decide +kernel
theorem dX7_takesOut_21 : decode cX7_takesOut 21 = .ok (.if_icmp .ge 23, 3) := by decide +kernel
theorem dX7_takesOut_24 : decode cX7_takesOut 24 = .ok (.aload_n 0, 1) := by decide +kernel
theorem dX7_takesOut_25 : decode cX7_takesOut 25 = .ok (.getfield 19, 3) := by decide +kernel
theorem dX7_takesOut_28 : decode cX7_takesOut 28 = .ok (.iload_n 2, 1) := by decide +kernel
theorem dX7_takesOut_29 : decode cX7_takesOut 29 = .ok (.aload_n 0, 1) := by decide +kernel
theorem dX7_takesOut_30 : decode cX7_takesOut 30 = .ok (.getfield 19, 3) := by decide +kernel
theorem dX7_takesOut_33 : decode cX7_takesOut 33 = .ok (.iload_n 2, 1) := by decide +kernel
theorem dX7_takesOut_34 : decode cX7_takesOut 34 = .ok (.iconst 5, 1) := by decide +kernel
theorem dX7_takesOut_35 : decode cX7_takesOut 35 = .ok (.iadd, 1) := by decide +kernel
theorem dX7_takesOut_36 : decode cX7_takesOut 36 = .ok (.iaload, 1) := by decide +kernel
theorem dX7_takesOut_37 : decode cX7_takesOut 37 = .ok (.iastore, 1) := by decide +kernel
theorem dX7_takesOut_38 : decode cX7_takesOut 38 = .ok (.iinc 2 1, 3) := by decide +kernel
theorem dX7_takesOut_41 : decode cX7_takesOut 41 = .ok (.goto (-27), 3) := by decide +kernel
theorem dX7_takesOut_44 : decode cX7_takesOut 44 = .ok (.return_, 1) := by decide +kernel
theorem dX7_last_0 : decode cX7_last 0 = .ok (.aload_n 0, 1) := by decide +kernel
theorem dX7_last_1 : decode cX7_last 1 = .ok (.getfield 22, 3) := by decide +kernel
theorem dX7_last_4 : decode cX7_last 4 = .ok (.bipush 7, 2) := by decide +kernel
theorem dX7_last_6 : decode cX7_last 6 = .ok (.aload_n 0, 1) := by decide +kernel
theorem dX7_last_7 : decode cX7_last 7 = .ok (.getfield 103, 3) := by decide +kernel
theorem dX7_last_10 : decode cX7_last 10 = .ok (.iconst 1, 1) := by decide +kernel
theorem dX7_last_11 : decode cX7_last 11 = .ok (.isub, 1) := by decide +kernel
theorem dX7_last_12 : decode cX7_last 12 = .ok (.imul, 1) := by decide +kernel
theorem dX7_last_13 : decode cX7_last 13 = .ok (.iload_n 1, 1) := by decide +kernel
theorem dX7_last_14 : decode cX7_last 14 = .ok (.iadd, 1) := by decide +kernel
theorem dX7_last_15 : decode cX7_last 15 = .ok (.iaload, 1) := by decide +kernel
theorem dX7_last_16 : decode cX7_last 16 = .ok (.ireturn, 1) := by decide +kernel
theorem dX7_counts_0 : decode cX7_counts 0 = .ok (.aload_n 0, 1) := by decide +kernel
theorem dX7_counts_1 : decode cX7_counts 1 = .ok (.getfield 22, 3) := by decide +kernel
theorem dX7_counts_4 : decode cX7_counts 4 = .ok (.bipush 7, 2) := by decide +kernel
theorem dX7_counts_6 : decode cX7_counts 6 = .ok (.aload_n 0, 1) := by decide +kernel
theorem dX7_counts_7 : decode cX7_counts 7 = .ok (.getfield 103, 3) := by decide +kernel
theorem dX7_counts_10 : decode cX7_counts 10 = .ok (.iconst 1, 1) := by decide +kernel
theorem dX7_counts_11 : decode cX7_counts 11 = .ok (.isub, 1) := by decide +kernel
theorem dX7_counts_12 : decode cX7_counts 12 = .ok (.imul, 1) := by decide +kernel
theorem dX7_counts_13 : decode cX7_counts 13 = .ok (.iload_n 1, 1) := by decide +kernel
theorem dX7_counts_14 : decode cX7_counts 14 = .ok (.iadd, 1) := by decide +kernel
theorem dX7_counts_15 : decode cX7_counts 15 = .ok (.dup2, 1) := by decide +kernel
theorem dX7_counts_16 : decode cX7_counts 16 = .ok (.iaload, 1) := by decide +kernel
theorem dX7_counts_17 : decode cX7_counts 17 = .ok (.iconst 1, 1) := by decide +kernel
theorem dX7_counts_18 : decode cX7_counts 18 = .ok (.iadd, 1) := by decide +kernel
theorem dX7_counts_19 : decode cX7_counts 19 = .ok (.iastore, 1) := by decide +kernel
theorem dX7_counts_20 : decode cX7_counts 20 = .ok (.return_, 1) := by decide +kernel
theorem dX7_writes_0 : decode cX7_writes 0 = .ok (.aload_n 0, 1) := by decide +kernel
theorem dX7_writes_1 : decode cX7_writes 1 = .ok (.getfield 16, 3) := by decide +kernel
theorem dX7_writes_4 : decode cX7_writes 4 = .ok (.bipush 6, 2) := by decide +kernel
theorem dX7_writes_6 : decode cX7_writes 6 = .ok (.iload_n 1, 1) := by decide +kernel
theorem dX7_writes_7 : decode cX7_writes 7 = .ok (.imul, 1) := by decide +kernel
theorem dX7_writes_8 : decode cX7_writes 8 = .ok (.iconst 5, 1) := by decide +kernel
theorem dX7_writes_9 : decode cX7_writes 9 = .ok (.iadd, 1) := by decide +kernel
theorem dX7_writes_10 : decode cX7_writes 10 = .ok (.iconst (-1), 1) := by decide +kernel
theorem dX7_writes_11 : decode cX7_writes 11 = .ok (.iastore, 1) := by decide +kernel
theorem dX7_writes_12 : decode cX7_writes 12 = .ok (.aload_n 0, 1) := by decide +kernel
theorem dX7_writes_13 : decode cX7_writes 13 = .ok (.getfield 40, 3) := by decide +kernel
theorem dX7_writes_16 : decode cX7_writes 16 = .ok (.iload_n 2, 1) := by decide +kernel
theorem dX7_writes_17 : decode cX7_writes 17 = .ok (.iaload, 1) := by decide +kernel
theorem dX7_writes_18 : decode cX7_writes 18 = .ok (.ifCond .ne 13, 3) := by decide +kernel
theorem dX7_writes_21 : decode cX7_writes 21 = .ok (.aload_n 0, 1) := by decide +kernel
theorem dX7_writes_22 : decode cX7_writes 22 = .ok (.getfield 34, 3) := by decide +kernel
theorem dX7_writes_25 : decode cX7_writes 25 = .ok (.iload_n 2, 1) := by decide +kernel
theorem dX7_writes_26 : decode cX7_writes 26 = .ok (.iload_n 1, 1) := by decide +kernel
theorem dX7_writes_27 : decode cX7_writes 27 = .ok (.iastore, 1) := by decide +kernel
theorem dX7_writes_28 : decode cX7_writes 28 = .ok (.goto 20, 3) := by decide +kernel
theorem dX7_writes_31 : decode cX7_writes 31 = .ok (.aload_n 0, 1) := by decide +kernel
theorem dX7_writes_32 : decode cX7_writes 32 = .ok (.getfield 16, 3) := by decide +kernel
theorem dX7_writes_35 : decode cX7_writes 35 = .ok (.bipush 6, 2) := by decide +kernel
theorem dX7_writes_37 : decode cX7_writes 37 = .ok (.aload_n 0, 1) := by decide +kernel
theorem dX7_writes_38 : decode cX7_writes 38 = .ok (.getfield 37, 3) := by decide +kernel
theorem dX7_writes_41 : decode cX7_writes 41 = .ok (.iload_n 2, 1) := by decide +kernel
theorem dX7_writes_42 : decode cX7_writes 42 = .ok (.iaload, 1) := by decide +kernel
theorem dX7_writes_43 : decode cX7_writes 43 = .ok (.imul, 1) := by decide +kernel
theorem dX7_writes_44 : decode cX7_writes 44 = .ok (.iconst 5, 1) := by decide +kernel
theorem dX7_writes_45 : decode cX7_writes 45 = .ok (.iadd, 1) := by decide +kernel
theorem dX7_writes_46 : decode cX7_writes 46 = .ok (.iload_n 1, 1) := by decide +kernel
theorem dX7_writes_47 : decode cX7_writes 47 = .ok (.iastore, 1) := by decide +kernel
theorem dX7_writes_48 : decode cX7_writes 48 = .ok (.aload_n 0, 1) := by decide +kernel
theorem dX7_writes_49 : decode cX7_writes 49 = .ok (.getfield 37, 3) := by decide +kernel
theorem dX7_writes_52 : decode cX7_writes 52 = .ok (.iload_n 2, 1) := by decide +kernel
theorem dX7_writes_53 : decode cX7_writes 53 = .ok (.iload_n 1, 1) := by decide +kernel
theorem dX7_writes_54 : decode cX7_writes 54 = .ok (.iastore, 1) := by decide +kernel
theorem dX7_writes_55 : decode cX7_writes 55 = .ok (.aload_n 0, 1) := by decide +kernel
theorem dX7_writes_56 : decode cX7_writes 56 = .ok (.getfield 40, 3) := by decide +kernel
theorem dX7_writes_59 : decode cX7_writes 59 = .ok (.iload_n 2, 1) := by decide +kernel
theorem dX7_writes_60 : decode cX7_writes 60 = .ok (.dup2, 1) := by decide +kernel
theorem dX7_writes_61 : decode cX7_writes 61 = .ok (.iaload, 1) := by decide +kernel
theorem dX7_writes_62 : decode cX7_writes 62 = .ok (.iconst 1, 1) := by decide +kernel
theorem dX7_writes_63 : decode cX7_writes 63 = .ok (.iadd, 1) := by decide +kernel
theorem dX7_writes_64 : decode cX7_writes 64 = .ok (.iastore, 1) := by decide +kernel
theorem dX7_writes_65 : decode cX7_writes 65 = .ok (.aload_n 0, 1) := by decide +kernel
theorem dX7_writes_66 : decode cX7_writes 66 = .ok (.iconst 5, 1) := by decide +kernel
theorem dX7_writes_67 : decode cX7_writes 67 = .ok (.invokevirtual 106, 3) := by decide +kernel
theorem dX7_writes_70 : decode cX7_writes 70 = .ok (.return_, 1) := by decide +kernel
theorem dX7_manyOf_0 : decode cX7_manyOf 0 = .ok (.iconst 0, 1) := by decide +kernel
theorem dX7_manyOf_1 : decode cX7_manyOf 1 = .ok (.istore_n 2, 1) := by decide +kernel
theorem dX7_manyOf_2 : decode cX7_manyOf 2 = .ok (.iconst 0, 1) := by decide +kernel
theorem dX7_manyOf_3 : decode cX7_manyOf 3 = .ok (.istore_n 3, 1) := by decide +kernel
theorem dX7_manyOf_4 : decode cX7_manyOf 4 = .ok (.iload_n 3, 1) := by decide +kernel
theorem dX7_manyOf_5 : decode cX7_manyOf 5 = .ok (.aload_n 0, 1) := by decide +kernel
theorem dX7_manyOf_6 : decode cX7_manyOf 6 = .ok (.getfield 96, 3) := by decide +kernel
theorem dX7_manyOf_9 : decode cX7_manyOf 9 = .ok (.if_icmp .ge 42, 3) := by decide +kernel
theorem dX7_manyOf_12 : decode cX7_manyOf 12 = .ok (.iload_n 2, 1) := by decide +kernel
theorem dX7_manyOf_13 : decode cX7_manyOf 13 = .ok (.aload_n 0, 1) := by decide +kernel
theorem dX7_manyOf_14 : decode cX7_manyOf 14 = .ok (.aload_n 0, 1) := by decide +kernel
theorem dX7_manyOf_15 : decode cX7_manyOf 15 = .ok (.getfield 19, 3) := by decide +kernel
theorem dX7_manyOf_18 : decode cX7_manyOf 18 = .ok (.iconst 5, 1) := by decide +kernel
theorem dX7_manyOf_19 : decode cX7_manyOf 19 = .ok (.iload_n 3, 1) := by decide +kernel
theorem dX7_manyOf_20 : decode cX7_manyOf 20 = .ok (.imul, 1) := by decide +kernel
theorem dX7_manyOf_21 : decode cX7_manyOf 21 = .ok (.iaload, 1) := by decide +kernel
theorem dX7_manyOf_22 : decode cX7_manyOf 22 = .ok (.aload_n 0, 1) := by decide +kernel
theorem dX7_manyOf_23 : decode cX7_manyOf 23 = .ok (.iconst 0, 1) := by decide +kernel
theorem dX7_manyOf_24 : decode cX7_manyOf 24 = .ok (.invokevirtual 110, 3) := by decide +kernel
theorem dX7_manyOf_27 : decode cX7_manyOf 27 = .ok (.aload_n 0, 1) := by decide +kernel
theorem dX7_manyOf_28 : decode cX7_manyOf 28 = .ok (.getfield 112, 3) := by decide +kernel
theorem dX7_manyOf_31 : decode cX7_manyOf 31 = .ok (.invokevirtual 89, 3) := by decide +kernel
theorem dX7_manyOf_34 : decode cX7_manyOf 34 = .ok (.iload_n 1, 1) := by decide +kernel
theorem dX7_manyOf_35 : decode cX7_manyOf 35 = .ok (.if_icmp .ne 7, 3) := by decide +kernel
theorem dX7_manyOf_38 : decode cX7_manyOf 38 = .ok (.iconst 1, 1) := by decide +kernel
theorem dX7_manyOf_39 : decode cX7_manyOf 39 = .ok (.goto 4, 3) := by decide +kernel
theorem dX7_manyOf_42 : decode cX7_manyOf 42 = .ok (.iconst 0, 1) := by decide +kernel
theorem dX7_manyOf_43 : decode cX7_manyOf 43 = .ok (.iadd, 1) := by decide +kernel
theorem dX7_manyOf_44 : decode cX7_manyOf 44 = .ok (.istore_n 2, 1) := by decide +kernel
theorem dX7_manyOf_45 : decode cX7_manyOf 45 = .ok (.iinc 3 1, 3) := by decide +kernel
theorem dX7_manyOf_48 : decode cX7_manyOf 48 = .ok (.goto (-44), 3) := by decide +kernel
theorem dX7_manyOf_51 : decode cX7_manyOf 51 = .ok (.iload_n 2, 1) := by decide +kernel
theorem dX7_manyOf_52 : decode cX7_manyOf 52 = .ok (.ireturn, 1) := by decide +kernel
theorem dX7_spillsOne_0 : decode cX7_spillsOne 0 = .ok (.iconst 0, 1) := by decide +kernel
theorem dX7_spillsOne_1 : decode cX7_spillsOne 1 = .ok (.istore_n 1, 1) := by decide +kernel
theorem dX7_spillsOne_2 : decode cX7_spillsOne 2 = .ok (.iconst 1, 1) := by decide +kernel
theorem dX7_spillsOne_3 : decode cX7_spillsOne 3 = .ok (.istore_n 2, 1) := by decide +kernel
theorem dX7_spillsOne_4 : decode cX7_spillsOne 4 = .ok (.iload_n 2, 1) := by decide +kernel
theorem dX7_spillsOne_5 : decode cX7_spillsOne 5 = .ok (.iconst 1, 1) := by decide +kernel
theorem dX7_spillsOne_6 : decode cX7_spillsOne 6 = .ok (.aload_n 0, 1) := by decide +kernel
theorem dX7_spillsOne_7 : decode cX7_spillsOne 7 = .ok (.getfield 112, 3) := by decide +kernel
theorem dX7_spillsOne_10 : decode cX7_spillsOne 10 = .ok (.ishl, 1) := by decide +kernel
theorem dX7_spillsOne_11 : decode cX7_spillsOne 11 = .ok (.if_icmp .ge 28, 3) := by decide +kernel
theorem dX7_spillsOne_14 : decode cX7_spillsOne 14 = .ok (.aload_n 0, 1) := by decide +kernel
theorem dX7_spillsOne_15 : decode cX7_spillsOne 15 = .ok (.iload_n 2, 1) := by decide +kernel
theorem dX7_spillsOne_16 : decode cX7_spillsOne 16 = .ok (.invokevirtual 115, 3) := by decide +kernel
theorem dX7_spillsOne_19 : decode cX7_spillsOne 19 = .ok (.aload_n 0, 1) := by decide +kernel
theorem dX7_spillsOne_20 : decode cX7_spillsOne 20 = .ok (.iload_n 1, 1) := by decide +kernel
theorem dX7_spillsOne_21 : decode cX7_spillsOne 21 = .ok (.invokevirtual 115, 3) := by decide +kernel
theorem dX7_spillsOne_24 : decode cX7_spillsOne 24 = .ok (.if_icmp .le 7, 3) := by decide +kernel
theorem dX7_spillsOne_27 : decode cX7_spillsOne 27 = .ok (.iload_n 2, 1) := by decide +kernel
theorem dX7_spillsOne_28 : decode cX7_spillsOne 28 = .ok (.goto 4, 3) := by decide +kernel
theorem dX7_spillsOne_31 : decode cX7_spillsOne 31 = .ok (.iload_n 1, 1) := by decide +kernel
theorem dX7_spillsOne_32 : decode cX7_spillsOne 32 = .ok (.istore_n 1, 1) := by decide +kernel
theorem dX7_spillsOne_33 : decode cX7_spillsOne 33 = .ok (.iinc 2 1, 3) := by decide +kernel
theorem dX7_spillsOne_36 : decode cX7_spillsOne 36 = .ok (.goto (-32), 3) := by decide +kernel
theorem dX7_spillsOne_39 : decode cX7_spillsOne 39 = .ok (.iconst 0, 1) := by decide +kernel
theorem dX7_spillsOne_40 : decode cX7_spillsOne 40 = .ok (.istore_n 2, 1) := by decide +kernel
theorem dX7_spillsOne_41 : decode cX7_spillsOne 41 = .ok (.iconst 0, 1) := by decide +kernel
theorem dX7_spillsOne_42 : decode cX7_spillsOne 42 = .ok (.istore_n 3, 1) := by decide +kernel
theorem dX7_spillsOne_43 : decode cX7_spillsOne 43 = .ok (.iload_n 3, 1) := by decide +kernel
theorem dX7_spillsOne_44 : decode cX7_spillsOne 44 = .ok (.aload_n 0, 1) := by decide +kernel
theorem dX7_spillsOne_45 : decode cX7_spillsOne 45 = .ok (.getfield 96, 3) := by decide +kernel
theorem dX7_spillsOne_48 : decode cX7_spillsOne 48 = .ok (.if_icmp .ge 102, 3) := by decide +kernel
theorem dX7_spillsOne_51 : decode cX7_spillsOne 51 = .ok (.aload_n 0, 1) := by decide +kernel
theorem dX7_spillsOne_52 : decode cX7_spillsOne 52 = .ok (.aload_n 0, 1) := by decide +kernel
theorem dX7_spillsOne_53 : decode cX7_spillsOne 53 = .ok (.getfield 19, 3) := by decide +kernel
theorem dX7_spillsOne_56 : decode cX7_spillsOne 56 = .ok (.iconst 5, 1) := by decide +kernel
theorem dX7_spillsOne_57 : decode cX7_spillsOne 57 = .ok (.iload_n 3, 1) := by decide +kernel
theorem dX7_spillsOne_58 : decode cX7_spillsOne 58 = .ok (.imul, 1) := by decide +kernel
theorem dX7_spillsOne_59 : decode cX7_spillsOne 59 = .ok (.iaload, 1) := by decide +kernel
theorem dX7_spillsOne_60 : decode cX7_spillsOne 60 = .ok (.aload_n 0, 1) := by decide +kernel
theorem dX7_spillsOne_61 : decode cX7_spillsOne 61 = .ok (.iconst 0, 1) := by decide +kernel
theorem dX7_spillsOne_62 : decode cX7_spillsOne 62 = .ok (.invokevirtual 110, 3) := by decide +kernel
theorem dX7_spillsOne_65 : decode cX7_spillsOne 65 = .ok (.aload_n 0, 1) := by decide +kernel
theorem dX7_spillsOne_66 : decode cX7_spillsOne 66 = .ok (.getfield 112, 3) := by decide +kernel
theorem dX7_spillsOne_69 : decode cX7_spillsOne 69 = .ok (.invokevirtual 89, 3) := by decide +kernel
theorem dX7_spillsOne_72 : decode cX7_spillsOne 72 = .ok (.iload_n 1, 1) := by decide +kernel
theorem dX7_spillsOne_73 : decode cX7_spillsOne 73 = .ok (.if_icmp .ne 71, 3) := by decide +kernel
theorem dX7_spillsOne_76 : decode cX7_spillsOne 76 = .ok (.aload_n 0, 1) := by decide +kernel
theorem dX7_spillsOne_77 : decode cX7_spillsOne 77 = .ok (.aload_n 0, 1) := by decide +kernel
theorem dX7_spillsOne_78 : decode cX7_spillsOne 78 = .ok (.aload_n 0, 1) := by decide +kernel
theorem dX7_spillsOne_79 : decode cX7_spillsOne 79 = .ok (.getfield 19, 3) := by decide +kernel
theorem dX7_spillsOne_82 : decode cX7_spillsOne 82 = .ok (.iconst 5, 1) := by decide +kernel
theorem dX7_spillsOne_83 : decode cX7_spillsOne 83 = .ok (.iload_n 3, 1) := by decide +kernel
theorem dX7_spillsOne_84 : decode cX7_spillsOne 84 = .ok (.imul, 1) := by decide +kernel
theorem dX7_spillsOne_85 : decode cX7_spillsOne 85 = .ok (.iaload, 1) := by decide +kernel
theorem dX7_spillsOne_86 : decode cX7_spillsOne 86 = .ok (.aload_n 0, 1) := by decide +kernel
theorem dX7_spillsOne_87 : decode cX7_spillsOne 87 = .ok (.getfield 19, 3) := by decide +kernel
theorem dX7_spillsOne_90 : decode cX7_spillsOne 90 = .ok (.iconst 5, 1) := by decide +kernel
theorem dX7_spillsOne_91 : decode cX7_spillsOne 91 = .ok (.iload_n 3, 1) := by decide +kernel
theorem dX7_spillsOne_92 : decode cX7_spillsOne 92 = .ok (.imul, 1) := by decide +kernel
theorem dX7_spillsOne_93 : decode cX7_spillsOne 93 = .ok (.iconst 1, 1) := by decide +kernel
theorem dX7_spillsOne_94 : decode cX7_spillsOne 94 = .ok (.iadd, 1) := by decide +kernel
theorem dX7_spillsOne_95 : decode cX7_spillsOne 95 = .ok (.iaload, 1) := by decide +kernel
theorem dX7_spillsOne_96 : decode cX7_spillsOne 96 = .ok (.aload_n 0, 1) := by decide +kernel
theorem dX7_spillsOne_97 : decode cX7_spillsOne 97 = .ok (.getfield 19, 3) := by decide +kernel
theorem dX7_spillsOne_100 : decode cX7_spillsOne 100 = .ok (.iconst 5, 1) := by decide +kernel
theorem dX7_spillsOne_101 : decode cX7_spillsOne 101 = .ok (.iload_n 3, 1) := by decide +kernel
theorem dX7_spillsOne_102 : decode cX7_spillsOne 102 = .ok (.imul, 1) := by decide +kernel
theorem dX7_spillsOne_103 : decode cX7_spillsOne 103 = .ok (.iconst 2, 1) := by decide +kernel
theorem dX7_spillsOne_104 : decode cX7_spillsOne 104 = .ok (.iadd, 1) := by decide +kernel
theorem dX7_spillsOne_105 : decode cX7_spillsOne 105 = .ok (.iaload, 1) := by decide +kernel
theorem dX7_spillsOne_106 : decode cX7_spillsOne 106 = .ok (.aload_n 0, 1) := by decide +kernel
theorem dX7_spillsOne_107 : decode cX7_spillsOne 107 = .ok (.getfield 19, 3) := by decide +kernel
theorem dX7_spillsOne_110 : decode cX7_spillsOne 110 = .ok (.iconst 5, 1) := by decide +kernel
theorem dX7_spillsOne_111 : decode cX7_spillsOne 111 = .ok (.iload_n 3, 1) := by decide +kernel
theorem dX7_spillsOne_112 : decode cX7_spillsOne 112 = .ok (.imul, 1) := by decide +kernel
theorem dX7_spillsOne_113 : decode cX7_spillsOne 113 = .ok (.iconst 3, 1) := by decide +kernel
theorem dX7_spillsOne_114 : decode cX7_spillsOne 114 = .ok (.iadd, 1) := by decide +kernel
theorem dX7_spillsOne_115 : decode cX7_spillsOne 115 = .ok (.iaload, 1) := by decide +kernel
theorem dX7_spillsOne_116 : decode cX7_spillsOne 116 = .ok (.aload_n 0, 1) := by decide +kernel
theorem dX7_spillsOne_117 : decode cX7_spillsOne 117 = .ok (.getfield 19, 3) := by decide +kernel
theorem dX7_spillsOne_120 : decode cX7_spillsOne 120 = .ok (.iconst 5, 1) := by decide +kernel
theorem dX7_spillsOne_121 : decode cX7_spillsOne 121 = .ok (.iload_n 3, 1) := by decide +kernel
theorem dX7_spillsOne_122 : decode cX7_spillsOne 122 = .ok (.imul, 1) := by decide +kernel
theorem dX7_spillsOne_123 : decode cX7_spillsOne 123 = .ok (.iconst 4, 1) := by decide +kernel
theorem dX7_spillsOne_124 : decode cX7_spillsOne 124 = .ok (.iadd, 1) := by decide +kernel
theorem dX7_spillsOne_125 : decode cX7_spillsOne 125 = .ok (.iaload, 1) := by decide +kernel
theorem dX7_spillsOne_126 : decode cX7_spillsOne 126 = .ok (.invokevirtual 118, 3) := by decide +kernel
theorem dX7_spillsOne_129 : decode cX7_spillsOne 129 = .ok (.iload_n 1, 1) := by decide +kernel
theorem dX7_spillsOne_130 : decode cX7_spillsOne 130 = .ok (.invokevirtual 122, 3) := by decide +kernel
theorem dX7_spillsOne_133 : decode cX7_spillsOne 133 = .ok (.aload_n 0, 1) := by decide +kernel
theorem dX7_spillsOne_134 : decode cX7_spillsOne 134 = .ok (.iload_n 3, 1) := by decide +kernel
theorem dX7_spillsOne_135 : decode cX7_spillsOne 135 = .ok (.invokevirtual 125, 3) := by decide +kernel
theorem dX7_spillsOne_138 : decode cX7_spillsOne 138 = .ok (.iinc 3 (-1), 3) := by decide +kernel
theorem dX7_spillsOne_141 : decode cX7_spillsOne 141 = .ok (.iinc 2 1, 3) := by decide +kernel
theorem dX7_spillsOne_144 : decode cX7_spillsOne 144 = .ok (.iinc 3 1, 3) := by decide +kernel
theorem dX7_spillsOne_147 : decode cX7_spillsOne 147 = .ok (.goto (-104), 3) := by decide +kernel
theorem dX7_spillsOne_150 : decode cX7_spillsOne 150 = .ok (.aload_n 0, 1) := by decide +kernel
theorem dX7_spillsOne_151 : decode cX7_spillsOne 151 = .ok (.getfield 22, 3) := by decide +kernel
theorem dX7_spillsOne_154 : decode cX7_spillsOne 154 = .ok (.bipush 7, 2) := by decide +kernel
theorem dX7_spillsOne_156 : decode cX7_spillsOne 156 = .ok (.aload_n 0, 1) := by decide +kernel
theorem dX7_spillsOne_157 : decode cX7_spillsOne 157 = .ok (.getfield 103, 3) := by decide +kernel
theorem dX7_spillsOne_160 : decode cX7_spillsOne 160 = .ok (.iconst 1, 1) := by decide +kernel
theorem dX7_spillsOne_161 : decode cX7_spillsOne 161 = .ok (.isub, 1) := by decide +kernel
theorem dX7_spillsOne_162 : decode cX7_spillsOne 162 = .ok (.imul, 1) := by decide +kernel
theorem dX7_spillsOne_163 : decode cX7_spillsOne 163 = .ok (.iconst 4, 1) := by decide +kernel
theorem dX7_spillsOne_164 : decode cX7_spillsOne 164 = .ok (.iadd, 1) := by decide +kernel
theorem dX7_spillsOne_165 : decode cX7_spillsOne 165 = .ok (.dup2, 1) := by decide +kernel
theorem dX7_spillsOne_166 : decode cX7_spillsOne 166 = .ok (.iaload, 1) := by decide +kernel
theorem dX7_spillsOne_167 : decode cX7_spillsOne 167 = .ok (.iconst 1, 1) := by decide +kernel
theorem dX7_spillsOne_168 : decode cX7_spillsOne 168 = .ok (.iload_n 1, 1) := by decide +kernel
theorem dX7_spillsOne_169 : decode cX7_spillsOne 169 = .ok (.ishl, 1) := by decide +kernel
theorem dX7_spillsOne_170 : decode cX7_spillsOne 170 = .ok (.ior, 1) := by decide +kernel
theorem dX7_spillsOne_171 : decode cX7_spillsOne 171 = .ok (.iastore, 1) := by decide +kernel
theorem dX7_spillsOne_172 : decode cX7_spillsOne 172 = .ok (.iconst 5, 1) := by decide +kernel
theorem dX7_spillsOne_173 : decode cX7_spillsOne 173 = .ok (.aload_n 0, 1) := by decide +kernel
theorem dX7_spillsOne_174 : decode cX7_spillsOne 174 = .ok (.getfield 128, 3) := by decide +kernel
theorem dX7_spillsOne_177 : decode cX7_spillsOne 177 = .ok (.imul, 1) := by decide +kernel
theorem dX7_spillsOne_178 : decode cX7_spillsOne 178 = .ok (.istore_n 3, 1) := by decide +kernel
theorem dX7_spillsOne_179 : decode cX7_spillsOne 179 = .ok (.aload_n 0, 1) := by decide +kernel
theorem dX7_spillsOne_180 : decode cX7_spillsOne 180 = .ok (.getfield 25, 3) := by decide +kernel
theorem dX7_spillsOne_183 : decode cX7_spillsOne 183 = .ok (.iload_n 3, 1) := by decide +kernel
theorem dX7_spillsOne_184 : decode cX7_spillsOne 184 = .ok (.aload_n 0, 1) := by decide +kernel
theorem dX7_spillsOne_185 : decode cX7_spillsOne 185 = .ok (.iconst 0, 1) := by decide +kernel
theorem dX7_spillsOne_186 : decode cX7_spillsOne 186 = .ok (.invokevirtual 110, 3) := by decide +kernel
theorem dX7_spillsOne_189 : decode cX7_spillsOne 189 = .ok (.iastore, 1) := by decide +kernel
theorem dX7_spillsOne_190 : decode cX7_spillsOne 190 = .ok (.aload_n 0, 1) := by decide +kernel
theorem dX7_spillsOne_191 : decode cX7_spillsOne 191 = .ok (.getfield 25, 3) := by decide +kernel
theorem dX7_spillsOne_194 : decode cX7_spillsOne 194 = .ok (.iload_n 3, 1) := by decide +kernel
theorem dX7_spillsOne_195 : decode cX7_spillsOne 195 = .ok (.iconst 1, 1) := by decide +kernel
theorem dX7_spillsOne_196 : decode cX7_spillsOne 196 = .ok (.iadd, 1) := by decide +kernel
theorem dX7_spillsOne_197 : decode cX7_spillsOne 197 = .ok (.aload_n 0, 1) := by decide +kernel
theorem dX7_spillsOne_198 : decode cX7_spillsOne 198 = .ok (.iconst 1, 1) := by decide +kernel
theorem dX7_spillsOne_199 : decode cX7_spillsOne 199 = .ok (.invokevirtual 110, 3) := by decide +kernel
theorem dX7_spillsOne_202 : decode cX7_spillsOne 202 = .ok (.iastore, 1) := by decide +kernel
theorem dX7_spillsOne_203 : decode cX7_spillsOne 203 = .ok (.aload_n 0, 1) := by decide +kernel
theorem dX7_spillsOne_204 : decode cX7_spillsOne 204 = .ok (.getfield 25, 3) := by decide +kernel
theorem dX7_spillsOne_207 : decode cX7_spillsOne 207 = .ok (.iload_n 3, 1) := by decide +kernel
theorem dX7_spillsOne_208 : decode cX7_spillsOne 208 = .ok (.iconst 2, 1) := by decide +kernel
theorem dX7_spillsOne_209 : decode cX7_spillsOne 209 = .ok (.iadd, 1) := by decide +kernel
theorem dX7_spillsOne_210 : decode cX7_spillsOne 210 = .ok (.iload_n 1, 1) := by decide +kernel
theorem dX7_spillsOne_211 : decode cX7_spillsOne 211 = .ok (.iastore, 1) := by decide +kernel
theorem dX7_spillsOne_212 : decode cX7_spillsOne 212 = .ok (.aload_n 0, 1) := by decide +kernel
theorem dX7_spillsOne_213 : decode cX7_spillsOne 213 = .ok (.getfield 25, 3) := by decide +kernel
theorem dX7_spillsOne_216 : decode cX7_spillsOne 216 = .ok (.iload_n 3, 1) := by decide +kernel
theorem dX7_spillsOne_217 : decode cX7_spillsOne 217 = .ok (.iconst 3, 1) := by decide +kernel
theorem dX7_spillsOne_218 : decode cX7_spillsOne 218 = .ok (.iadd, 1) := by decide +kernel
theorem dX7_spillsOne_219 : decode cX7_spillsOne 219 = .ok (.iload_n 2, 1) := by decide +kernel
theorem dX7_spillsOne_220 : decode cX7_spillsOne 220 = .ok (.iastore, 1) := by decide +kernel
theorem dX7_spillsOne_221 : decode cX7_spillsOne 221 = .ok (.aload_n 0, 1) := by decide +kernel
theorem dX7_spillsOne_222 : decode cX7_spillsOne 222 = .ok (.dup, 1) := by decide +kernel
theorem dX7_spillsOne_223 : decode cX7_spillsOne 223 = .ok (.getfield 128, 3) := by decide +kernel
theorem dX7_spillsOne_226 : decode cX7_spillsOne 226 = .ok (.iconst 1, 1) := by decide +kernel
theorem dX7_spillsOne_227 : decode cX7_spillsOne 227 = .ok (.iadd, 1) := by decide +kernel
theorem dX7_spillsOne_228 : decode cX7_spillsOne 228 = .ok (.putfield 128, 3) := by decide +kernel
theorem dX7_spillsOne_231 : decode cX7_spillsOne 231 = .ok (.return_, 1) := by decide +kernel
theorem dX7_takes_0 : decode cX7_takes 0 = .ok (.aload_n 0, 1) := by decide +kernel
theorem dX7_takes_1 : decode cX7_takes 1 = .ok (.aload_n 0, 1) := by decide +kernel
theorem dX7_takes_2 : decode cX7_takes 2 = .ok (.iload_n 1, 1) := by decide +kernel
theorem dX7_takes_3 : decode cX7_takes 3 = .ok (.iconst 0, 1) := by decide +kernel
theorem dX7_takes_4 : decode cX7_takes 4 = .ok (.invokevirtual 99, 3) := by decide +kernel
theorem dX7_takes_7 : decode cX7_takes 7 = .ok (.aload_n 0, 1) := by decide +kernel
theorem dX7_takes_8 : decode cX7_takes 8 = .ok (.iconst 0, 1) := by decide +kernel
theorem dX7_takes_9 : decode cX7_takes 9 = .ok (.invokevirtual 110, 3) := by decide +kernel
theorem dX7_takes_12 : decode cX7_takes 12 = .ok (.aload_n 0, 1) := by decide +kernel
theorem dX7_takes_13 : decode cX7_takes 13 = .ok (.getfield 112, 3) := by decide +kernel
theorem dX7_takes_16 : decode cX7_takes 16 = .ok (.invokevirtual 89, 3) := by decide +kernel
theorem dX7_takes_19 : decode cX7_takes 19 = .ok (.istore_n 2, 1) := by decide +kernel
theorem dX7_takes_20 : decode cX7_takes 20 = .ok (.aload_n 0, 1) := by decide +kernel
theorem dX7_takes_21 : decode cX7_takes 21 = .ok (.iconst 4, 1) := by decide +kernel
theorem dX7_takes_22 : decode cX7_takes 22 = .ok (.invokevirtual 110, 3) := by decide +kernel
theorem dX7_takes_25 : decode cX7_takes 25 = .ok (.iload_n 2, 1) := by decide +kernel
theorem dX7_takes_26 : decode cX7_takes 26 = .ok (.ishr, 1) := by decide +kernel
theorem dX7_takes_27 : decode cX7_takes 27 = .ok (.iconst 1, 1) := by decide +kernel
theorem dX7_takes_28 : decode cX7_takes 28 = .ok (.iand, 1) := by decide +kernel
theorem dX7_takes_29 : decode cX7_takes 29 = .ok (.iconst 1, 1) := by decide +kernel
theorem dX7_takes_30 : decode cX7_takes 30 = .ok (.if_icmp .ne 11, 3) := by decide +kernel
theorem dX7_takes_33 : decode cX7_takes 33 = .ok (.aload_n 0, 1) := by decide +kernel
theorem dX7_takes_34 : decode cX7_takes 34 = .ok (.iload_n 1, 1) := by decide +kernel
theorem dX7_takes_35 : decode cX7_takes 35 = .ok (.iload_n 2, 1) := by decide +kernel
theorem dX7_takes_36 : decode cX7_takes 36 = .ok (.invokevirtual 122, 3) := by decide +kernel
theorem dX7_takes_39 : decode cX7_takes 39 = .ok (.iconst 1, 1) := by decide +kernel
theorem dX7_takes_40 : decode cX7_takes 40 = .ok (.ireturn, 1) := by decide +kernel
theorem dX7_takes_41 : decode cX7_takes 41 = .ok (.aload_n 0, 1) := by decide +kernel
theorem dX7_takes_42 : decode cX7_takes 42 = .ok (.aload_n 0, 1) := by decide +kernel
theorem dX7_takes_43 : decode cX7_takes 43 = .ok (.iload_n 1, 1) := by decide +kernel
theorem dX7_takes_44 : decode cX7_takes 44 = .ok (.iconst 0, 1) := by decide +kernel
theorem dX7_takes_45 : decode cX7_takes 45 = .ok (.invokevirtual 99, 3) := by decide +kernel
theorem dX7_takes_48 : decode cX7_takes 48 = .ok (.invokevirtual 131, 3) := by decide +kernel
theorem dX7_takes_51 : decode cX7_takes 51 = .ok (.istore_n 3, 1) := by decide +kernel
theorem dX7_takes_52 : decode cX7_takes 52 = .ok (.iload_n 3, 1) := by decide +kernel
theorem dX7_takes_53 : decode cX7_takes 53 = .ok (.iconst (-1), 1) := by decide +kernel
theorem dX7_takes_54 : decode cX7_takes 54 = .ok (.if_icmp .eq 11, 3) := by decide +kernel
theorem dX7_takes_57 : decode cX7_takes 57 = .ok (.aload_n 0, 1) := by decide +kernel
theorem dX7_takes_58 : decode cX7_takes 58 = .ok (.iload_n 3, 1) := by decide +kernel
theorem dX7_takes_59 : decode cX7_takes 59 = .ok (.iload_n 1, 1) := by decide +kernel
theorem dX7_takes_60 : decode cX7_takes 60 = .ok (.invokevirtual 134, 3) := by decide +kernel
theorem dX7_takes_63 : decode cX7_takes 63 = .ok (.iconst 1, 1) := by decide +kernel
theorem dX7_takes_64 : decode cX7_takes 64 = .ok (.ireturn, 1) := by decide +kernel
theorem dX7_takes_65 : decode cX7_takes 65 = .ok (.aload_n 0, 1) := by decide +kernel
theorem dX7_takes_66 : decode cX7_takes 66 = .ok (.getfield 96, 3) := by decide +kernel
theorem dX7_takes_69 : decode cX7_takes 69 = .ok (.aload_n 0, 1) := by decide +kernel
theorem dX7_takes_70 : decode cX7_takes 70 = .ok (.getfield 137, 3) := by decide +kernel
theorem dX7_takes_73 : decode cX7_takes 73 = .ok (.if_icmp .lt 7, 3) := by decide +kernel
theorem dX7_takes_76 : decode cX7_takes 76 = .ok (.iconst 1, 1) := by decide +kernel
theorem dX7_takes_77 : decode cX7_takes 77 = .ok (.goto 4, 3) := by decide +kernel
theorem dX7_takes_80 : decode cX7_takes 80 = .ok (.iconst 0, 1) := by decide +kernel
theorem dX7_takes_81 : decode cX7_takes 81 = .ok (.istore 4, 2) := by decide +kernel
theorem dX7_takes_83 : decode cX7_takes 83 = .ok (.iload 4, 2) := by decide +kernel
theorem dX7_takes_85 : decode cX7_takes 85 = .ok (.ifCond .eq 26, 3) := by decide +kernel
theorem dX7_takes_88 : decode cX7_takes 88 = .ok (.aload_n 0, 1) := by decide +kernel
theorem dX7_takes_89 : decode cX7_takes 89 = .ok (.iconst 0, 1) := by decide +kernel
theorem dX7_takes_90 : decode cX7_takes 90 = .ok (.invokevirtual 110, 3) := by decide +kernel
theorem dX7_takes_93 : decode cX7_takes 93 = .ok (.bipush 16, 2) := by decide +kernel
theorem dX7_takes_95 : decode cX7_takes 95 = .ok (.aload_n 0, 1) := by decide +kernel
theorem dX7_takes_96 : decode cX7_takes 96 = .ok (.getfield 112, 3) := by decide +kernel
theorem dX7_takes_99 : decode cX7_takes 99 = .ok (.idiv, 1) := by decide +kernel
theorem dX7_takes_100 : decode cX7_takes 100 = .ok (.iconst 1, 1) := by decide +kernel
theorem dX7_takes_101 : decode cX7_takes 101 = .ok (.isub, 1) := by decide +kernel
theorem dX7_takes_102 : decode cX7_takes 102 = .ok (.if_icmp .ge 9, 3) := by decide +kernel
theorem dX7_takes_105 : decode cX7_takes 105 = .ok (.aload_n 0, 1) := by decide +kernel
theorem dX7_takes_106 : decode cX7_takes 106 = .ok (.invokevirtual 140, 3) := by decide +kernel
theorem dX7_takes_109 : decode cX7_takes 109 = .ok (.iconst 0, 1) := by decide +kernel
theorem dX7_takes_110 : decode cX7_takes 110 = .ok (.ireturn, 1) := by decide +kernel
theorem dX7_takes_111 : decode cX7_takes 111 = .ok (.aload_n 0, 1) := by decide +kernel
theorem dX7_takes_112 : decode cX7_takes 112 = .ok (.dup, 1) := by decide +kernel
theorem dX7_takes_113 : decode cX7_takes 113 = .ok (.getfield 143, 3) := by decide +kernel
theorem dX7_takes_116 : decode cX7_takes 116 = .ok (.iload 4, 2) := by decide +kernel
theorem dX7_takes_118 : decode cX7_takes 118 = .ok (.ifCond .eq 7, 3) := by decide +kernel
theorem dX7_takes_121 : decode cX7_takes 121 = .ok (.iconst 1, 1) := by decide +kernel
theorem dX7_takes_122 : decode cX7_takes 122 = .ok (.goto 4, 3) := by decide +kernel
theorem dX7_takes_125 : decode cX7_takes 125 = .ok (.iconst 0, 1) := by decide +kernel
theorem dX7_takes_126 : decode cX7_takes 126 = .ok (.iadd, 1) := by decide +kernel
theorem dX7_takes_127 : decode cX7_takes 127 = .ok (.putfield 143, 3) := by decide +kernel
theorem dX7_takes_130 : decode cX7_takes 130 = .ok (.aload_n 0, 1) := by decide +kernel
theorem dX7_takes_131 : decode cX7_takes 131 = .ok (.iload_n 1, 1) := by decide +kernel
theorem dX7_takes_132 : decode cX7_takes 132 = .ok (.invokevirtual 146, 3) := by decide +kernel
theorem dX7_takes_135 : decode cX7_takes 135 = .ok (.bipush 7, 2) := by decide +kernel
theorem dX7_takes_137 : decode cX7_takes 137 = .ok (.aload_n 0, 1) := by decide +kernel
theorem dX7_takes_138 : decode cX7_takes 138 = .ok (.getfield 103, 3) := by decide +kernel
theorem dX7_takes_141 : decode cX7_takes 141 = .ok (.iconst 1, 1) := by decide +kernel
theorem dX7_takes_142 : decode cX7_takes 142 = .ok (.isub, 1) := by decide +kernel
theorem dX7_takes_143 : decode cX7_takes 143 = .ok (.imul, 1) := by decide +kernel
theorem dX7_takes_144 : decode cX7_takes 144 = .ok (.bipush 6, 2) := by decide +kernel
theorem dX7_takes_146 : decode cX7_takes 146 = .ok (.iadd, 1) := by decide +kernel
theorem dX7_takes_147 : decode cX7_takes 147 = .ok (.istore 5, 2) := by decide +kernel
theorem dX7_takes_149 : decode cX7_takes 149 = .ok (.aload_n 0, 1) := by decide +kernel
theorem dX7_takes_150 : decode cX7_takes 150 = .ok (.getfield 22, 3) := by decide +kernel
theorem dX7_takes_153 : decode cX7_takes 153 = .ok (.iload 5, 2) := by decide +kernel
theorem dX7_takes_155 : decode cX7_takes 155 = .ok (.aload_n 0, 1) := by decide +kernel
theorem dX7_takes_156 : decode cX7_takes 156 = .ok (.getfield 96, 3) := by decide +kernel
theorem dX7_takes_159 : decode cX7_takes 159 = .ok (.aload_n 0, 1) := by decide +kernel
theorem dX7_takes_160 : decode cX7_takes 160 = .ok (.getfield 22, 3) := by decide +kernel
theorem dX7_takes_163 : decode cX7_takes 163 = .ok (.iload 5, 2) := by decide +kernel
theorem dX7_takes_165 : decode cX7_takes 165 = .ok (.iaload, 1) := by decide +kernel
theorem dX7_takes_166 : decode cX7_takes 166 = .ok (.if_icmp .le 10, 3) := by decide +kernel
theorem dX7_takes_169 : decode cX7_takes 169 = .ok (.aload_n 0, 1) := by decide +kernel
theorem dX7_takes_170 : decode cX7_takes 170 = .ok (.getfield 96, 3) := by decide +kernel
theorem dX7_takes_173 : decode cX7_takes 173 = .ok (.goto 10, 3) := by decide +kernel
theorem dX7_takes_176 : decode cX7_takes 176 = .ok (.aload_n 0, 1) := by decide +kernel
theorem dX7_takes_177 : decode cX7_takes 177 = .ok (.getfield 22, 3) := by decide +kernel
theorem dX7_takes_180 : decode cX7_takes 180 = .ok (.iload 5, 2) := by decide +kernel
theorem dX7_takes_182 : decode cX7_takes 182 = .ok (.iaload, 1) := by decide +kernel
theorem dX7_takes_183 : decode cX7_takes 183 = .ok (.iastore, 1) := by decide +kernel
theorem dX7_takes_184 : decode cX7_takes 184 = .ok (.iconst 1, 1) := by decide +kernel
theorem dX7_takes_185 : decode cX7_takes 185 = .ok (.ireturn, 1) := by decide +kernel
theorem dX7_finishes_0 : decode cX7_finishes 0 = .ok (.iconst 0, 1) := by decide +kernel
theorem dX7_finishes_1 : decode cX7_finishes 1 = .ok (.istore_n 1, 1) := by decide +kernel
theorem dX7_finishes_2 : decode cX7_finishes 2 = .ok (.iload_n 1, 1) := by decide +kernel
theorem dX7_finishes_3 : decode cX7_finishes 3 = .ok (.aload_n 0, 1) := by decide +kernel
theorem dX7_finishes_4 : decode cX7_finishes 4 = .ok (.getfield 96, 3) := by decide +kernel
theorem dX7_finishes_7 : decode cX7_finishes 7 = .ok (.if_icmp .ge 100, 3) := by decide +kernel
theorem dX7_finishes_10 : decode cX7_finishes 10 = .ok (.iconst 0, 1) := by decide +kernel
theorem dX7_finishes_11 : decode cX7_finishes 11 = .ok (.istore_n 2, 1) := by decide +kernel
theorem dX7_finishes_12 : decode cX7_finishes 12 = .ok (.iload_n 2, 1) := by decide +kernel
theorem dX7_finishes_13 : decode cX7_finishes 13 = .ok (.iconst 5, 1) := by decide +kernel
theorem dX7_finishes_14 : decode cX7_finishes 14 = .ok (.if_icmp .ge 33, 3) := by decide +kernel
theorem dX7_finishes_17 : decode cX7_finishes 17 = .ok (.aload_n 0, 1) := by decide +kernel
theorem dX7_finishes_18 : decode cX7_finishes 18 = .ok (.getfield 28, 3) := by decide +kernel
theorem dX7_finishes_21 : decode cX7_finishes 21 = .ok (.bipush 7, 2) := by decide +kernel
theorem dX7_finishes_23 : decode cX7_finishes 23 = .ok (.aload_n 0, 1) := by decide +kernel
theorem dX7_finishes_24 : decode cX7_finishes 24 = .ok (.getfield 149, 3) := by decide +kernel
theorem dX7_finishes_27 : decode cX7_finishes 27 = .ok (.imul, 1) := by decide +kernel
theorem dX7_finishes_28 : decode cX7_finishes 28 = .ok (.iload_n 2, 1) := by decide +kernel
theorem dX7_finishes_29 : decode cX7_finishes 29 = .ok (.iadd, 1) := by decide +kernel
theorem dX7_finishes_30 : decode cX7_finishes 30 = .ok (.aload_n 0, 1) := by decide +kernel
theorem dX7_finishes_31 : decode cX7_finishes 31 = .ok (.getfield 19, 3) := by decide +kernel
theorem dX7_finishes_34 : decode cX7_finishes 34 = .ok (.iconst 5, 1) := by decide +kernel
theorem dX7_finishes_35 : decode cX7_finishes 35 = .ok (.iload_n 1, 1) := by decide +kernel
theorem dX7_finishes_36 : decode cX7_finishes 36 = .ok (.imul, 1) := by decide +kernel
theorem dX7_finishes_37 : decode cX7_finishes 37 = .ok (.iload_n 2, 1) := by decide +kernel
theorem dX7_finishes_38 : decode cX7_finishes 38 = .ok (.iadd, 1) := by decide +kernel
theorem dX7_finishes_39 : decode cX7_finishes 39 = .ok (.iaload, 1) := by decide +kernel
theorem dX7_finishes_40 : decode cX7_finishes 40 = .ok (.iastore, 1) := by decide +kernel
theorem dX7_finishes_41 : decode cX7_finishes 41 = .ok (.iinc 2 1, 3) := by decide +kernel
theorem dX7_finishes_44 : decode cX7_finishes 44 = .ok (.goto (-32), 3) := by decide +kernel
theorem dX7_finishes_47 : decode cX7_finishes 47 = .ok (.aload_n 0, 1) := by decide +kernel
theorem dX7_finishes_48 : decode cX7_finishes 48 = .ok (.getfield 28, 3) := by decide +kernel
theorem dX7_finishes_51 : decode cX7_finishes 51 = .ok (.bipush 7, 2) := by decide +kernel
theorem dX7_finishes_53 : decode cX7_finishes 53 = .ok (.aload_n 0, 1) := by decide +kernel
theorem dX7_finishes_54 : decode cX7_finishes 54 = .ok (.getfield 149, 3) := by decide +kernel
theorem dX7_finishes_57 : decode cX7_finishes 57 = .ok (.imul, 1) := by decide +kernel
theorem dX7_finishes_58 : decode cX7_finishes 58 = .ok (.iconst 5, 1) := by decide +kernel
theorem dX7_finishes_59 : decode cX7_finishes 59 = .ok (.iadd, 1) := by decide +kernel
theorem dX7_finishes_60 : decode cX7_finishes 60 = .ok (.aload_n 0, 1) := by decide +kernel
theorem dX7_finishes_61 : decode cX7_finishes 61 = .ok (.iconst 0, 1) := by decide +kernel
theorem dX7_finishes_62 : decode cX7_finishes 62 = .ok (.invokevirtual 110, 3) := by decide +kernel
theorem dX7_finishes_65 : decode cX7_finishes 65 = .ok (.iastore, 1) := by decide +kernel
theorem dX7_finishes_66 : decode cX7_finishes 66 = .ok (.aload_n 0, 1) := by decide +kernel
theorem dX7_finishes_67 : decode cX7_finishes 67 = .ok (.getfield 28, 3) := by decide +kernel
theorem dX7_finishes_70 : decode cX7_finishes 70 = .ok (.bipush 7, 2) := by decide +kernel
theorem dX7_finishes_72 : decode cX7_finishes 72 = .ok (.aload_n 0, 1) := by decide +kernel
theorem dX7_finishes_73 : decode cX7_finishes 73 = .ok (.getfield 149, 3) := by decide +kernel
theorem dX7_finishes_76 : decode cX7_finishes 76 = .ok (.imul, 1) := by decide +kernel
theorem dX7_finishes_77 : decode cX7_finishes 77 = .ok (.bipush 6, 2) := by decide +kernel
theorem dX7_finishes_79 : decode cX7_finishes 79 = .ok (.iadd, 1) := by decide +kernel
theorem dX7_finishes_80 : decode cX7_finishes 80 = .ok (.aload_n 0, 1) := by decide +kernel
theorem dX7_finishes_81 : decode cX7_finishes 81 = .ok (.iconst 1, 1) := by decide +kernel
theorem dX7_finishes_82 : decode cX7_finishes 82 = .ok (.invokevirtual 110, 3) := by decide +kernel
theorem dX7_finishes_85 : decode cX7_finishes 85 = .ok (.iastore, 1) := by decide +kernel
theorem dX7_finishes_86 : decode cX7_finishes 86 = .ok (.aload_n 0, 1) := by decide +kernel
theorem dX7_finishes_87 : decode cX7_finishes 87 = .ok (.dup, 1) := by decide +kernel
theorem dX7_finishes_88 : decode cX7_finishes 88 = .ok (.getfield 149, 3) := by decide +kernel
theorem dX7_finishes_91 : decode cX7_finishes 91 = .ok (.iconst 1, 1) := by decide +kernel
theorem dX7_finishes_92 : decode cX7_finishes 92 = .ok (.iadd, 1) := by decide +kernel
theorem dX7_finishes_93 : decode cX7_finishes 93 = .ok (.putfield 149, 3) := by decide +kernel
theorem dX7_finishes_96 : decode cX7_finishes 96 = .ok (.aload_n 0, 1) := by decide +kernel
theorem dX7_finishes_97 : decode cX7_finishes 97 = .ok (.iconst 3, 1) := by decide +kernel
theorem dX7_finishes_98 : decode cX7_finishes 98 = .ok (.invokevirtual 106, 3) := by decide +kernel
theorem dX7_finishes_101 : decode cX7_finishes 101 = .ok (.iinc 1 1, 3) := by decide +kernel
theorem dX7_finishes_104 : decode cX7_finishes 104 = .ok (.goto (-102), 3) := by decide +kernel
theorem dX7_finishes_107 : decode cX7_finishes 107 = .ok (.aload_n 0, 1) := by decide +kernel
theorem dX7_finishes_108 : decode cX7_finishes 108 = .ok (.iconst 0, 1) := by decide +kernel
theorem dX7_finishes_109 : decode cX7_finishes 109 = .ok (.putfield 96, 3) := by decide +kernel
theorem dX7_finishes_112 : decode cX7_finishes 112 = .ok (.return_, 1) := by decide +kernel
theorem dX7_leavesFiles_0 : decode cX7_leavesFiles 0 = .ok (.iload_n 1, 1) := by decide +kernel
theorem dX7_leavesFiles_1 : decode cX7_leavesFiles 1 = .ok (.istore_n 2, 1) := by decide +kernel
theorem dX7_leavesFiles_2 : decode cX7_leavesFiles 2 = .ok (.iload_n 2, 1) := by decide +kernel
theorem dX7_leavesFiles_3 : decode cX7_leavesFiles 3 = .ok (.aload_n 0, 1) := by decide +kernel
theorem dX7_leavesFiles_4 : decode cX7_leavesFiles 4 = .ok (.getfield 128, 3) := by decide +kernel
theorem dX7_leavesFiles_7 : decode cX7_leavesFiles 7 = .ok (.if_icmp .ge 34, 3) := by decide +kernel
theorem dX7_leavesFiles_10 : decode cX7_leavesFiles 10 = .ok (.aload_n 0, 1) := by decide +kernel
theorem dX7_leavesFiles_11 : decode cX7_leavesFiles 11 = .ok (.getfield 25, 3) := by decide +kernel
theorem dX7_leavesFiles_14 : decode cX7_leavesFiles 14 = .ok (.iconst 5, 1) := by decide +kernel
theorem dX7_leavesFiles_15 : decode cX7_leavesFiles 15 = .ok (.iload_n 2, 1) := by decide +kernel
theorem dX7_leavesFiles_16 : decode cX7_leavesFiles 16 = .ok (.imul, 1) := by decide +kernel
theorem dX7_leavesFiles_17 : decode cX7_leavesFiles 17 = .ok (.iconst 4, 1) := by decide +kernel
theorem dX7_leavesFiles_18 : decode cX7_leavesFiles 18 = .ok (.iadd, 1) := by decide +kernel
theorem dX7_leavesFiles_19 : decode cX7_leavesFiles 19 = .ok (.aload_n 0, 1) := by decide +kernel
theorem dX7_leavesFiles_20 : decode cX7_leavesFiles 20 = .ok (.getfield 40, 3) := by decide +kernel
theorem dX7_leavesFiles_23 : decode cX7_leavesFiles 23 = .ok (.aload_n 0, 1) := by decide +kernel
theorem dX7_leavesFiles_24 : decode cX7_leavesFiles 24 = .ok (.getfield 25, 3) := by decide +kernel
theorem dX7_leavesFiles_27 : decode cX7_leavesFiles 27 = .ok (.iconst 5, 1) := by decide +kernel
theorem dX7_leavesFiles_28 : decode cX7_leavesFiles 28 = .ok (.iload_n 2, 1) := by decide +kernel
theorem dX7_leavesFiles_29 : decode cX7_leavesFiles 29 = .ok (.imul, 1) := by decide +kernel
theorem dX7_leavesFiles_30 : decode cX7_leavesFiles 30 = .ok (.iconst 2, 1) := by decide +kernel
theorem dX7_leavesFiles_31 : decode cX7_leavesFiles 31 = .ok (.iadd, 1) := by decide +kernel
theorem dX7_leavesFiles_32 : decode cX7_leavesFiles 32 = .ok (.iaload, 1) := by decide +kernel
theorem dX7_leavesFiles_33 : decode cX7_leavesFiles 33 = .ok (.iaload, 1) := by decide +kernel
theorem dX7_leavesFiles_34 : decode cX7_leavesFiles 34 = .ok (.iastore, 1) := by decide +kernel
theorem dX7_leavesFiles_35 : decode cX7_leavesFiles 35 = .ok (.iinc 2 1, 3) := by decide +kernel
theorem dX7_leavesFiles_38 : decode cX7_leavesFiles 38 = .ok (.goto (-36), 3) := by decide +kernel
theorem dX7_leavesFiles_41 : decode cX7_leavesFiles 41 = .ok (.iconst 1, 1) := by decide +kernel
theorem dX7_leavesFiles_42 : decode cX7_leavesFiles 42 = .ok (.aload_n 0, 1) := by decide +kernel
theorem dX7_leavesFiles_43 : decode cX7_leavesFiles 43 = .ok (.getfield 112, 3) := by decide +kernel
theorem dX7_leavesFiles_46 : decode cX7_leavesFiles 46 = .ok (.ishl, 1) := by decide +kernel
theorem dX7_leavesFiles_47 : decode cX7_leavesFiles 47 = .ok (.iconst 1, 1) := by decide +kernel
theorem dX7_leavesFiles_48 : decode cX7_leavesFiles 48 = .ok (.isub, 1) := by decide +kernel
theorem dX7_leavesFiles_49 : decode cX7_leavesFiles 49 = .ok (.istore_n 2, 1) := by decide +kernel
theorem dX7_leavesFiles_50 : decode cX7_leavesFiles 50 = .ok (.iload_n 2, 1) := by decide +kernel
theorem dX7_leavesFiles_51 : decode cX7_leavesFiles 51 = .ok (.ifCond .lt 94, 3) := by decide +kernel
theorem dX7_leavesFiles_54 : decode cX7_leavesFiles 54 = .ok (.aload_n 0, 1) := by decide +kernel
theorem dX7_leavesFiles_55 : decode cX7_leavesFiles 55 = .ok (.iconst 4, 1) := by decide +kernel
theorem dX7_leavesFiles_56 : decode cX7_leavesFiles 56 = .ok (.invokevirtual 110, 3) := by decide +kernel
theorem dX7_leavesFiles_59 : decode cX7_leavesFiles 59 = .ok (.iload_n 2, 1) := by decide +kernel
theorem dX7_leavesFiles_60 : decode cX7_leavesFiles 60 = .ok (.ishr, 1) := by decide +kernel
theorem dX7_leavesFiles_61 : decode cX7_leavesFiles 61 = .ok (.iconst 1, 1) := by decide +kernel
theorem dX7_leavesFiles_62 : decode cX7_leavesFiles 62 = .ok (.iand, 1) := by decide +kernel
theorem dX7_leavesFiles_63 : decode cX7_leavesFiles 63 = .ok (.iconst 1, 1) := by decide +kernel
theorem dX7_leavesFiles_64 : decode cX7_leavesFiles 64 = .ok (.if_icmp .ne 75, 3) := by decide +kernel
theorem dX7_leavesFiles_67 : decode cX7_leavesFiles 67 = .ok (.aload_n 0, 1) := by decide +kernel
theorem dX7_leavesFiles_68 : decode cX7_leavesFiles 68 = .ok (.getfield 31, 3) := by decide +kernel
theorem dX7_leavesFiles_71 : decode cX7_leavesFiles 71 = .ok (.iconst 3, 1) := by decide +kernel
theorem dX7_leavesFiles_72 : decode cX7_leavesFiles 72 = .ok (.aload_n 0, 1) := by decide +kernel
theorem dX7_leavesFiles_73 : decode cX7_leavesFiles 73 = .ok (.getfield 152, 3) := by decide +kernel
theorem dX7_leavesFiles_76 : decode cX7_leavesFiles 76 = .ok (.imul, 1) := by decide +kernel
theorem dX7_leavesFiles_77 : decode cX7_leavesFiles 77 = .ok (.aload_n 0, 1) := by decide +kernel
theorem dX7_leavesFiles_78 : decode cX7_leavesFiles 78 = .ok (.iconst 0, 1) := by decide +kernel
theorem dX7_leavesFiles_79 : decode cX7_leavesFiles 79 = .ok (.invokevirtual 110, 3) := by decide +kernel
theorem dX7_leavesFiles_82 : decode cX7_leavesFiles 82 = .ok (.iconst 1, 1) := by decide +kernel
theorem dX7_leavesFiles_83 : decode cX7_leavesFiles 83 = .ok (.iadd, 1) := by decide +kernel
theorem dX7_leavesFiles_84 : decode cX7_leavesFiles 84 = .ok (.iastore, 1) := by decide +kernel
theorem dX7_leavesFiles_85 : decode cX7_leavesFiles 85 = .ok (.aload_n 0, 1) := by decide +kernel
theorem dX7_leavesFiles_86 : decode cX7_leavesFiles 86 = .ok (.getfield 31, 3) := by decide +kernel
theorem dX7_leavesFiles_89 : decode cX7_leavesFiles 89 = .ok (.iconst 3, 1) := by decide +kernel
theorem dX7_leavesFiles_90 : decode cX7_leavesFiles 90 = .ok (.aload_n 0, 1) := by decide +kernel
theorem dX7_leavesFiles_91 : decode cX7_leavesFiles 91 = .ok (.getfield 152, 3) := by decide +kernel
theorem dX7_leavesFiles_94 : decode cX7_leavesFiles 94 = .ok (.imul, 1) := by decide +kernel
theorem dX7_leavesFiles_95 : decode cX7_leavesFiles 95 = .ok (.iconst 1, 1) := by decide +kernel
theorem dX7_leavesFiles_96 : decode cX7_leavesFiles 96 = .ok (.iadd, 1) := by decide +kernel
theorem dX7_leavesFiles_97 : decode cX7_leavesFiles 97 = .ok (.aload_n 0, 1) := by decide +kernel
theorem dX7_leavesFiles_98 : decode cX7_leavesFiles 98 = .ok (.iconst 1, 1) := by decide +kernel
theorem dX7_leavesFiles_99 : decode cX7_leavesFiles 99 = .ok (.invokevirtual 110, 3) := by decide +kernel
theorem dX7_leavesFiles_102 : decode cX7_leavesFiles 102 = .ok (.aload_n 0, 1) := by decide +kernel
theorem dX7_leavesFiles_103 : decode cX7_leavesFiles 103 = .ok (.getfield 112, 3) := by decide +kernel
theorem dX7_leavesFiles_106 : decode cX7_leavesFiles 106 = .ok (.ishl, 1) := by decide +kernel
theorem dX7_leavesFiles_107 : decode cX7_leavesFiles 107 = .ok (.iload_n 2, 1) := by decide +kernel
theorem dX7_leavesFiles_108 : decode cX7_leavesFiles 108 = .ok (.iadd, 1) := by decide +kernel
theorem dX7_leavesFiles_109 : decode cX7_leavesFiles 109 = .ok (.iastore, 1) := by decide +kernel
theorem dX7_leavesFiles_110 : decode cX7_leavesFiles 110 = .ok (.aload_n 0, 1) := by decide +kernel
theorem dX7_leavesFiles_111 : decode cX7_leavesFiles 111 = .ok (.getfield 31, 3) := by decide +kernel
theorem dX7_leavesFiles_114 : decode cX7_leavesFiles 114 = .ok (.iconst 3, 1) := by decide +kernel
theorem dX7_leavesFiles_115 : decode cX7_leavesFiles 115 = .ok (.aload_n 0, 1) := by decide +kernel
theorem dX7_leavesFiles_116 : decode cX7_leavesFiles 116 = .ok (.getfield 152, 3) := by decide +kernel
theorem dX7_leavesFiles_119 : decode cX7_leavesFiles 119 = .ok (.imul, 1) := by decide +kernel
theorem dX7_leavesFiles_120 : decode cX7_leavesFiles 120 = .ok (.iconst 2, 1) := by decide +kernel
theorem dX7_leavesFiles_121 : decode cX7_leavesFiles 121 = .ok (.iadd, 1) := by decide +kernel
theorem dX7_leavesFiles_122 : decode cX7_leavesFiles 122 = .ok (.aload_n 0, 1) := by decide +kernel
theorem dX7_leavesFiles_123 : decode cX7_leavesFiles 123 = .ok (.getfield 34, 3) := by decide +kernel
theorem dX7_leavesFiles_126 : decode cX7_leavesFiles 126 = .ok (.iload_n 2, 1) := by decide +kernel
theorem dX7_leavesFiles_127 : decode cX7_leavesFiles 127 = .ok (.iaload, 1) := by decide +kernel
theorem dX7_leavesFiles_128 : decode cX7_leavesFiles 128 = .ok (.iastore, 1) := by decide +kernel
theorem dX7_leavesFiles_129 : decode cX7_leavesFiles 129 = .ok (.aload_n 0, 1) := by decide +kernel
theorem dX7_leavesFiles_130 : decode cX7_leavesFiles 130 = .ok (.dup, 1) := by decide +kernel
theorem dX7_leavesFiles_131 : decode cX7_leavesFiles 131 = .ok (.getfield 152, 3) := by decide +kernel
theorem dX7_leavesFiles_134 : decode cX7_leavesFiles 134 = .ok (.iconst 1, 1) := by decide +kernel
theorem dX7_leavesFiles_135 : decode cX7_leavesFiles 135 = .ok (.iadd, 1) := by decide +kernel
theorem dX7_leavesFiles_136 : decode cX7_leavesFiles 136 = .ok (.putfield 152, 3) := by decide +kernel
theorem dX7_leavesFiles_139 : decode cX7_leavesFiles 139 = .ok (.iinc 2 (-1), 3) := by decide +kernel
theorem dX7_leavesFiles_142 : decode cX7_leavesFiles 142 = .ok (.goto (-92), 3) := by decide +kernel
theorem dX7_leavesFiles_145 : decode cX7_leavesFiles 145 = .ok (.return_, 1) := by decide +kernel
theorem dX7_doPass_0 : decode cX7_doPass 0 = .ok (.iconst 0, 1) := by decide +kernel
theorem dX7_doPass_1 : decode cX7_doPass 1 = .ok (.istore 4, 2) := by decide +kernel
theorem dX7_doPass_3 : decode cX7_doPass 3 = .ok (.iload 4, 2) := by decide +kernel
theorem dX7_doPass_5 : decode cX7_doPass 5 = .ok (.bipush 16, 2) := by decide +kernel
theorem dX7_doPass_7 : decode cX7_doPass 7 = .ok (.if_icmp .ge 17, 3) := by decide +kernel
theorem dX7_doPass_10 : decode cX7_doPass 10 = .ok (.aload_n 0, 1) := by decide +kernel
theorem dX7_doPass_11 : decode cX7_doPass 11 = .ok (.getfield 40, 3) := by decide +kernel
theorem dX7_doPass_14 : decode cX7_doPass 14 = .ok (.iload 4, 2) := by decide +kernel
theorem dX7_doPass_16 : decode cX7_doPass 16 = .ok (.iconst 0, 1) := by decide +kernel
theorem dX7_doPass_17 : decode cX7_doPass 17 = .ok (.iastore, 1) := by decide +kernel
theorem dX7_doPass_18 : decode cX7_doPass 18 = .ok (.iinc 4 1, 3) := by decide +kernel
theorem dX7_doPass_21 : decode cX7_doPass 21 = .ok (.goto (-18), 3) := by decide +kernel
theorem dX7_doPass_24 : decode cX7_doPass 24 = .ok (.iconst 0, 1) := by decide +kernel
theorem dX7_doPass_25 : decode cX7_doPass 25 = .ok (.istore 4, 2) := by decide +kernel
theorem dX7_doPass_27 : decode cX7_doPass 27 = .ok (.iload 4, 2) := by decide +kernel
theorem dX7_doPass_29 : decode cX7_doPass 29 = .ok (.bipush 7, 2) := by decide +kernel
theorem dX7_doPass_31 : decode cX7_doPass 31 = .ok (.if_icmp .ge 25, 3) := by decide +kernel
theorem dX7_doPass_34 : decode cX7_doPass 34 = .ok (.aload_n 0, 1) := by decide +kernel
theorem dX7_doPass_35 : decode cX7_doPass 35 = .ok (.getfield 22, 3) := by decide +kernel
theorem dX7_doPass_38 : decode cX7_doPass 38 = .ok (.bipush 7, 2) := by decide +kernel
theorem dX7_doPass_40 : decode cX7_doPass 40 = .ok (.aload_n 0, 1) := by decide +kernel
theorem dX7_doPass_41 : decode cX7_doPass 41 = .ok (.getfield 103, 3) := by decide +kernel
theorem dX7_doPass_44 : decode cX7_doPass 44 = .ok (.imul, 1) := by decide +kernel
theorem dX7_doPass_45 : decode cX7_doPass 45 = .ok (.iload 4, 2) := by decide +kernel
theorem dX7_doPass_47 : decode cX7_doPass 47 = .ok (.iadd, 1) := by decide +kernel
theorem dX7_doPass_48 : decode cX7_doPass 48 = .ok (.iconst 0, 1) := by decide +kernel
theorem dX7_doPass_49 : decode cX7_doPass 49 = .ok (.iastore, 1) := by decide +kernel
theorem dX7_doPass_50 : decode cX7_doPass 50 = .ok (.iinc 4 1, 3) := by decide +kernel
theorem dX7_doPass_53 : decode cX7_doPass 53 = .ok (.goto (-26), 3) := by decide +kernel
theorem dX7_doPass_56 : decode cX7_doPass 56 = .ok (.aload_n 0, 1) := by decide +kernel
theorem dX7_doPass_57 : decode cX7_doPass 57 = .ok (.getfield 22, 3) := by decide +kernel
theorem dX7_doPass_60 : decode cX7_doPass 60 = .ok (.bipush 7, 2) := by decide +kernel
theorem dX7_doPass_62 : decode cX7_doPass 62 = .ok (.aload_n 0, 1) := by decide +kernel
theorem dX7_doPass_63 : decode cX7_doPass 63 = .ok (.getfield 103, 3) := by decide +kernel
theorem dX7_doPass_66 : decode cX7_doPass 66 = .ok (.imul, 1) := by decide +kernel
theorem dX7_doPass_67 : decode cX7_doPass 67 = .ok (.iload_n 1, 1) := by decide +kernel
theorem dX7_doPass_68 : decode cX7_doPass 68 = .ok (.iastore, 1) := by decide +kernel
theorem dX7_doPass_69 : decode cX7_doPass 69 = .ok (.aload_n 0, 1) := by decide +kernel
theorem dX7_doPass_70 : decode cX7_doPass 70 = .ok (.getfield 22, 3) := by decide +kernel
theorem dX7_doPass_73 : decode cX7_doPass 73 = .ok (.bipush 7, 2) := by decide +kernel
theorem dX7_doPass_75 : decode cX7_doPass 75 = .ok (.aload_n 0, 1) := by decide +kernel
theorem dX7_doPass_76 : decode cX7_doPass 76 = .ok (.getfield 103, 3) := by decide +kernel
theorem dX7_doPass_79 : decode cX7_doPass 79 = .ok (.imul, 1) := by decide +kernel
theorem dX7_doPass_80 : decode cX7_doPass 80 = .ok (.iconst 1, 1) := by decide +kernel
theorem dX7_doPass_81 : decode cX7_doPass 81 = .ok (.iadd, 1) := by decide +kernel
theorem dX7_doPass_82 : decode cX7_doPass 82 = .ok (.iload_n 2, 1) := by decide +kernel
theorem dX7_doPass_83 : decode cX7_doPass 83 = .ok (.iastore, 1) := by decide +kernel
theorem dX7_doPass_84 : decode cX7_doPass 84 = .ok (.aload_n 0, 1) := by decide +kernel
theorem dX7_doPass_85 : decode cX7_doPass 85 = .ok (.dup, 1) := by decide +kernel
theorem dX7_doPass_86 : decode cX7_doPass 86 = .ok (.getfield 103, 3) := by decide +kernel
theorem dX7_doPass_89 : decode cX7_doPass 89 = .ok (.iconst 1, 1) := by decide +kernel
theorem dX7_doPass_90 : decode cX7_doPass 90 = .ok (.iadd, 1) := by decide +kernel
theorem dX7_doPass_91 : decode cX7_doPass 91 = .ok (.putfield 103, 3) := by decide +kernel
theorem dX7_doPass_94 : decode cX7_doPass 94 = .ok (.aload_n 0, 1) := by decide +kernel
theorem dX7_doPass_95 : decode cX7_doPass 95 = .ok (.getfield 128, 3) := by decide +kernel
theorem dX7_doPass_98 : decode cX7_doPass 98 = .ok (.istore 4, 2) := by decide +kernel
theorem dX7_doPass_100 : decode cX7_doPass 100 = .ok (.iload_n 3, 1) := by decide +kernel
theorem dX7_doPass_101 : decode cX7_doPass 101 = .ok (.istore 5, 2) := by decide +kernel
theorem dX7_doPass_103 : decode cX7_doPass 103 = .ok (.iload 5, 2) := by decide +kernel
theorem dX7_doPass_105 : decode cX7_doPass 105 = .ok (.iconst (-1), 1) := by decide +kernel
theorem dX7_doPass_106 : decode cX7_doPass 106 = .ok (.if_icmp .eq 48, 3) := by decide +kernel
theorem dX7_doPass_109 : decode cX7_doPass 109 = .ok (.aload_n 0, 1) := by decide +kernel
theorem dX7_doPass_110 : decode cX7_doPass 110 = .ok (.iload 5, 2) := by decide +kernel
theorem dX7_doPass_112 : decode cX7_doPass 112 = .ok (.iconst 5, 1) := by decide +kernel
theorem dX7_doPass_113 : decode cX7_doPass 113 = .ok (.invokevirtual 99, 3) := by decide +kernel
theorem dX7_doPass_116 : decode cX7_doPass 116 = .ok (.istore 6, 2) := by decide +kernel
theorem dX7_doPass_118 : decode cX7_doPass 118 = .ok (.aload_n 0, 1) := by decide +kernel
theorem dX7_doPass_119 : decode cX7_doPass 119 = .ok (.iconst 2, 1) := by decide +kernel
theorem dX7_doPass_120 : decode cX7_doPass 120 = .ok (.invokevirtual 106, 3) := by decide +kernel
theorem dX7_doPass_123 : decode cX7_doPass 123 = .ok (.aload_n 0, 1) := by decide +kernel
theorem dX7_doPass_124 : decode cX7_doPass 124 = .ok (.iload 5, 2) := by decide +kernel
theorem dX7_doPass_126 : decode cX7_doPass 126 = .ok (.invokevirtual 155, 3) := by decide +kernel
theorem dX7_doPass_129 : decode cX7_doPass 129 = .ok (.istore 7, 2) := by decide +kernel
theorem dX7_doPass_131 : decode cX7_doPass 131 = .ok (.iload 7, 2) := by decide +kernel
theorem dX7_doPass_133 : decode cX7_doPass 133 = .ok (.ifCond .ne 14, 3) := by decide +kernel
theorem dX7_doPass_136 : decode cX7_doPass 136 = .ok (.aload_n 0, 1) := by decide +kernel
theorem dX7_doPass_137 : decode cX7_doPass 137 = .ok (.iload 5, 2) := by decide +kernel
theorem dX7_doPass_139 : decode cX7_doPass 139 = .ok (.invokevirtual 155, 3) := by decide +kernel
theorem dX7_doPass_142 : decode cX7_doPass 142 = .ok (.istore 7, 2) := by decide +kernel
theorem dX7_doPass_144 : decode cX7_doPass 144 = .ok (.goto (-13), 3) := by decide +kernel
theorem dX7_doPass_147 : decode cX7_doPass 147 = .ok (.iload 6, 2) := by decide +kernel
theorem dX7_doPass_149 : decode cX7_doPass 149 = .ok (.istore 5, 2) := by decide +kernel
theorem dX7_doPass_151 : decode cX7_doPass 151 = .ok (.goto (-48), 3) := by decide +kernel
theorem dX7_doPass_154 : decode cX7_doPass 154 = .ok (.aload_n 0, 1) := by decide +kernel
theorem dX7_doPass_155 : decode cX7_doPass 155 = .ok (.invokevirtual 159, 3) := by decide +kernel
theorem dX7_doPass_158 : decode cX7_doPass 158 = .ok (.aload_n 0, 1) := by decide +kernel
theorem dX7_doPass_159 : decode cX7_doPass 159 = .ok (.iload 4, 2) := by decide +kernel
theorem dX7_doPass_161 : decode cX7_doPass 161 = .ok (.invokevirtual 162, 3) := by decide +kernel
theorem dX7_doPass_164 : decode cX7_doPass 164 = .ok (.return_, 1) := by decide +kernel
theorem dX7_run_0 : decode cX7_run 0 = .ok (.aload_n 0, 1) := by decide +kernel
theorem dX7_run_1 : decode cX7_run 1 = .ok (.iload_n 1, 1) := by decide +kernel
theorem dX7_run_2 : decode cX7_run 2 = .ok (.putfield 137, 3) := by decide +kernel
theorem dX7_run_5 : decode cX7_run 5 = .ok (.aload_n 0, 1) := by decide +kernel
theorem dX7_run_6 : decode cX7_run 6 = .ok (.iload_n 2, 1) := by decide +kernel
theorem dX7_run_7 : decode cX7_run 7 = .ok (.putfield 112, 3) := by decide +kernel
theorem dX7_run_10 : decode cX7_run 10 = .ok (.aload_n 0, 1) := by decide +kernel
theorem dX7_run_11 : decode cX7_run 11 = .ok (.iconst 0, 1) := by decide +kernel
theorem dX7_run_12 : decode cX7_run 12 = .ok (.putfield 93, 3) := by decide +kernel
theorem dX7_run_15 : decode cX7_run 15 = .ok (.aload_n 0, 1) := by decide +kernel
theorem dX7_run_16 : decode cX7_run 16 = .ok (.iconst 0, 1) := by decide +kernel
theorem dX7_run_17 : decode cX7_run 17 = .ok (.putfield 103, 3) := by decide +kernel
theorem dX7_run_20 : decode cX7_run 20 = .ok (.aload_n 0, 1) := by decide +kernel
theorem dX7_run_21 : decode cX7_run 21 = .ok (.iconst 0, 1) := by decide +kernel
theorem dX7_run_22 : decode cX7_run 22 = .ok (.putfield 128, 3) := by decide +kernel
theorem dX7_run_25 : decode cX7_run 25 = .ok (.aload_n 0, 1) := by decide +kernel
theorem dX7_run_26 : decode cX7_run 26 = .ok (.iconst 0, 1) := by decide +kernel
theorem dX7_run_27 : decode cX7_run 27 = .ok (.putfield 149, 3) := by decide +kernel
theorem dX7_run_30 : decode cX7_run 30 = .ok (.aload_n 0, 1) := by decide +kernel
theorem dX7_run_31 : decode cX7_run 31 = .ok (.iconst 0, 1) := by decide +kernel
theorem dX7_run_32 : decode cX7_run 32 = .ok (.putfield 143, 3) := by decide +kernel
theorem dX7_run_35 : decode cX7_run 35 = .ok (.iconst 0, 1) := by decide +kernel
theorem dX7_run_36 : decode cX7_run 36 = .ok (.istore_n 3, 1) := by decide +kernel
theorem dX7_run_37 : decode cX7_run 37 = .ok (.iload_n 3, 1) := by decide +kernel
theorem dX7_run_38 : decode cX7_run 38 = .ok (.aload_n 0, 1) := by decide +kernel
theorem dX7_run_39 : decode cX7_run 39 = .ok (.getfield 7, 3) := by decide +kernel
theorem dX7_run_42 : decode cX7_run 42 = .ok (.iconst 0, 1) := by decide +kernel
theorem dX7_run_43 : decode cX7_run 43 = .ok (.iaload, 1) := by decide +kernel
theorem dX7_run_44 : decode cX7_run 44 = .ok (.if_icmp .ge 82, 3) := by decide +kernel
theorem dX7_run_47 : decode cX7_run 47 = .ok (.aload_n 0, 1) := by decide +kernel
theorem dX7_run_48 : decode cX7_run 48 = .ok (.aload_n 0, 1) := by decide +kernel
theorem dX7_run_49 : decode cX7_run 49 = .ok (.getfield 7, 3) := by decide +kernel
theorem dX7_run_52 : decode cX7_run 52 = .ok (.iconst 4, 1) := by decide +kernel
theorem dX7_run_53 : decode cX7_run 53 = .ok (.iload_n 3, 1) := by decide +kernel
theorem dX7_run_54 : decode cX7_run 54 = .ok (.iadd, 1) := by decide +kernel
theorem dX7_run_55 : decode cX7_run 55 = .ok (.iaload, 1) := by decide +kernel
theorem dX7_run_56 : decode cX7_run 56 = .ok (.iconst 1, 1) := by decide +kernel
theorem dX7_run_57 : decode cX7_run 57 = .ok (.aload_n 0, 1) := by decide +kernel
theorem dX7_run_58 : decode cX7_run 58 = .ok (.getfield 7, 3) := by decide +kernel
theorem dX7_run_61 : decode cX7_run 61 = .ok (.bipush 104, 2) := by decide +kernel
theorem dX7_run_63 : decode cX7_run 63 = .ok (.iload_n 3, 1) := by decide +kernel
theorem dX7_run_64 : decode cX7_run 64 = .ok (.iadd, 1) := by decide +kernel
theorem dX7_run_65 : decode cX7_run 65 = .ok (.iaload, 1) := by decide +kernel
theorem dX7_run_66 : decode cX7_run 66 = .ok (.aload_n 0, 1) := by decide +kernel
theorem dX7_run_67 : decode cX7_run 67 = .ok (.getfield 7, 3) := by decide +kernel
theorem dX7_run_70 : decode cX7_run 70 = .ok (.bipush 104, 2) := by decide +kernel
theorem dX7_run_72 : decode cX7_run 72 = .ok (.iload_n 3, 1) := by decide +kernel
theorem dX7_run_73 : decode cX7_run 73 = .ok (.iadd, 1) := by decide +kernel
theorem dX7_run_74 : decode cX7_run 74 = .ok (.iaload, 1) := by decide +kernel
theorem dX7_run_75 : decode cX7_run 75 = .ok (.aload_n 0, 1) := by decide +kernel
theorem dX7_run_76 : decode cX7_run 76 = .ok (.getfield 7, 3) := by decide +kernel
theorem dX7_run_79 : decode cX7_run 79 = .ok (.bipush 104, 2) := by decide +kernel
theorem dX7_run_81 : decode cX7_run 81 = .ok (.iload_n 3, 1) := by decide +kernel
theorem dX7_run_82 : decode cX7_run 82 = .ok (.iadd, 1) := by decide +kernel
theorem dX7_run_83 : decode cX7_run 83 = .ok (.iaload, 1) := by decide +kernel
theorem dX7_run_84 : decode cX7_run 84 = .ok (.invokevirtual 118, 3) := by decide +kernel
theorem dX7_run_87 : decode cX7_run 87 = .ok (.istore 4, 2) := by decide +kernel
theorem dX7_run_89 : decode cX7_run 89 = .ok (.aload_n 0, 1) := by decide +kernel
theorem dX7_run_90 : decode cX7_run 90 = .ok (.getfield 16, 3) := by decide +kernel
theorem dX7_run_93 : decode cX7_run 93 = .ok (.bipush 6, 2) := by decide +kernel
theorem dX7_run_95 : decode cX7_run 95 = .ok (.iload 4, 2) := by decide +kernel
theorem dX7_run_97 : decode cX7_run 97 = .ok (.imul, 1) := by decide +kernel
theorem dX7_run_98 : decode cX7_run 98 = .ok (.iconst 5, 1) := by decide +kernel
theorem dX7_run_99 : decode cX7_run 99 = .ok (.iadd, 1) := by decide +kernel
theorem dX7_run_100 : decode cX7_run 100 = .ok (.iload_n 3, 1) := by decide +kernel
theorem dX7_run_101 : decode cX7_run 101 = .ok (.iconst 1, 1) := by decide +kernel
theorem dX7_run_102 : decode cX7_run 102 = .ok (.iadd, 1) := by decide +kernel
theorem dX7_run_103 : decode cX7_run 103 = .ok (.aload_n 0, 1) := by decide +kernel
theorem dX7_run_104 : decode cX7_run 104 = .ok (.getfield 7, 3) := by decide +kernel
theorem dX7_run_107 : decode cX7_run 107 = .ok (.iconst 0, 1) := by decide +kernel
theorem dX7_run_108 : decode cX7_run 108 = .ok (.iaload, 1) := by decide +kernel
theorem dX7_run_109 : decode cX7_run 109 = .ok (.if_icmp .ge 9, 3) := by decide +kernel
theorem dX7_run_112 : decode cX7_run 112 = .ok (.iload_n 3, 1) := by decide +kernel
theorem dX7_run_113 : decode cX7_run 113 = .ok (.iconst 1, 1) := by decide +kernel
theorem dX7_run_114 : decode cX7_run 114 = .ok (.iadd, 1) := by decide +kernel
theorem dX7_run_115 : decode cX7_run 115 = .ok (.goto 4, 3) := by decide +kernel
theorem dX7_run_118 : decode cX7_run 118 = .ok (.iconst (-1), 1) := by decide +kernel
theorem dX7_run_119 : decode cX7_run 119 = .ok (.iastore, 1) := by decide +kernel
theorem dX7_run_120 : decode cX7_run 120 = .ok (.iinc 3 1, 3) := by decide +kernel
theorem dX7_run_123 : decode cX7_run 123 = .ok (.goto (-86), 3) := by decide +kernel
theorem dX7_run_126 : decode cX7_run 126 = .ok (.aload_n 0, 1) := by decide +kernel
theorem dX7_run_127 : decode cX7_run 127 = .ok (.iconst 1, 1) := by decide +kernel
theorem dX7_run_128 : decode cX7_run 128 = .ok (.putfield 152, 3) := by decide +kernel
theorem dX7_run_131 : decode cX7_run 131 = .ok (.aload_n 0, 1) := by decide +kernel
theorem dX7_run_132 : decode cX7_run 132 = .ok (.getfield 31, 3) := by decide +kernel
theorem dX7_run_135 : decode cX7_run 135 = .ok (.iconst 0, 1) := by decide +kernel
theorem dX7_run_136 : decode cX7_run 136 = .ok (.iconst 0, 1) := by decide +kernel
theorem dX7_run_137 : decode cX7_run 137 = .ok (.iastore, 1) := by decide +kernel
theorem dX7_run_138 : decode cX7_run 138 = .ok (.aload_n 0, 1) := by decide +kernel
theorem dX7_run_139 : decode cX7_run 139 = .ok (.getfield 31, 3) := by decide +kernel
theorem dX7_run_142 : decode cX7_run 142 = .ok (.iconst 1, 1) := by decide +kernel
theorem dX7_run_143 : decode cX7_run 143 = .ok (.iconst 0, 1) := by decide +kernel
theorem dX7_run_144 : decode cX7_run 144 = .ok (.iastore, 1) := by decide +kernel
theorem dX7_run_145 : decode cX7_run 145 = .ok (.aload_n 0, 1) := by decide +kernel
theorem dX7_run_146 : decode cX7_run 146 = .ok (.getfield 31, 3) := by decide +kernel
theorem dX7_run_149 : decode cX7_run 149 = .ok (.iconst 2, 1) := by decide +kernel
theorem dX7_run_150 : decode cX7_run 150 = .ok (.aload_n 0, 1) := by decide +kernel
theorem dX7_run_151 : decode cX7_run 151 = .ok (.getfield 7, 3) := by decide +kernel
theorem dX7_run_154 : decode cX7_run 154 = .ok (.iconst 0, 1) := by decide +kernel
theorem dX7_run_155 : decode cX7_run 155 = .ok (.iaload, 1) := by decide +kernel
theorem dX7_run_156 : decode cX7_run 156 = .ok (.ifCond .le 7, 3) := by decide +kernel
theorem dX7_run_159 : decode cX7_run 159 = .ok (.iconst 0, 1) := by decide +kernel
theorem dX7_run_160 : decode cX7_run 160 = .ok (.goto 4, 3) := by decide +kernel
theorem dX7_run_163 : decode cX7_run 163 = .ok (.iconst (-1), 1) := by decide +kernel
theorem dX7_run_164 : decode cX7_run 164 = .ok (.iastore, 1) := by decide +kernel
theorem dX7_run_165 : decode cX7_run 165 = .ok (.aload_n 0, 1) := by decide +kernel
theorem dX7_run_166 : decode cX7_run 166 = .ok (.getfield 152, 3) := by decide +kernel
theorem dX7_run_169 : decode cX7_run 169 = .ok (.ifCond .le 57, 3) := by decide +kernel
theorem dX7_run_172 : decode cX7_run 172 = .ok (.aload_n 0, 1) := by decide +kernel
theorem dX7_run_173 : decode cX7_run 173 = .ok (.dup, 1) := by decide +kernel
theorem dX7_run_174 : decode cX7_run 174 = .ok (.getfield 152, 3) := by decide +kernel
theorem dX7_run_177 : decode cX7_run 177 = .ok (.iconst 1, 1) := by decide +kernel
theorem dX7_run_178 : decode cX7_run 178 = .ok (.isub, 1) := by decide +kernel
theorem dX7_run_179 : decode cX7_run 179 = .ok (.putfield 152, 3) := by decide +kernel
theorem dX7_run_182 : decode cX7_run 182 = .ok (.aload_n 0, 1) := by decide +kernel
theorem dX7_run_183 : decode cX7_run 183 = .ok (.aload_n 0, 1) := by decide +kernel
theorem dX7_run_184 : decode cX7_run 184 = .ok (.getfield 31, 3) := by decide +kernel
theorem dX7_run_187 : decode cX7_run 187 = .ok (.iconst 3, 1) := by decide +kernel
theorem dX7_run_188 : decode cX7_run 188 = .ok (.aload_n 0, 1) := by decide +kernel
theorem dX7_run_189 : decode cX7_run 189 = .ok (.getfield 152, 3) := by decide +kernel
theorem dX7_run_192 : decode cX7_run 192 = .ok (.imul, 1) := by decide +kernel
theorem dX7_run_193 : decode cX7_run 193 = .ok (.iaload, 1) := by decide +kernel
theorem dX7_run_194 : decode cX7_run 194 = .ok (.aload_n 0, 1) := by decide +kernel
theorem dX7_run_195 : decode cX7_run 195 = .ok (.getfield 31, 3) := by decide +kernel
theorem dX7_run_198 : decode cX7_run 198 = .ok (.iconst 3, 1) := by decide +kernel
theorem dX7_run_199 : decode cX7_run 199 = .ok (.aload_n 0, 1) := by decide +kernel
theorem dX7_run_200 : decode cX7_run 200 = .ok (.getfield 152, 3) := by decide +kernel
theorem dX7_run_203 : decode cX7_run 203 = .ok (.imul, 1) := by decide +kernel
theorem dX7_run_204 : decode cX7_run 204 = .ok (.iconst 1, 1) := by decide +kernel
theorem dX7_run_205 : decode cX7_run 205 = .ok (.iadd, 1) := by decide +kernel
theorem dX7_run_206 : decode cX7_run 206 = .ok (.iaload, 1) := by decide +kernel
theorem dX7_run_207 : decode cX7_run 207 = .ok (.aload_n 0, 1) := by decide +kernel
theorem dX7_run_208 : decode cX7_run 208 = .ok (.getfield 31, 3) := by decide +kernel
theorem dX7_run_211 : decode cX7_run 211 = .ok (.iconst 3, 1) := by decide +kernel
theorem dX7_run_212 : decode cX7_run 212 = .ok (.aload_n 0, 1) := by decide +kernel
theorem dX7_run_213 : decode cX7_run 213 = .ok (.getfield 152, 3) := by decide +kernel
theorem dX7_run_216 : decode cX7_run 216 = .ok (.imul, 1) := by decide +kernel
theorem dX7_run_217 : decode cX7_run 217 = .ok (.iconst 2, 1) := by decide +kernel
theorem dX7_run_218 : decode cX7_run 218 = .ok (.iadd, 1) := by decide +kernel
theorem dX7_run_219 : decode cX7_run 219 = .ok (.iaload, 1) := by decide +kernel
theorem dX7_run_220 : decode cX7_run 220 = .ok (.invokevirtual 165, 3) := by decide +kernel
theorem dX7_run_223 : decode cX7_run 223 = .ok (.goto (-58), 3) := by decide +kernel
theorem dX7_run_226 : decode cX7_run 226 = .ok (.return_, 1) := by decide +kernel
theorem dX7_runNow_0 : decode cX7_runNow 0 = .ok (.aload_n 0, 1) := by decide +kernel
theorem dX7_runNow_1 : decode cX7_runNow 1 = .ok (.aload_n 0, 1) := by decide +kernel
theorem dX7_runNow_2 : decode cX7_runNow 2 = .ok (.getfield 7, 3) := by decide +kernel
theorem dX7_runNow_5 : decode cX7_runNow 5 = .ok (.iconst 1, 1) := by decide +kernel
theorem dX7_runNow_6 : decode cX7_runNow 6 = .ok (.iaload, 1) := by decide +kernel
theorem dX7_runNow_7 : decode cX7_runNow 7 = .ok (.aload_n 0, 1) := by decide +kernel
theorem dX7_runNow_8 : decode cX7_runNow 8 = .ok (.getfield 7, 3) := by decide +kernel
theorem dX7_runNow_11 : decode cX7_runNow 11 = .ok (.iconst 2, 1) := by decide +kernel
theorem dX7_runNow_12 : decode cX7_runNow 12 = .ok (.iaload, 1) := by decide +kernel
theorem dX7_runNow_13 : decode cX7_runNow 13 = .ok (.invokevirtual 169, 3) := by decide +kernel
theorem dX7_runNow_16 : decode cX7_runNow 16 = .ok (.return_, 1) := by decide +kernel
theorem dX7_groupOf_0 : decode cX7_groupOf 0 = .ok (.iload_n 1, 1) := by decide +kernel
theorem dX7_groupOf_1 : decode cX7_groupOf 1 = .ok (.ifCond .lt 15, 3) := by decide +kernel
theorem dX7_groupOf_4 : decode cX7_groupOf 4 = .ok (.iload_n 2, 1) := by decide +kernel
theorem dX7_groupOf_5 : decode cX7_groupOf 5 = .ok (.i2l, 1) := by decide +kernel
theorem dX7_groupOf_6 : decode cX7_groupOf 6 = .ok (.lconst 0, 1) := by decide +kernel
theorem dX7_groupOf_7 : decode cX7_groupOf 7 = .ok (.ldc2_w 172, 3) := by decide +kernel
theorem dX7_groupOf_10 : decode cX7_groupOf 10 = .ok (.invokestatic 53, 3) := by decide +kernel
theorem dX7_groupOf_13 : decode cX7_groupOf 13 = .ok (.ifCond .ne 6, 3) := by decide +kernel
theorem dX7_groupOf_16 : decode cX7_groupOf 16 = .ok (.ldc 65, 2) := by decide +kernel
theorem dX7_groupOf_18 : decode cX7_groupOf 18 = .ok (.ireturn, 1) := by decide +kernel
theorem dX7_groupOf_19 : decode cX7_groupOf 19 = .ok (.aload_n 0, 1) := by decide +kernel
theorem dX7_groupOf_20 : decode cX7_groupOf 20 = .ok (.invokevirtual 174, 3) := by decide +kernel
theorem dX7_groupOf_23 : decode cX7_groupOf 23 = .ok (.iconst 0, 1) := by decide +kernel
theorem dX7_groupOf_24 : decode cX7_groupOf 24 = .ok (.istore_n 3, 1) := by decide +kernel
theorem dX7_groupOf_25 : decode cX7_groupOf 25 = .ok (.iload_n 3, 1) := by decide +kernel
theorem dX7_groupOf_26 : decode cX7_groupOf 26 = .ok (.aload_n 0, 1) := by decide +kernel
theorem dX7_groupOf_27 : decode cX7_groupOf 27 = .ok (.getfield 149, 3) := by decide +kernel
theorem dX7_groupOf_30 : decode cX7_groupOf 30 = .ok (.if_icmp .ge 90, 3) := by decide +kernel
theorem dX7_groupOf_33 : decode cX7_groupOf 33 = .ok (.iconst 0, 1) := by decide +kernel
theorem dX7_groupOf_34 : decode cX7_groupOf 34 = .ok (.istore 4, 2) := by decide +kernel
theorem dX7_groupOf_36 : decode cX7_groupOf 36 = .ok (.iconst 0, 1) := by decide +kernel
theorem dX7_groupOf_37 : decode cX7_groupOf 37 = .ok (.istore 5, 2) := by decide +kernel
theorem dX7_groupOf_39 : decode cX7_groupOf 39 = .ok (.iload 5, 2) := by decide +kernel
theorem dX7_groupOf_41 : decode cX7_groupOf 41 = .ok (.aload_n 0, 1) := by decide +kernel
theorem dX7_groupOf_42 : decode cX7_groupOf 42 = .ok (.getfield 149, 3) := by decide +kernel
theorem dX7_groupOf_45 : decode cX7_groupOf 45 = .ok (.if_icmp .ge 41, 3) := by decide +kernel
theorem dX7_groupOf_48 : decode cX7_groupOf 48 = .ok (.iload 4, 2) := by decide +kernel
theorem dX7_groupOf_50 : decode cX7_groupOf 50 = .ok (.aload_n 0, 1) := by decide +kernel
theorem dX7_groupOf_51 : decode cX7_groupOf 51 = .ok (.getfield 28, 3) := by decide +kernel
theorem dX7_groupOf_54 : decode cX7_groupOf 54 = .ok (.bipush 7, 2) := by decide +kernel
theorem dX7_groupOf_56 : decode cX7_groupOf 56 = .ok (.iload 5, 2) := by decide +kernel
theorem dX7_groupOf_58 : decode cX7_groupOf 58 = .ok (.imul, 1) := by decide +kernel
theorem dX7_groupOf_59 : decode cX7_groupOf 59 = .ok (.iaload, 1) := by decide +kernel
theorem dX7_groupOf_60 : decode cX7_groupOf 60 = .ok (.aload_n 0, 1) := by decide +kernel
theorem dX7_groupOf_61 : decode cX7_groupOf 61 = .ok (.getfield 28, 3) := by decide +kernel
theorem dX7_groupOf_64 : decode cX7_groupOf 64 = .ok (.bipush 7, 2) := by decide +kernel
theorem dX7_groupOf_66 : decode cX7_groupOf 66 = .ok (.iload_n 3, 1) := by decide +kernel
theorem dX7_groupOf_67 : decode cX7_groupOf 67 = .ok (.imul, 1) := by decide +kernel
theorem dX7_groupOf_68 : decode cX7_groupOf 68 = .ok (.iaload, 1) := by decide +kernel
theorem dX7_groupOf_69 : decode cX7_groupOf 69 = .ok (.if_icmp .ge 7, 3) := by decide +kernel
theorem dX7_groupOf_72 : decode cX7_groupOf 72 = .ok (.iconst 1, 1) := by decide +kernel
theorem dX7_groupOf_73 : decode cX7_groupOf 73 = .ok (.goto 4, 3) := by decide +kernel
theorem dX7_groupOf_76 : decode cX7_groupOf 76 = .ok (.iconst 0, 1) := by decide +kernel
theorem dX7_groupOf_77 : decode cX7_groupOf 77 = .ok (.iadd, 1) := by decide +kernel
theorem dX7_groupOf_78 : decode cX7_groupOf 78 = .ok (.istore 4, 2) := by decide +kernel
theorem dX7_groupOf_80 : decode cX7_groupOf 80 = .ok (.iinc 5 1, 3) := by decide +kernel
theorem dX7_groupOf_83 : decode cX7_groupOf 83 = .ok (.goto (-44), 3) := by decide +kernel
theorem dX7_groupOf_86 : decode cX7_groupOf 86 = .ok (.iload 4, 2) := by decide +kernel
theorem dX7_groupOf_88 : decode cX7_groupOf 88 = .ok (.iload_n 1, 1) := by decide +kernel
theorem dX7_groupOf_89 : decode cX7_groupOf 89 = .ok (.if_icmp .ne 25, 3) := by decide +kernel
theorem dX7_groupOf_92 : decode cX7_groupOf 92 = .ok (.iload_n 2, 1) := by decide +kernel
theorem dX7_groupOf_93 : decode cX7_groupOf 93 = .ok (.bipush 7, 2) := by decide +kernel
theorem dX7_groupOf_95 : decode cX7_groupOf 95 = .ok (.if_icmp .ne 7, 3) := by decide +kernel
theorem dX7_groupOf_98 : decode cX7_groupOf 98 = .ok (.iload_n 3, 1) := by decide +kernel
theorem dX7_groupOf_99 : decode cX7_groupOf 99 = .ok (.goto 14, 3) := by decide +kernel
theorem dX7_groupOf_102 : decode cX7_groupOf 102 = .ok (.aload_n 0, 1) := by decide +kernel
theorem dX7_groupOf_103 : decode cX7_groupOf 103 = .ok (.getfield 28, 3) := by decide +kernel
theorem dX7_groupOf_106 : decode cX7_groupOf 106 = .ok (.bipush 7, 2) := by decide +kernel
theorem dX7_groupOf_108 : decode cX7_groupOf 108 = .ok (.iload_n 3, 1) := by decide +kernel
theorem dX7_groupOf_109 : decode cX7_groupOf 109 = .ok (.imul, 1) := by decide +kernel
theorem dX7_groupOf_110 : decode cX7_groupOf 110 = .ok (.iload_n 2, 1) := by decide +kernel
theorem dX7_groupOf_111 : decode cX7_groupOf 111 = .ok (.iadd, 1) := by decide +kernel
theorem dX7_groupOf_112 : decode cX7_groupOf 112 = .ok (.iaload, 1) := by decide +kernel
theorem dX7_groupOf_113 : decode cX7_groupOf 113 = .ok (.ireturn, 1) := by decide +kernel
theorem dX7_groupOf_114 : decode cX7_groupOf 114 = .ok (.iinc 3 1, 3) := by decide +kernel
theorem dX7_groupOf_117 : decode cX7_groupOf 117 = .ok (.goto (-92), 3) := by decide +kernel
theorem dX7_groupOf_120 : decode cX7_groupOf 120 = .ok (.ldc 88, 2) := by decide +kernel
theorem dX7_groupOf_122 : decode cX7_groupOf 122 = .ok (.ireturn, 1) := by decide +kernel
theorem dX7_finished_0 : decode cX7_finished 0 = .ok (.iload_n 1, 1) := by decide +kernel
theorem dX7_finished_1 : decode cX7_finished 1 = .ok (.ifCond .ge 6, 3) := by decide +kernel
theorem dX7_finished_4 : decode cX7_finished 4 = .ok (.ldc 65, 2) := by decide +kernel
theorem dX7_finished_6 : decode cX7_finished 6 = .ok (.ireturn, 1) := by decide +kernel
theorem dX7_finished_7 : decode cX7_finished 7 = .ok (.aload_n 0, 1) := by decide +kernel
theorem dX7_finished_8 : decode cX7_finished 8 = .ok (.invokevirtual 174, 3) := by decide +kernel
theorem dX7_finished_11 : decode cX7_finished 11 = .ok (.iload_n 1, 1) := by decide +kernel
theorem dX7_finished_12 : decode cX7_finished 12 = .ok (.aload_n 0, 1) := by decide +kernel
theorem dX7_finished_13 : decode cX7_finished 13 = .ok (.getfield 149, 3) := by decide +kernel
theorem dX7_finished_16 : decode cX7_finished 16 = .ok (.if_icmp .ge 15, 3) := by decide +kernel
theorem dX7_finished_19 : decode cX7_finished 19 = .ok (.aload_n 0, 1) := by decide +kernel
theorem dX7_finished_20 : decode cX7_finished 20 = .ok (.getfield 28, 3) := by decide +kernel
theorem dX7_finished_23 : decode cX7_finished 23 = .ok (.bipush 7, 2) := by decide +kernel
theorem dX7_finished_25 : decode cX7_finished 25 = .ok (.iload_n 1, 1) := by decide +kernel
theorem dX7_finished_26 : decode cX7_finished 26 = .ok (.imul, 1) := by decide +kernel
theorem dX7_finished_27 : decode cX7_finished 27 = .ok (.iaload, 1) := by decide +kernel
theorem dX7_finished_28 : decode cX7_finished 28 = .ok (.goto 5, 3) := by decide +kernel
theorem dX7_finished_31 : decode cX7_finished 31 = .ok (.ldc 88, 2) := by decide +kernel
theorem dX7_finished_33 : decode cX7_finished 33 = .ok (.ireturn, 1) := by decide +kernel
theorem dX7_passOf_0 : decode cX7_passOf 0 = .ok (.iload_n 1, 1) := by decide +kernel
theorem dX7_passOf_1 : decode cX7_passOf 1 = .ok (.i2l, 1) := by decide +kernel
theorem dX7_passOf_2 : decode cX7_passOf 2 = .ok (.lconst 0, 1) := by decide +kernel
theorem dX7_passOf_3 : decode cX7_passOf 3 = .ok (.ldc2_w 177, 3) := by decide +kernel
theorem dX7_passOf_6 : decode cX7_passOf 6 = .ok (.invokestatic 53, 3) := by decide +kernel
theorem dX7_passOf_9 : decode cX7_passOf 9 = .ok (.ifCond .eq 27, 3) := by decide +kernel
theorem dX7_passOf_12 : decode cX7_passOf 12 = .ok (.iload_n 2, 1) := by decide +kernel
theorem dX7_passOf_13 : decode cX7_passOf 13 = .ok (.i2l, 1) := by decide +kernel
theorem dX7_passOf_14 : decode cX7_passOf 14 = .ok (.lconst 0, 1) := by decide +kernel
theorem dX7_passOf_15 : decode cX7_passOf 15 = .ok (.ldc2_w 79, 3) := by decide +kernel
theorem dX7_passOf_18 : decode cX7_passOf 18 = .ok (.invokestatic 53, 3) := by decide +kernel
theorem dX7_passOf_21 : decode cX7_passOf 21 = .ok (.ifCond .eq 15, 3) := by decide +kernel
theorem dX7_passOf_24 : decode cX7_passOf 24 = .ok (.iload_n 3, 1) := by decide +kernel
theorem dX7_passOf_25 : decode cX7_passOf 25 = .ok (.i2l, 1) := by decide +kernel
theorem dX7_passOf_26 : decode cX7_passOf 26 = .ok (.lconst 0, 1) := by decide +kernel
theorem dX7_passOf_27 : decode cX7_passOf 27 = .ok (.ldc2_w 179, 3) := by decide +kernel
theorem dX7_passOf_30 : decode cX7_passOf 30 = .ok (.invokestatic 53, 3) := by decide +kernel
theorem dX7_passOf_33 : decode cX7_passOf 33 = .ok (.ifCond .ne 6, 3) := by decide +kernel
theorem dX7_passOf_36 : decode cX7_passOf 36 = .ok (.ldc 65, 2) := by decide +kernel
theorem dX7_passOf_38 : decode cX7_passOf 38 = .ok (.ireturn, 1) := by decide +kernel
theorem dX7_passOf_39 : decode cX7_passOf 39 = .ok (.aload_n 0, 1) := by decide +kernel
theorem dX7_passOf_40 : decode cX7_passOf 40 = .ok (.invokevirtual 174, 3) := by decide +kernel
theorem dX7_passOf_43 : decode cX7_passOf 43 = .ok (.iconst 0, 1) := by decide +kernel
theorem dX7_passOf_44 : decode cX7_passOf 44 = .ok (.istore 4, 2) := by decide +kernel
theorem dX7_passOf_46 : decode cX7_passOf 46 = .ok (.iload 4, 2) := by decide +kernel
theorem dX7_passOf_48 : decode cX7_passOf 48 = .ok (.aload_n 0, 1) := by decide +kernel
theorem dX7_passOf_49 : decode cX7_passOf 49 = .ok (.getfield 103, 3) := by decide +kernel
theorem dX7_passOf_52 : decode cX7_passOf 52 = .ok (.if_icmp .ge 64, 3) := by decide +kernel
theorem dX7_passOf_55 : decode cX7_passOf 55 = .ok (.aload_n 0, 1) := by decide +kernel
theorem dX7_passOf_56 : decode cX7_passOf 56 = .ok (.getfield 22, 3) := by decide +kernel
theorem dX7_passOf_59 : decode cX7_passOf 59 = .ok (.bipush 7, 2) := by decide +kernel
theorem dX7_passOf_61 : decode cX7_passOf 61 = .ok (.iload 4, 2) := by decide +kernel
theorem dX7_passOf_63 : decode cX7_passOf 63 = .ok (.imul, 1) := by decide +kernel
theorem dX7_passOf_64 : decode cX7_passOf 64 = .ok (.iaload, 1) := by decide +kernel
theorem dX7_passOf_65 : decode cX7_passOf 65 = .ok (.iload_n 1, 1) := by decide +kernel
theorem dX7_passOf_66 : decode cX7_passOf 66 = .ok (.if_icmp .ne 44, 3) := by decide +kernel
theorem dX7_passOf_69 : decode cX7_passOf 69 = .ok (.aload_n 0, 1) := by decide +kernel
theorem dX7_passOf_70 : decode cX7_passOf 70 = .ok (.getfield 22, 3) := by decide +kernel
theorem dX7_passOf_73 : decode cX7_passOf 73 = .ok (.bipush 7, 2) := by decide +kernel
theorem dX7_passOf_75 : decode cX7_passOf 75 = .ok (.iload 4, 2) := by decide +kernel
theorem dX7_passOf_77 : decode cX7_passOf 77 = .ok (.imul, 1) := by decide +kernel
theorem dX7_passOf_78 : decode cX7_passOf 78 = .ok (.iconst 1, 1) := by decide +kernel
theorem dX7_passOf_79 : decode cX7_passOf 79 = .ok (.iadd, 1) := by decide +kernel
theorem dX7_passOf_80 : decode cX7_passOf 80 = .ok (.iaload, 1) := by decide +kernel
theorem dX7_passOf_81 : decode cX7_passOf 81 = .ok (.iload_n 2, 1) := by decide +kernel
theorem dX7_passOf_82 : decode cX7_passOf 82 = .ok (.if_icmp .ne 28, 3) := by decide +kernel
theorem dX7_passOf_85 : decode cX7_passOf 85 = .ok (.iload_n 3, 1) := by decide +kernel
theorem dX7_passOf_86 : decode cX7_passOf 86 = .ok (.iconst 5, 1) := by decide +kernel
theorem dX7_passOf_87 : decode cX7_passOf 87 = .ok (.if_icmp .ne 8, 3) := by decide +kernel
theorem dX7_passOf_90 : decode cX7_passOf 90 = .ok (.iload 4, 2) := by decide +kernel
theorem dX7_passOf_92 : decode cX7_passOf 92 = .ok (.goto 17, 3) := by decide +kernel
theorem dX7_passOf_95 : decode cX7_passOf 95 = .ok (.aload_n 0, 1) := by decide +kernel
theorem dX7_passOf_96 : decode cX7_passOf 96 = .ok (.getfield 22, 3) := by decide +kernel
theorem dX7_passOf_99 : decode cX7_passOf 99 = .ok (.bipush 7, 2) := by decide +kernel
theorem dX7_passOf_101 : decode cX7_passOf 101 = .ok (.iload 4, 2) := by decide +kernel
theorem dX7_passOf_103 : decode cX7_passOf 103 = .ok (.imul, 1) := by decide +kernel
theorem dX7_passOf_104 : decode cX7_passOf 104 = .ok (.iconst 2, 1) := by decide +kernel
theorem dX7_passOf_105 : decode cX7_passOf 105 = .ok (.iadd, 1) := by decide +kernel
theorem dX7_passOf_106 : decode cX7_passOf 106 = .ok (.iload_n 3, 1) := by decide +kernel
theorem dX7_passOf_107 : decode cX7_passOf 107 = .ok (.iadd, 1) := by decide +kernel
theorem dX7_passOf_108 : decode cX7_passOf 108 = .ok (.iaload, 1) := by decide +kernel
theorem dX7_passOf_109 : decode cX7_passOf 109 = .ok (.ireturn, 1) := by decide +kernel
theorem dX7_passOf_110 : decode cX7_passOf 110 = .ok (.iinc 4 1, 3) := by decide +kernel
theorem dX7_passOf_113 : decode cX7_passOf 113 = .ok (.goto (-67), 3) := by decide +kernel
theorem dX7_passOf_116 : decode cX7_passOf 116 = .ok (.ldc 88, 2) := by decide +kernel
theorem dX7_passOf_118 : decode cX7_passOf 118 = .ok (.ireturn, 1) := by decide +kernel
theorem dX7_spillOf_0 : decode cX7_spillOf 0 = .ok (.iload_n 1, 1) := by decide +kernel
theorem dX7_spillOf_1 : decode cX7_spillOf 1 = .ok (.ifCond .lt 15, 3) := by decide +kernel
theorem dX7_spillOf_4 : decode cX7_spillOf 4 = .ok (.iload_n 2, 1) := by decide +kernel
theorem dX7_spillOf_5 : decode cX7_spillOf 5 = .ok (.i2l, 1) := by decide +kernel
theorem dX7_spillOf_6 : decode cX7_spillOf 6 = .ok (.lconst 0, 1) := by decide +kernel
theorem dX7_spillOf_7 : decode cX7_spillOf 7 = .ok (.ldc2_w 77, 3) := by decide +kernel
theorem dX7_spillOf_10 : decode cX7_spillOf 10 = .ok (.invokestatic 53, 3) := by decide +kernel
theorem dX7_spillOf_13 : decode cX7_spillOf 13 = .ok (.ifCond .ne 6, 3) := by decide +kernel
theorem dX7_spillOf_16 : decode cX7_spillOf 16 = .ok (.ldc 65, 2) := by decide +kernel
theorem dX7_spillOf_18 : decode cX7_spillOf 18 = .ok (.ireturn, 1) := by decide +kernel
theorem dX7_spillOf_19 : decode cX7_spillOf 19 = .ok (.aload_n 0, 1) := by decide +kernel
theorem dX7_spillOf_20 : decode cX7_spillOf 20 = .ok (.invokevirtual 174, 3) := by decide +kernel
theorem dX7_spillOf_23 : decode cX7_spillOf 23 = .ok (.iload_n 1, 1) := by decide +kernel
theorem dX7_spillOf_24 : decode cX7_spillOf 24 = .ok (.aload_n 0, 1) := by decide +kernel
theorem dX7_spillOf_25 : decode cX7_spillOf 25 = .ok (.getfield 128, 3) := by decide +kernel
theorem dX7_spillOf_28 : decode cX7_spillOf 28 = .ok (.if_icmp .ge 16, 3) := by decide +kernel
theorem dX7_spillOf_31 : decode cX7_spillOf 31 = .ok (.aload_n 0, 1) := by decide +kernel
theorem dX7_spillOf_32 : decode cX7_spillOf 32 = .ok (.getfield 25, 3) := by decide +kernel
theorem dX7_spillOf_35 : decode cX7_spillOf 35 = .ok (.iconst 5, 1) := by decide +kernel
theorem dX7_spillOf_36 : decode cX7_spillOf 36 = .ok (.iload_n 1, 1) := by decide +kernel
theorem dX7_spillOf_37 : decode cX7_spillOf 37 = .ok (.imul, 1) := by decide +kernel
theorem dX7_spillOf_38 : decode cX7_spillOf 38 = .ok (.iload_n 2, 1) := by decide +kernel
theorem dX7_spillOf_39 : decode cX7_spillOf 39 = .ok (.iadd, 1) := by decide +kernel
theorem dX7_spillOf_40 : decode cX7_spillOf 40 = .ok (.iaload, 1) := by decide +kernel
theorem dX7_spillOf_41 : decode cX7_spillOf 41 = .ok (.goto 5, 3) := by decide +kernel
theorem dX7_spillOf_44 : decode cX7_spillOf 44 = .ok (.ldc 88, 2) := by decide +kernel
theorem dX7_spillOf_46 : decode cX7_spillOf 46 = .ok (.ireturn, 1) := by decide +kernel
theorem dX7_writtenInAll_0 : decode cX7_writtenInAll 0 = .ok (.iconst 0, 1) := by decide +kernel
theorem dX7_writtenInAll_1 : decode cX7_writtenInAll 1 = .ok (.istore_n 1, 1) := by decide +kernel
theorem dX7_writtenInAll_2 : decode cX7_writtenInAll 2 = .ok (.iconst 0, 1) := by decide +kernel
theorem dX7_writtenInAll_3 : decode cX7_writtenInAll 3 = .ok (.istore_n 2, 1) := by decide +kernel
theorem dX7_writtenInAll_4 : decode cX7_writtenInAll 4 = .ok (.iload_n 2, 1) := by decide +kernel
theorem dX7_writtenInAll_5 : decode cX7_writtenInAll 5 = .ok (.aload_n 0, 1) := by decide +kernel
theorem dX7_writtenInAll_6 : decode cX7_writtenInAll 6 = .ok (.getfield 103, 3) := by decide +kernel
theorem dX7_writtenInAll_9 : decode cX7_writtenInAll 9 = .ok (.if_icmp .ge 23, 3) := by decide +kernel
theorem dX7_writtenInAll_12 : decode cX7_writtenInAll 12 = .ok (.iload_n 1, 1) := by decide +kernel
theorem dX7_writtenInAll_13 : decode cX7_writtenInAll 13 = .ok (.aload_n 0, 1) := by decide +kernel
theorem dX7_writtenInAll_14 : decode cX7_writtenInAll 14 = .ok (.getfield 22, 3) := by decide +kernel
theorem dX7_writtenInAll_17 : decode cX7_writtenInAll 17 = .ok (.bipush 7, 2) := by decide +kernel
theorem dX7_writtenInAll_19 : decode cX7_writtenInAll 19 = .ok (.iload_n 2, 1) := by decide +kernel
theorem dX7_writtenInAll_20 : decode cX7_writtenInAll 20 = .ok (.imul, 1) := by decide +kernel
theorem dX7_writtenInAll_21 : decode cX7_writtenInAll 21 = .ok (.iconst 5, 1) := by decide +kernel
theorem dX7_writtenInAll_22 : decode cX7_writtenInAll 22 = .ok (.iadd, 1) := by decide +kernel
theorem dX7_writtenInAll_23 : decode cX7_writtenInAll 23 = .ok (.iaload, 1) := by decide +kernel
theorem dX7_writtenInAll_24 : decode cX7_writtenInAll 24 = .ok (.iadd, 1) := by decide +kernel
theorem dX7_writtenInAll_25 : decode cX7_writtenInAll 25 = .ok (.istore_n 1, 1) := by decide +kernel
theorem dX7_writtenInAll_26 : decode cX7_writtenInAll 26 = .ok (.iinc 2 1, 3) := by decide +kernel
theorem dX7_writtenInAll_29 : decode cX7_writtenInAll 29 = .ok (.goto (-25), 3) := by decide +kernel
theorem dX7_writtenInAll_32 : decode cX7_writtenInAll 32 = .ok (.iload_n 1, 1) := by decide +kernel
theorem dX7_writtenInAll_33 : decode cX7_writtenInAll 33 = .ok (.ireturn, 1) := by decide +kernel
theorem dX7_readAgain_0 : decode cX7_readAgain 0 = .ok (.iconst 0, 1) := by decide +kernel
theorem dX7_readAgain_1 : decode cX7_readAgain 1 = .ok (.istore_n 1, 1) := by decide +kernel
theorem dX7_readAgain_2 : decode cX7_readAgain 2 = .ok (.iconst 1, 1) := by decide +kernel
theorem dX7_readAgain_3 : decode cX7_readAgain 3 = .ok (.istore_n 2, 1) := by decide +kernel
theorem dX7_readAgain_4 : decode cX7_readAgain 4 = .ok (.iload_n 2, 1) := by decide +kernel
theorem dX7_readAgain_5 : decode cX7_readAgain 5 = .ok (.aload_n 0, 1) := by decide +kernel
theorem dX7_readAgain_6 : decode cX7_readAgain 6 = .ok (.getfield 103, 3) := by decide +kernel
theorem dX7_readAgain_9 : decode cX7_readAgain 9 = .ok (.if_icmp .ge 23, 3) := by decide +kernel
theorem dX7_readAgain_12 : decode cX7_readAgain 12 = .ok (.iload_n 1, 1) := by decide +kernel
theorem dX7_readAgain_13 : decode cX7_readAgain 13 = .ok (.aload_n 0, 1) := by decide +kernel
theorem dX7_readAgain_14 : decode cX7_readAgain 14 = .ok (.getfield 22, 3) := by decide +kernel
theorem dX7_readAgain_17 : decode cX7_readAgain 17 = .ok (.bipush 7, 2) := by decide +kernel
theorem dX7_readAgain_19 : decode cX7_readAgain 19 = .ok (.iload_n 2, 1) := by decide +kernel
theorem dX7_readAgain_20 : decode cX7_readAgain 20 = .ok (.imul, 1) := by decide +kernel
theorem dX7_readAgain_21 : decode cX7_readAgain 21 = .ok (.iconst 2, 1) := by decide +kernel
theorem dX7_readAgain_22 : decode cX7_readAgain 22 = .ok (.iadd, 1) := by decide +kernel
theorem dX7_readAgain_23 : decode cX7_readAgain 23 = .ok (.iaload, 1) := by decide +kernel
theorem dX7_readAgain_24 : decode cX7_readAgain 24 = .ok (.iadd, 1) := by decide +kernel
theorem dX7_readAgain_25 : decode cX7_readAgain 25 = .ok (.istore_n 1, 1) := by decide +kernel
theorem dX7_readAgain_26 : decode cX7_readAgain 26 = .ok (.iinc 2 1, 3) := by decide +kernel
theorem dX7_readAgain_29 : decode cX7_readAgain 29 = .ok (.goto (-25), 3) := by decide +kernel
theorem dX7_readAgain_32 : decode cX7_readAgain 32 = .ok (.iload_n 1, 1) := by decide +kernel
theorem dX7_readAgain_33 : decode cX7_readAgain 33 = .ok (.ireturn, 1) := by decide +kernel
theorem dX7_greatest_0 : decode cX7_greatest 0 = .ok (.iconst 0, 1) := by decide +kernel
theorem dX7_greatest_1 : decode cX7_greatest 1 = .ok (.istore_n 2, 1) := by decide +kernel
theorem dX7_greatest_2 : decode cX7_greatest 2 = .ok (.iconst 0, 1) := by decide +kernel
theorem dX7_greatest_3 : decode cX7_greatest 3 = .ok (.istore_n 3, 1) := by decide +kernel
theorem dX7_greatest_4 : decode cX7_greatest 4 = .ok (.iload_n 3, 1) := by decide +kernel
theorem dX7_greatest_5 : decode cX7_greatest 5 = .ok (.aload_n 0, 1) := by decide +kernel
theorem dX7_greatest_6 : decode cX7_greatest 6 = .ok (.getfield 103, 3) := by decide +kernel
theorem dX7_greatest_9 : decode cX7_greatest 9 = .ok (.if_icmp .ge 40, 3) := by decide +kernel
theorem dX7_greatest_12 : decode cX7_greatest 12 = .ok (.aload_n 0, 1) := by decide +kernel
theorem dX7_greatest_13 : decode cX7_greatest 13 = .ok (.getfield 22, 3) := by decide +kernel
theorem dX7_greatest_16 : decode cX7_greatest 16 = .ok (.bipush 7, 2) := by decide +kernel
theorem dX7_greatest_18 : decode cX7_greatest 18 = .ok (.iload_n 3, 1) := by decide +kernel
theorem dX7_greatest_19 : decode cX7_greatest 19 = .ok (.imul, 1) := by decide +kernel
theorem dX7_greatest_20 : decode cX7_greatest 20 = .ok (.iload_n 1, 1) := by decide +kernel
theorem dX7_greatest_21 : decode cX7_greatest 21 = .ok (.iadd, 1) := by decide +kernel
theorem dX7_greatest_22 : decode cX7_greatest 22 = .ok (.iaload, 1) := by decide +kernel
theorem dX7_greatest_23 : decode cX7_greatest 23 = .ok (.iload_n 2, 1) := by decide +kernel
theorem dX7_greatest_24 : decode cX7_greatest 24 = .ok (.if_icmp .le 17, 3) := by decide +kernel
theorem dX7_greatest_27 : decode cX7_greatest 27 = .ok (.aload_n 0, 1) := by decide +kernel
theorem dX7_greatest_28 : decode cX7_greatest 28 = .ok (.getfield 22, 3) := by decide +kernel
theorem dX7_greatest_31 : decode cX7_greatest 31 = .ok (.bipush 7, 2) := by decide +kernel
theorem dX7_greatest_33 : decode cX7_greatest 33 = .ok (.iload_n 3, 1) := by decide +kernel
theorem dX7_greatest_34 : decode cX7_greatest 34 = .ok (.imul, 1) := by decide +kernel
theorem dX7_greatest_35 : decode cX7_greatest 35 = .ok (.iload_n 1, 1) := by decide +kernel
theorem dX7_greatest_36 : decode cX7_greatest 36 = .ok (.iadd, 1) := by decide +kernel
theorem dX7_greatest_37 : decode cX7_greatest 37 = .ok (.iaload, 1) := by decide +kernel
theorem dX7_greatest_38 : decode cX7_greatest 38 = .ok (.goto 4, 3) := by decide +kernel
theorem dX7_greatest_41 : decode cX7_greatest 41 = .ok (.iload_n 2, 1) := by decide +kernel
theorem dX7_greatest_42 : decode cX7_greatest 42 = .ok (.istore_n 2, 1) := by decide +kernel
theorem dX7_greatest_43 : decode cX7_greatest 43 = .ok (.iinc 3 1, 3) := by decide +kernel
theorem dX7_greatest_46 : decode cX7_greatest 46 = .ok (.goto (-42), 3) := by decide +kernel
theorem dX7_greatest_49 : decode cX7_greatest 49 = .ok (.iload_n 2, 1) := by decide +kernel
theorem dX7_greatest_50 : decode cX7_greatest 50 = .ok (.ireturn, 1) := by decide +kernel
theorem dX7_total_0 : decode cX7_total 0 = .ok (.aload_n 0, 1) := by decide +kernel
theorem dX7_total_1 : decode cX7_total 1 = .ok (.invokevirtual 174, 3) := by decide +kernel
theorem dX7_total_4 : decode cX7_total 4 = .ok (.iload_n 1, 1) := by decide +kernel
theorem dX7_total_5 : decode cX7_total 5 = .ok (.tableswitch 90 0 7 #[47, 52, 57, 62, 67, 72, 78, 85], 47) := by decide +kernel
theorem dX7_total_52 : decode cX7_total 52 = .ok (.aload_n 0, 1) := by decide +kernel
theorem dX7_total_53 : decode cX7_total 53 = .ok (.getfield 149, 3) := by decide +kernel
theorem dX7_total_56 : decode cX7_total 56 = .ok (.ireturn, 1) := by decide +kernel
theorem dX7_total_57 : decode cX7_total 57 = .ok (.aload_n 0, 1) := by decide +kernel
theorem dX7_total_58 : decode cX7_total 58 = .ok (.getfield 103, 3) := by decide +kernel
theorem dX7_total_61 : decode cX7_total 61 = .ok (.ireturn, 1) := by decide +kernel
theorem dX7_total_62 : decode cX7_total 62 = .ok (.aload_n 0, 1) := by decide +kernel
theorem dX7_total_63 : decode cX7_total 63 = .ok (.getfield 128, 3) := by decide +kernel
theorem dX7_total_66 : decode cX7_total 66 = .ok (.ireturn, 1) := by decide +kernel
theorem dX7_total_67 : decode cX7_total 67 = .ok (.aload_n 0, 1) := by decide +kernel
theorem dX7_total_68 : decode cX7_total 68 = .ok (.invokevirtual 181, 3) := by decide +kernel
theorem dX7_total_71 : decode cX7_total 71 = .ok (.ireturn, 1) := by decide +kernel
theorem dX7_total_72 : decode cX7_total 72 = .ok (.aload_n 0, 1) := by decide +kernel
theorem dX7_total_73 : decode cX7_total 73 = .ok (.invokevirtual 185, 3) := by decide +kernel
theorem dX7_total_76 : decode cX7_total 76 = .ok (.ireturn, 1) := by decide +kernel
theorem dX7_total_77 : decode cX7_total 77 = .ok (.aload_n 0, 1) := by decide +kernel
theorem dX7_total_78 : decode cX7_total 78 = .ok (.iconst 0, 1) := by decide +kernel
theorem dX7_total_79 : decode cX7_total 79 = .ok (.invokevirtual 188, 3) := by decide +kernel
theorem dX7_total_82 : decode cX7_total 82 = .ok (.ireturn, 1) := by decide +kernel
theorem dX7_total_83 : decode cX7_total 83 = .ok (.aload_n 0, 1) := by decide +kernel
theorem dX7_total_84 : decode cX7_total 84 = .ok (.bipush 6, 2) := by decide +kernel
theorem dX7_total_86 : decode cX7_total 86 = .ok (.invokevirtual 188, 3) := by decide +kernel
theorem dX7_total_89 : decode cX7_total 89 = .ok (.ireturn, 1) := by decide +kernel
theorem dX7_total_90 : decode cX7_total 90 = .ok (.aload_n 0, 1) := by decide +kernel
theorem dX7_total_91 : decode cX7_total 91 = .ok (.getfield 143, 3) := by decide +kernel
theorem dX7_total_94 : decode cX7_total 94 = .ok (.ireturn, 1) := by decide +kernel
theorem dX7_total_95 : decode cX7_total 95 = .ok (.ldc 65, 2) := by decide +kernel
theorem dX7_total_97 : decode cX7_total 97 = .ok (.ireturn, 1) := by decide +kernel
theorem dX7_writtenBy_0 : decode cX7_writtenBy 0 = .ok (.aload_n 0, 1) := by decide +kernel
theorem dX7_writtenBy_1 : decode cX7_writtenBy 1 = .ok (.iload_n 1, 1) := by decide +kernel
theorem dX7_writtenBy_2 : decode cX7_writtenBy 2 = .ok (.iload_n 2, 1) := by decide +kernel
theorem dX7_writtenBy_3 : decode cX7_writtenBy 3 = .ok (.invokevirtual 169, 3) := by decide +kernel
theorem dX7_writtenBy_6 : decode cX7_writtenBy 6 = .ok (.aload_n 0, 1) := by decide +kernel
theorem dX7_writtenBy_7 : decode cX7_writtenBy 7 = .ok (.invokevirtual 181, 3) := by decide +kernel
theorem dX7_writtenBy_10 : decode cX7_writtenBy 10 = .ok (.ireturn, 1) := by decide +kernel
theorem dX7_written_0 : decode cX7_written 0 = .ok (.iload_n 1, 1) := by decide +kernel
theorem dX7_written_1 : decode cX7_written 1 = .ok (.i2l, 1) := by decide +kernel
theorem dX7_written_2 : decode cX7_written 2 = .ok (.lconst 1, 1) := by decide +kernel
theorem dX7_written_3 : decode cX7_written 3 = .ok (.ldc2_w 75, 3) := by decide +kernel
theorem dX7_written_6 : decode cX7_written 6 = .ok (.invokestatic 53, 3) := by decide +kernel
theorem dX7_written_9 : decode cX7_written 9 = .ok (.ifCond .eq 24, 3) := by decide +kernel
theorem dX7_written_12 : decode cX7_written 12 = .ok (.iload_n 2, 1) := by decide +kernel
theorem dX7_written_13 : decode cX7_written 13 = .ok (.i2l, 1) := by decide +kernel
theorem dX7_written_14 : decode cX7_written 14 = .ok (.lconst 1, 1) := by decide +kernel
theorem dX7_written_15 : decode cX7_written 15 = .ok (.ldc2_w 77, 3) := by decide +kernel
theorem dX7_written_18 : decode cX7_written 18 = .ok (.invokestatic 53, 3) := by decide +kernel
theorem dX7_written_21 : decode cX7_written 21 = .ok (.ifCond .eq 12, 3) := by decide +kernel
theorem dX7_written_24 : decode cX7_written 24 = .ok (.aload_n 0, 1) := by decide +kernel
theorem dX7_written_25 : decode cX7_written 25 = .ok (.iload_n 1, 1) := by decide +kernel
theorem dX7_written_26 : decode cX7_written 26 = .ok (.iload_n 2, 1) := by decide +kernel
theorem dX7_written_27 : decode cX7_written 27 = .ok (.invokevirtual 191, 3) := by decide +kernel
theorem dX7_written_30 : decode cX7_written 30 = .ok (.goto 5, 3) := by decide +kernel
theorem dX7_written_33 : decode cX7_written 33 = .ok (.ldc 65, 2) := by decide +kernel
theorem dX7_written_35 : decode cX7_written 35 = .ok (.ireturn, 1) := by decide +kernel
theorem dX7_bestBits_0 : decode cX7_bestBits 0 = .ok (.iload_n 1, 1) := by decide +kernel
theorem dX7_bestBits_1 : decode cX7_bestBits 1 = .ok (.i2l, 1) := by decide +kernel
theorem dX7_bestBits_2 : decode cX7_bestBits 2 = .ok (.lconst 1, 1) := by decide +kernel
theorem dX7_bestBits_3 : decode cX7_bestBits 3 = .ok (.ldc2_w 75, 3) := by decide +kernel
theorem dX7_bestBits_6 : decode cX7_bestBits 6 = .ok (.invokestatic 53, 3) := by decide +kernel
theorem dX7_bestBits_9 : decode cX7_bestBits 9 = .ok (.ifCond .eq 13, 3) := by decide +kernel
theorem dX7_bestBits_12 : decode cX7_bestBits 12 = .ok (.iload_n 2, 1) := by decide +kernel
theorem dX7_bestBits_13 : decode cX7_bestBits 13 = .ok (.i2l, 1) := by decide +kernel
theorem dX7_bestBits_14 : decode cX7_bestBits 14 = .ok (.lconst 0, 1) := by decide +kernel
theorem dX7_bestBits_15 : decode cX7_bestBits 15 = .ok (.lconst 1, 1) := by decide +kernel
theorem dX7_bestBits_16 : decode cX7_bestBits 16 = .ok (.invokestatic 53, 3) := by decide +kernel
theorem dX7_bestBits_19 : decode cX7_bestBits 19 = .ok (.ifCond .ne 6, 3) := by decide +kernel
theorem dX7_bestBits_22 : decode cX7_bestBits 22 = .ok (.ldc 65, 2) := by decide +kernel
theorem dX7_bestBits_24 : decode cX7_bestBits 24 = .ok (.ireturn, 1) := by decide +kernel
theorem dX7_bestBits_25 : decode cX7_bestBits 25 = .ok (.iconst 1, 1) := by decide +kernel
theorem dX7_bestBits_26 : decode cX7_bestBits 26 = .ok (.istore_n 3, 1) := by decide +kernel
theorem dX7_bestBits_27 : decode cX7_bestBits 27 = .ok (.aload_n 0, 1) := by decide +kernel
theorem dX7_bestBits_28 : decode cX7_bestBits 28 = .ok (.iload_n 1, 1) := by decide +kernel
theorem dX7_bestBits_29 : decode cX7_bestBits 29 = .ok (.iconst 1, 1) := by decide +kernel
theorem dX7_bestBits_30 : decode cX7_bestBits 30 = .ok (.invokevirtual 191, 3) := by decide +kernel
theorem dX7_bestBits_33 : decode cX7_bestBits 33 = .ok (.istore 4, 2) := by decide +kernel
theorem dX7_bestBits_35 : decode cX7_bestBits 35 = .ok (.iconst 2, 1) := by decide +kernel
theorem dX7_bestBits_36 : decode cX7_bestBits 36 = .ok (.istore 5, 2) := by decide +kernel
theorem dX7_bestBits_38 : decode cX7_bestBits 38 = .ok (.iload 5, 2) := by decide +kernel
theorem dX7_bestBits_40 : decode cX7_bestBits 40 = .ok (.iconst 4, 1) := by decide +kernel
theorem dX7_bestBits_41 : decode cX7_bestBits 41 = .ok (.if_icmp .gt 48, 3) := by decide +kernel
theorem dX7_bestBits_44 : decode cX7_bestBits 44 = .ok (.aload_n 0, 1) := by decide +kernel
theorem dX7_bestBits_45 : decode cX7_bestBits 45 = .ok (.iload_n 1, 1) := by decide +kernel
theorem dX7_bestBits_46 : decode cX7_bestBits 46 = .ok (.iload 5, 2) := by decide +kernel
theorem dX7_bestBits_48 : decode cX7_bestBits 48 = .ok (.invokevirtual 191, 3) := by decide +kernel
theorem dX7_bestBits_51 : decode cX7_bestBits 51 = .ok (.istore 6, 2) := by decide +kernel
theorem dX7_bestBits_53 : decode cX7_bestBits 53 = .ok (.iload 6, 2) := by decide +kernel
theorem dX7_bestBits_55 : decode cX7_bestBits 55 = .ok (.iload 4, 2) := by decide +kernel
theorem dX7_bestBits_57 : decode cX7_bestBits 57 = .ok (.if_icmp .ge 8, 3) := by decide +kernel
theorem dX7_bestBits_60 : decode cX7_bestBits 60 = .ok (.iload 5, 2) := by decide +kernel
theorem dX7_bestBits_62 : decode cX7_bestBits 62 = .ok (.goto 4, 3) := by decide +kernel
theorem dX7_bestBits_65 : decode cX7_bestBits 65 = .ok (.iload_n 3, 1) := by decide +kernel
theorem dX7_bestBits_66 : decode cX7_bestBits 66 = .ok (.istore_n 3, 1) := by decide +kernel
theorem dX7_bestBits_67 : decode cX7_bestBits 67 = .ok (.iload 6, 2) := by decide +kernel
theorem dX7_bestBits_69 : decode cX7_bestBits 69 = .ok (.iload 4, 2) := by decide +kernel
theorem dX7_bestBits_71 : decode cX7_bestBits 71 = .ok (.if_icmp .ge 8, 3) := by decide +kernel
theorem dX7_bestBits_74 : decode cX7_bestBits 74 = .ok (.iload 6, 2) := by decide +kernel
theorem dX7_bestBits_76 : decode cX7_bestBits 76 = .ok (.goto 5, 3) := by decide +kernel
theorem dX7_bestBits_79 : decode cX7_bestBits 79 = .ok (.iload 4, 2) := by decide +kernel
theorem dX7_bestBits_81 : decode cX7_bestBits 81 = .ok (.istore 4, 2) := by decide +kernel
theorem dX7_bestBits_83 : decode cX7_bestBits 83 = .ok (.iinc 5 1, 3) := by decide +kernel
theorem dX7_bestBits_86 : decode cX7_bestBits 86 = .ok (.goto (-48), 3) := by decide +kernel
theorem dX7_bestBits_89 : decode cX7_bestBits 89 = .ok (.iload_n 2, 1) := by decide +kernel
theorem dX7_bestBits_90 : decode cX7_bestBits 90 = .ok (.ifCond .ne 7, 3) := by decide +kernel
theorem dX7_bestBits_93 : decode cX7_bestBits 93 = .ok (.iload_n 3, 1) := by decide +kernel
theorem dX7_bestBits_94 : decode cX7_bestBits 94 = .ok (.goto 5, 3) := by decide +kernel
theorem dX7_bestBits_97 : decode cX7_bestBits 97 = .ok (.iload 4, 2) := by decide +kernel
theorem dX7_bestBits_99 : decode cX7_bestBits 99 = .ok (.ireturn, 1) := by decide +kernel
theorem dX7_enough_0 : decode cX7_enough 0 = .ok (.iconst 1, 1) := by decide +kernel
theorem dX7_enough_1 : decode cX7_enough 1 = .ok (.istore_n 1, 1) := by decide +kernel
theorem dX7_enough_2 : decode cX7_enough 2 = .ok (.iload_n 1, 1) := by decide +kernel
theorem dX7_enough_3 : decode cX7_enough 3 = .ok (.bipush 12, 2) := by decide +kernel
theorem dX7_enough_5 : decode cX7_enough 5 = .ok (.if_icmp .gt 29, 3) := by decide +kernel
theorem dX7_enough_8 : decode cX7_enough 8 = .ok (.aload_n 0, 1) := by decide +kernel
theorem dX7_enough_9 : decode cX7_enough 9 = .ok (.iload_n 1, 1) := by decide +kernel
theorem dX7_enough_10 : decode cX7_enough 10 = .ok (.aload_n 0, 1) := by decide +kernel
theorem dX7_enough_11 : decode cX7_enough 11 = .ok (.getfield 7, 3) := by decide +kernel
theorem dX7_enough_14 : decode cX7_enough 14 = .ok (.iconst 2, 1) := by decide +kernel
theorem dX7_enough_15 : decode cX7_enough 15 = .ok (.iaload, 1) := by decide +kernel
theorem dX7_enough_16 : decode cX7_enough 16 = .ok (.invokevirtual 169, 3) := by decide +kernel
theorem dX7_enough_19 : decode cX7_enough 19 = .ok (.aload_n 0, 1) := by decide +kernel
theorem dX7_enough_20 : decode cX7_enough 20 = .ok (.getfield 128, 3) := by decide +kernel
theorem dX7_enough_23 : decode cX7_enough 23 = .ok (.ifCond .ne 5, 3) := by decide +kernel
theorem dX7_enough_26 : decode cX7_enough 26 = .ok (.iload_n 1, 1) := by decide +kernel
theorem dX7_enough_27 : decode cX7_enough 27 = .ok (.ireturn, 1) := by decide +kernel
theorem dX7_enough_28 : decode cX7_enough 28 = .ok (.iinc 1 1, 3) := by decide +kernel
theorem dX7_enough_31 : decode cX7_enough 31 = .ok (.goto (-29), 3) := by decide +kernel
theorem dX7_enough_34 : decode cX7_enough 34 = .ok (.ldc 88, 2) := by decide +kernel
theorem dX7_enough_36 : decode cX7_enough 36 = .ok (.ireturn, 1) := by decide +kernel
theorem dX7_rowsIn_0 : decode cX7_rowsIn 0 = .ok (.iconst 0, 1) := by decide +kernel
theorem dX7_rowsIn_1 : decode cX7_rowsIn 1 = .ok (.istore_n 2, 1) := by decide +kernel
theorem dX7_rowsIn_2 : decode cX7_rowsIn 2 = .ok (.iconst 0, 1) := by decide +kernel
theorem dX7_rowsIn_3 : decode cX7_rowsIn 3 = .ok (.istore_n 3, 1) := by decide +kernel
theorem dX7_rowsIn_4 : decode cX7_rowsIn 4 = .ok (.iload_n 3, 1) := by decide +kernel
theorem dX7_rowsIn_5 : decode cX7_rowsIn 5 = .ok (.aload_n 0, 1) := by decide +kernel
theorem dX7_rowsIn_6 : decode cX7_rowsIn 6 = .ok (.getfield 7, 3) := by decide +kernel
theorem dX7_rowsIn_9 : decode cX7_rowsIn 9 = .ok (.iconst 0, 1) := by decide +kernel
theorem dX7_rowsIn_10 : decode cX7_rowsIn 10 = .ok (.iaload, 1) := by decide +kernel
theorem dX7_rowsIn_11 : decode cX7_rowsIn 11 = .ok (.if_icmp .ge 40, 3) := by decide +kernel
theorem dX7_rowsIn_14 : decode cX7_rowsIn 14 = .ok (.iload_n 2, 1) := by decide +kernel
theorem dX7_rowsIn_15 : decode cX7_rowsIn 15 = .ok (.aload_n 0, 1) := by decide +kernel
theorem dX7_rowsIn_16 : decode cX7_rowsIn 16 = .ok (.aload_n 0, 1) := by decide +kernel
theorem dX7_rowsIn_17 : decode cX7_rowsIn 17 = .ok (.getfield 7, 3) := by decide +kernel
theorem dX7_rowsIn_20 : decode cX7_rowsIn 20 = .ok (.iconst 4, 1) := by decide +kernel
theorem dX7_rowsIn_21 : decode cX7_rowsIn 21 = .ok (.iload_n 3, 1) := by decide +kernel
theorem dX7_rowsIn_22 : decode cX7_rowsIn 22 = .ok (.iadd, 1) := by decide +kernel
theorem dX7_rowsIn_23 : decode cX7_rowsIn 23 = .ok (.iaload, 1) := by decide +kernel
theorem dX7_rowsIn_24 : decode cX7_rowsIn 24 = .ok (.iconst 0, 1) := by decide +kernel
theorem dX7_rowsIn_25 : decode cX7_rowsIn 25 = .ok (.aload_n 0, 1) := by decide +kernel
theorem dX7_rowsIn_26 : decode cX7_rowsIn 26 = .ok (.getfield 7, 3) := by decide +kernel
theorem dX7_rowsIn_29 : decode cX7_rowsIn 29 = .ok (.iconst 2, 1) := by decide +kernel
theorem dX7_rowsIn_30 : decode cX7_rowsIn 30 = .ok (.iaload, 1) := by decide +kernel
theorem dX7_rowsIn_31 : decode cX7_rowsIn 31 = .ok (.invokevirtual 89, 3) := by decide +kernel
theorem dX7_rowsIn_34 : decode cX7_rowsIn 34 = .ok (.iload_n 1, 1) := by decide +kernel
theorem dX7_rowsIn_35 : decode cX7_rowsIn 35 = .ok (.if_icmp .ne 7, 3) := by decide +kernel
theorem dX7_rowsIn_38 : decode cX7_rowsIn 38 = .ok (.iconst 1, 1) := by decide +kernel
theorem dX7_rowsIn_39 : decode cX7_rowsIn 39 = .ok (.goto 4, 3) := by decide +kernel
theorem dX7_rowsIn_42 : decode cX7_rowsIn 42 = .ok (.iconst 0, 1) := by decide +kernel
theorem dX7_rowsIn_43 : decode cX7_rowsIn 43 = .ok (.iadd, 1) := by decide +kernel
theorem dX7_rowsIn_44 : decode cX7_rowsIn 44 = .ok (.istore_n 2, 1) := by decide +kernel
theorem dX7_rowsIn_45 : decode cX7_rowsIn 45 = .ok (.iinc 3 1, 3) := by decide +kernel
theorem dX7_rowsIn_48 : decode cX7_rowsIn 48 = .ok (.goto (-44), 3) := by decide +kernel
theorem dX7_rowsIn_51 : decode cX7_rowsIn 51 = .ok (.iload_n 2, 1) := by decide +kernel
theorem dX7_rowsIn_52 : decode cX7_rowsIn 52 = .ok (.ireturn, 1) := by decide +kernel
theorem dX7_isFirst_0 : decode cX7_isFirst 0 = .ok (.iconst 1, 1) := by decide +kernel
theorem dX7_isFirst_1 : decode cX7_isFirst 1 = .ok (.istore_n 2, 1) := by decide +kernel
theorem dX7_isFirst_2 : decode cX7_isFirst 2 = .ok (.iconst 0, 1) := by decide +kernel
theorem dX7_isFirst_3 : decode cX7_isFirst 3 = .ok (.istore_n 3, 1) := by decide +kernel
theorem dX7_isFirst_4 : decode cX7_isFirst 4 = .ok (.iload_n 3, 1) := by decide +kernel
theorem dX7_isFirst_5 : decode cX7_isFirst 5 = .ok (.iload_n 1, 1) := by decide +kernel
theorem dX7_isFirst_6 : decode cX7_isFirst 6 = .ok (.if_icmp .ge 38, 3) := by decide +kernel
theorem dX7_isFirst_9 : decode cX7_isFirst 9 = .ok (.iload_n 2, 1) := by decide +kernel
theorem dX7_isFirst_10 : decode cX7_isFirst 10 = .ok (.ifCond .eq 26, 3) := by decide +kernel
theorem dX7_isFirst_13 : decode cX7_isFirst 13 = .ok (.aload_n 0, 1) := by decide +kernel
theorem dX7_isFirst_14 : decode cX7_isFirst 14 = .ok (.getfield 7, 3) := by decide +kernel
theorem dX7_isFirst_17 : decode cX7_isFirst 17 = .ok (.iconst 4, 1) := by decide +kernel
theorem dX7_isFirst_18 : decode cX7_isFirst 18 = .ok (.iload_n 3, 1) := by decide +kernel
theorem dX7_isFirst_19 : decode cX7_isFirst 19 = .ok (.iadd, 1) := by decide +kernel
theorem dX7_isFirst_20 : decode cX7_isFirst 20 = .ok (.iaload, 1) := by decide +kernel
theorem dX7_isFirst_21 : decode cX7_isFirst 21 = .ok (.aload_n 0, 1) := by decide +kernel
theorem dX7_isFirst_22 : decode cX7_isFirst 22 = .ok (.getfield 7, 3) := by decide +kernel
theorem dX7_isFirst_25 : decode cX7_isFirst 25 = .ok (.iconst 4, 1) := by decide +kernel
theorem dX7_isFirst_26 : decode cX7_isFirst 26 = .ok (.iload_n 1, 1) := by decide +kernel
theorem dX7_isFirst_27 : decode cX7_isFirst 27 = .ok (.iadd, 1) := by decide +kernel
theorem dX7_isFirst_28 : decode cX7_isFirst 28 = .ok (.iaload, 1) := by decide +kernel
theorem dX7_isFirst_29 : decode cX7_isFirst 29 = .ok (.if_icmp .eq 7, 3) := by decide +kernel
theorem dX7_isFirst_32 : decode cX7_isFirst 32 = .ok (.iconst 1, 1) := by decide +kernel
theorem dX7_isFirst_33 : decode cX7_isFirst 33 = .ok (.goto 4, 3) := by decide +kernel
theorem dX7_isFirst_36 : decode cX7_isFirst 36 = .ok (.iconst 0, 1) := by decide +kernel
theorem dX7_isFirst_37 : decode cX7_isFirst 37 = .ok (.istore_n 2, 1) := by decide +kernel
theorem dX7_isFirst_38 : decode cX7_isFirst 38 = .ok (.iinc 3 1, 3) := by decide +kernel
theorem dX7_isFirst_41 : decode cX7_isFirst 41 = .ok (.goto (-37), 3) := by decide +kernel
theorem dX7_isFirst_44 : decode cX7_isFirst 44 = .ok (.iload_n 2, 1) := by decide +kernel
theorem dX7_isFirst_45 : decode cX7_isFirst 45 = .ok (.ireturn, 1) := by decide +kernel
theorem dX7_groupsIn_0 : decode cX7_groupsIn 0 = .ok (.iconst 0, 1) := by decide +kernel
theorem dX7_groupsIn_1 : decode cX7_groupsIn 1 = .ok (.istore_n 2, 1) := by decide +kernel
theorem dX7_groupsIn_2 : decode cX7_groupsIn 2 = .ok (.iconst 0, 1) := by decide +kernel
theorem dX7_groupsIn_3 : decode cX7_groupsIn 3 = .ok (.istore_n 3, 1) := by decide +kernel
theorem dX7_groupsIn_4 : decode cX7_groupsIn 4 = .ok (.iload_n 3, 1) := by decide +kernel
theorem dX7_groupsIn_5 : decode cX7_groupsIn 5 = .ok (.aload_n 0, 1) := by decide +kernel
theorem dX7_groupsIn_6 : decode cX7_groupsIn 6 = .ok (.getfield 7, 3) := by decide +kernel
theorem dX7_groupsIn_9 : decode cX7_groupsIn 9 = .ok (.iconst 0, 1) := by decide +kernel
theorem dX7_groupsIn_10 : decode cX7_groupsIn 10 = .ok (.iaload, 1) := by decide +kernel
theorem dX7_groupsIn_11 : decode cX7_groupsIn 11 = .ok (.if_icmp .ge 48, 3) := by decide +kernel
theorem dX7_groupsIn_14 : decode cX7_groupsIn 14 = .ok (.iload_n 2, 1) := by decide +kernel
theorem dX7_groupsIn_15 : decode cX7_groupsIn 15 = .ok (.aload_n 0, 1) := by decide +kernel
theorem dX7_groupsIn_16 : decode cX7_groupsIn 16 = .ok (.aload_n 0, 1) := by decide +kernel
theorem dX7_groupsIn_17 : decode cX7_groupsIn 17 = .ok (.getfield 7, 3) := by decide +kernel
theorem dX7_groupsIn_20 : decode cX7_groupsIn 20 = .ok (.iconst 4, 1) := by decide +kernel
theorem dX7_groupsIn_21 : decode cX7_groupsIn 21 = .ok (.iload_n 3, 1) := by decide +kernel
theorem dX7_groupsIn_22 : decode cX7_groupsIn 22 = .ok (.iadd, 1) := by decide +kernel
theorem dX7_groupsIn_23 : decode cX7_groupsIn 23 = .ok (.iaload, 1) := by decide +kernel
theorem dX7_groupsIn_24 : decode cX7_groupsIn 24 = .ok (.iconst 0, 1) := by decide +kernel
theorem dX7_groupsIn_25 : decode cX7_groupsIn 25 = .ok (.aload_n 0, 1) := by decide +kernel
theorem dX7_groupsIn_26 : decode cX7_groupsIn 26 = .ok (.getfield 7, 3) := by decide +kernel
theorem dX7_groupsIn_29 : decode cX7_groupsIn 29 = .ok (.iconst 2, 1) := by decide +kernel
theorem dX7_groupsIn_30 : decode cX7_groupsIn 30 = .ok (.iaload, 1) := by decide +kernel
theorem dX7_groupsIn_31 : decode cX7_groupsIn 31 = .ok (.invokevirtual 89, 3) := by decide +kernel
theorem dX7_groupsIn_34 : decode cX7_groupsIn 34 = .ok (.iload_n 1, 1) := by decide +kernel
theorem dX7_groupsIn_35 : decode cX7_groupsIn 35 = .ok (.if_icmp .ne 15, 3) := by decide +kernel
theorem dX7_groupsIn_38 : decode cX7_groupsIn 38 = .ok (.aload_n 0, 1) := by decide +kernel
theorem dX7_groupsIn_39 : decode cX7_groupsIn 39 = .ok (.iload_n 3, 1) := by decide +kernel
theorem dX7_groupsIn_40 : decode cX7_groupsIn 40 = .ok (.invokevirtual 194, 3) := by decide +kernel
theorem dX7_groupsIn_43 : decode cX7_groupsIn 43 = .ok (.ifCond .eq 7, 3) := by decide +kernel
theorem dX7_groupsIn_46 : decode cX7_groupsIn 46 = .ok (.iconst 1, 1) := by decide +kernel
theorem dX7_groupsIn_47 : decode cX7_groupsIn 47 = .ok (.goto 4, 3) := by decide +kernel
theorem dX7_groupsIn_50 : decode cX7_groupsIn 50 = .ok (.iconst 0, 1) := by decide +kernel
theorem dX7_groupsIn_51 : decode cX7_groupsIn 51 = .ok (.iadd, 1) := by decide +kernel
theorem dX7_groupsIn_52 : decode cX7_groupsIn 52 = .ok (.istore_n 2, 1) := by decide +kernel
theorem dX7_groupsIn_53 : decode cX7_groupsIn 53 = .ok (.iinc 3 1, 3) := by decide +kernel
theorem dX7_groupsIn_56 : decode cX7_groupsIn 56 = .ok (.goto (-52), 3) := by decide +kernel
theorem dX7_groupsIn_59 : decode cX7_groupsIn 59 = .ok (.iload_n 2, 1) := by decide +kernel
theorem dX7_groupsIn_60 : decode cX7_groupsIn 60 = .ok (.ireturn, 1) := by decide +kernel
theorem dX7_skewed_0 : decode cX7_skewed 0 = .ok (.iload_n 1, 1) := by decide +kernel
theorem dX7_skewed_1 : decode cX7_skewed 1 = .ok (.i2l, 1) := by decide +kernel
theorem dX7_skewed_2 : decode cX7_skewed 2 = .ok (.lconst 0, 1) := by decide +kernel
theorem dX7_skewed_3 : decode cX7_skewed 3 = .ok (.ldc2_w 197, 3) := by decide +kernel
theorem dX7_skewed_6 : decode cX7_skewed 6 = .ok (.invokestatic 53, 3) := by decide +kernel
theorem dX7_skewed_9 : decode cX7_skewed 9 = .ok (.ifCond .ne 6, 3) := by decide +kernel
theorem dX7_skewed_12 : decode cX7_skewed 12 = .ok (.ldc 65, 2) := by decide +kernel
theorem dX7_skewed_14 : decode cX7_skewed 14 = .ok (.ireturn, 1) := by decide +kernel
theorem dX7_skewed_15 : decode cX7_skewed 15 = .ok (.aload_n 0, 1) := by decide +kernel
theorem dX7_skewed_16 : decode cX7_skewed 16 = .ok (.getfield 7, 3) := by decide +kernel
theorem dX7_skewed_19 : decode cX7_skewed 19 = .ok (.iconst 0, 1) := by decide +kernel
theorem dX7_skewed_20 : decode cX7_skewed 20 = .ok (.iaload, 1) := by decide +kernel
theorem dX7_skewed_21 : decode cX7_skewed 21 = .ok (.ifCond .ne 6, 3) := by decide +kernel
theorem dX7_skewed_24 : decode cX7_skewed 24 = .ok (.ldc 88, 2) := by decide +kernel
theorem dX7_skewed_26 : decode cX7_skewed 26 = .ok (.ireturn, 1) := by decide +kernel
theorem dX7_skewed_27 : decode cX7_skewed 27 = .ok (.iconst 0, 1) := by decide +kernel
theorem dX7_skewed_28 : decode cX7_skewed 28 = .ok (.istore_n 2, 1) := by decide +kernel
theorem dX7_skewed_29 : decode cX7_skewed 29 = .ok (.iconst 1, 1) := by decide +kernel
theorem dX7_skewed_30 : decode cX7_skewed 30 = .ok (.istore_n 3, 1) := by decide +kernel
theorem dX7_skewed_31 : decode cX7_skewed 31 = .ok (.iload_n 3, 1) := by decide +kernel
theorem dX7_skewed_32 : decode cX7_skewed 32 = .ok (.iconst 1, 1) := by decide +kernel
theorem dX7_skewed_33 : decode cX7_skewed 33 = .ok (.aload_n 0, 1) := by decide +kernel
theorem dX7_skewed_34 : decode cX7_skewed 34 = .ok (.getfield 7, 3) := by decide +kernel
theorem dX7_skewed_37 : decode cX7_skewed 37 = .ok (.iconst 2, 1) := by decide +kernel
theorem dX7_skewed_38 : decode cX7_skewed 38 = .ok (.iaload, 1) := by decide +kernel
theorem dX7_skewed_39 : decode cX7_skewed 39 = .ok (.ishl, 1) := by decide +kernel
theorem dX7_skewed_40 : decode cX7_skewed 40 = .ok (.if_icmp .ge 28, 3) := by decide +kernel
theorem dX7_skewed_43 : decode cX7_skewed 43 = .ok (.aload_n 0, 1) := by decide +kernel
theorem dX7_skewed_44 : decode cX7_skewed 44 = .ok (.iload_n 3, 1) := by decide +kernel
theorem dX7_skewed_45 : decode cX7_skewed 45 = .ok (.invokevirtual 199, 3) := by decide +kernel
theorem dX7_skewed_48 : decode cX7_skewed 48 = .ok (.aload_n 0, 1) := by decide +kernel
theorem dX7_skewed_49 : decode cX7_skewed 49 = .ok (.iload_n 2, 1) := by decide +kernel
theorem dX7_skewed_50 : decode cX7_skewed 50 = .ok (.invokevirtual 199, 3) := by decide +kernel
theorem dX7_skewed_53 : decode cX7_skewed 53 = .ok (.if_icmp .le 7, 3) := by decide +kernel
theorem dX7_skewed_56 : decode cX7_skewed 56 = .ok (.iload_n 3, 1) := by decide +kernel
theorem dX7_skewed_57 : decode cX7_skewed 57 = .ok (.goto 4, 3) := by decide +kernel
theorem dX7_skewed_60 : decode cX7_skewed 60 = .ok (.iload_n 2, 1) := by decide +kernel
theorem dX7_skewed_61 : decode cX7_skewed 61 = .ok (.istore_n 2, 1) := by decide +kernel
theorem dX7_skewed_62 : decode cX7_skewed 62 = .ok (.iinc 3 1, 3) := by decide +kernel
theorem dX7_skewed_65 : decode cX7_skewed 65 = .ok (.goto (-34), 3) := by decide +kernel
theorem dX7_skewed_68 : decode cX7_skewed 68 = .ok (.iload_n 1, 1) := by decide +kernel
theorem dX7_skewed_69 : decode cX7_skewed 69 = .ok (.ifCond .ne 7, 3) := by decide +kernel
theorem dX7_skewed_72 : decode cX7_skewed 72 = .ok (.iload_n 2, 1) := by decide +kernel
theorem dX7_skewed_73 : decode cX7_skewed 73 = .ok (.goto 21, 3) := by decide +kernel
theorem dX7_skewed_76 : decode cX7_skewed 76 = .ok (.iload_n 1, 1) := by decide +kernel
theorem dX7_skewed_77 : decode cX7_skewed 77 = .ok (.iconst 1, 1) := by decide +kernel
theorem dX7_skewed_78 : decode cX7_skewed 78 = .ok (.if_icmp .ne 11, 3) := by decide +kernel
theorem dX7_skewed_81 : decode cX7_skewed 81 = .ok (.aload_n 0, 1) := by decide +kernel
theorem dX7_skewed_82 : decode cX7_skewed 82 = .ok (.iload_n 2, 1) := by decide +kernel
theorem dX7_skewed_83 : decode cX7_skewed 83 = .ok (.invokevirtual 199, 3) := by decide +kernel
theorem dX7_skewed_86 : decode cX7_skewed 86 = .ok (.goto 8, 3) := by decide +kernel
theorem dX7_skewed_89 : decode cX7_skewed 89 = .ok (.aload_n 0, 1) := by decide +kernel
theorem dX7_skewed_90 : decode cX7_skewed 90 = .ok (.iload_n 2, 1) := by decide +kernel
theorem dX7_skewed_91 : decode cX7_skewed 91 = .ok (.invokevirtual 202, 3) := by decide +kernel
theorem dX7_skewed_94 : decode cX7_skewed 94 = .ok (.ireturn, 1) := by decide +kernel
theorem dX7_count_0 : decode cX7_count 0 = .ok (.iconst 0, 1) := by decide +kernel
theorem dX7_count_1 : decode cX7_count 1 = .ok (.istore_n 2, 1) := by decide +kernel
theorem dX7_count_2 : decode cX7_count 2 = .ok (.iconst 0, 1) := by decide +kernel
theorem dX7_count_3 : decode cX7_count 3 = .ok (.istore_n 3, 1) := by decide +kernel
theorem dX7_count_4 : decode cX7_count 4 = .ok (.iconst 0, 1) := by decide +kernel
theorem dX7_count_5 : decode cX7_count 5 = .ok (.istore 4, 2) := by decide +kernel
theorem dX7_count_7 : decode cX7_count 7 = .ok (.iload 4, 2) := by decide +kernel
theorem dX7_count_9 : decode cX7_count 9 = .ok (.aload_n 0, 1) := by decide +kernel
theorem dX7_count_10 : decode cX7_count 10 = .ok (.getfield 7, 3) := by decide +kernel
theorem dX7_count_13 : decode cX7_count 13 = .ok (.iconst 0, 1) := by decide +kernel
theorem dX7_count_14 : decode cX7_count 14 = .ok (.iaload, 1) := by decide +kernel
theorem dX7_count_15 : decode cX7_count 15 = .ok (.if_icmp .ge 39, 3) := by decide +kernel
theorem dX7_count_18 : decode cX7_count 18 = .ok (.iload_n 2, 1) := by decide +kernel
theorem dX7_count_19 : decode cX7_count 19 = .ok (.aload_n 0, 1) := by decide +kernel
theorem dX7_count_20 : decode cX7_count 20 = .ok (.getfield 7, 3) := by decide +kernel
theorem dX7_count_23 : decode cX7_count 23 = .ok (.bipush 104, 2) := by decide +kernel
theorem dX7_count_25 : decode cX7_count 25 = .ok (.iload 4, 2) := by decide +kernel
theorem dX7_count_27 : decode cX7_count 27 = .ok (.iadd, 1) := by decide +kernel
theorem dX7_count_28 : decode cX7_count 28 = .ok (.iaload, 1) := by decide +kernel
theorem dX7_count_29 : decode cX7_count 29 = .ok (.iadd, 1) := by decide +kernel
theorem dX7_count_30 : decode cX7_count 30 = .ok (.istore_n 2, 1) := by decide +kernel
theorem dX7_count_31 : decode cX7_count 31 = .ok (.iload_n 3, 1) := by decide +kernel
theorem dX7_count_32 : decode cX7_count 32 = .ok (.aload_n 0, 1) := by decide +kernel
theorem dX7_count_33 : decode cX7_count 33 = .ok (.iload 4, 2) := by decide +kernel
theorem dX7_count_35 : decode cX7_count 35 = .ok (.invokevirtual 194, 3) := by decide +kernel
theorem dX7_count_38 : decode cX7_count 38 = .ok (.ifCond .eq 7, 3) := by decide +kernel
theorem dX7_count_41 : decode cX7_count 41 = .ok (.iconst 1, 1) := by decide +kernel
theorem dX7_count_42 : decode cX7_count 42 = .ok (.goto 4, 3) := by decide +kernel
theorem dX7_count_45 : decode cX7_count 45 = .ok (.iconst 0, 1) := by decide +kernel
theorem dX7_count_46 : decode cX7_count 46 = .ok (.iadd, 1) := by decide +kernel
theorem dX7_count_47 : decode cX7_count 47 = .ok (.istore_n 3, 1) := by decide +kernel
theorem dX7_count_48 : decode cX7_count 48 = .ok (.iinc 4 1, 3) := by decide +kernel
theorem dX7_count_51 : decode cX7_count 51 = .ok (.goto (-44), 3) := by decide +kernel
theorem dX7_count_54 : decode cX7_count 54 = .ok (.iload_n 1, 1) := by decide +kernel
theorem dX7_count_55 : decode cX7_count 55 = .ok (.tableswitch 54 0 4 #[33, 40, 42, 44, 49], 33) := by decide +kernel
theorem dX7_count_88 : decode cX7_count 88 = .ok (.aload_n 0, 1) := by decide +kernel
theorem dX7_count_89 : decode cX7_count 89 = .ok (.getfield 7, 3) := by decide +kernel
theorem dX7_count_92 : decode cX7_count 92 = .ok (.iconst 0, 1) := by decide +kernel
theorem dX7_count_93 : decode cX7_count 93 = .ok (.iaload, 1) := by decide +kernel
theorem dX7_count_94 : decode cX7_count 94 = .ok (.ireturn, 1) := by decide +kernel
theorem dX7_count_95 : decode cX7_count 95 = .ok (.iload_n 2, 1) := by decide +kernel
theorem dX7_count_96 : decode cX7_count 96 = .ok (.ireturn, 1) := by decide +kernel
theorem dX7_count_97 : decode cX7_count 97 = .ok (.iload_n 3, 1) := by decide +kernel
theorem dX7_count_98 : decode cX7_count 98 = .ok (.ireturn, 1) := by decide +kernel
theorem dX7_count_99 : decode cX7_count 99 = .ok (.aload_n 0, 1) := by decide +kernel
theorem dX7_count_100 : decode cX7_count 100 = .ok (.getfield 47, 3) := by decide +kernel
theorem dX7_count_103 : decode cX7_count 103 = .ok (.ireturn, 1) := by decide +kernel
theorem dX7_count_104 : decode cX7_count 104 = .ok (.aload_n 0, 1) := by decide +kernel
theorem dX7_count_105 : decode cX7_count 105 = .ok (.getfield 205, 3) := by decide +kernel
theorem dX7_count_108 : decode cX7_count 108 = .ok (.ireturn, 1) := by decide +kernel
theorem dX7_count_109 : decode cX7_count 109 = .ok (.iload_n 1, 1) := by decide +kernel
theorem dX7_count_110 : decode cX7_count 110 = .ok (.i2l, 1) := by decide +kernel
theorem dX7_count_111 : decode cX7_count 111 = .ok (.ldc2_w 208, 3) := by decide +kernel
theorem dX7_count_114 : decode cX7_count 114 = .ok (.ldc2_w 210, 3) := by decide +kernel
theorem dX7_count_117 : decode cX7_count 117 = .ok (.invokestatic 53, 3) := by decide +kernel
theorem dX7_count_120 : decode cX7_count 120 = .ok (.ifCond .eq 17, 3) := by decide +kernel
theorem dX7_count_123 : decode cX7_count 123 = .ok (.aload_n 0, 1) := by decide +kernel
theorem dX7_count_124 : decode cX7_count 124 = .ok (.getfield 7, 3) := by decide +kernel
theorem dX7_count_127 : decode cX7_count 127 = .ok (.iconst 1, 1) := by decide +kernel
theorem dX7_count_128 : decode cX7_count 128 = .ok (.iload_n 1, 1) := by decide +kernel
theorem dX7_count_129 : decode cX7_count 129 = .ok (.iadd, 1) := by decide +kernel
theorem dX7_count_130 : decode cX7_count 130 = .ok (.bipush 20, 2) := by decide +kernel
theorem dX7_count_132 : decode cX7_count 132 = .ok (.isub, 1) := by decide +kernel
theorem dX7_count_133 : decode cX7_count 133 = .ok (.iaload, 1) := by decide +kernel
theorem dX7_count_134 : decode cX7_count 134 = .ok (.goto 5, 3) := by decide +kernel
theorem dX7_count_137 : decode cX7_count 137 = .ok (.ldc 65, 2) := by decide +kernel
theorem dX7_count_139 : decode cX7_count 139 = .ok (.ireturn, 1) := by decide +kernel
theorem dX7_undo_0 : decode cX7_undo 0 = .ok (.aload_n 0, 1) := by decide +kernel
theorem dX7_undo_1 : decode cX7_undo 1 = .ok (.getfield 47, 3) := by decide +kernel
theorem dX7_undo_4 : decode cX7_undo 4 = .ok (.ifCond .ne 6, 3) := by decide +kernel
theorem dX7_undo_7 : decode cX7_undo 7 = .ok (.ldc 74, 2) := by decide +kernel
theorem dX7_undo_9 : decode cX7_undo 9 = .ok (.ireturn, 1) := by decide +kernel
theorem dX7_undo_10 : decode cX7_undo 10 = .ok (.aload_n 0, 1) := by decide +kernel
theorem dX7_undo_11 : decode cX7_undo 11 = .ok (.dup, 1) := by decide +kernel
theorem dX7_undo_12 : decode cX7_undo 12 = .ok (.getfield 47, 3) := by decide +kernel
theorem dX7_undo_15 : decode cX7_undo 15 = .ok (.iconst 1, 1) := by decide +kernel
theorem dX7_undo_16 : decode cX7_undo 16 = .ok (.isub, 1) := by decide +kernel
theorem dX7_undo_17 : decode cX7_undo 17 = .ok (.putfield 47, 3) := by decide +kernel
theorem dX7_undo_20 : decode cX7_undo 20 = .ok (.iconst 0, 1) := by decide +kernel
theorem dX7_undo_21 : decode cX7_undo 21 = .ok (.istore_n 1, 1) := by decide +kernel
theorem dX7_undo_22 : decode cX7_undo 22 = .ok (.iload_n 1, 1) := by decide +kernel
theorem dX7_undo_23 : decode cX7_undo 23 = .ok (.sipush 204, 3) := by decide +kernel
theorem dX7_undo_26 : decode cX7_undo 26 = .ok (.if_icmp .ge 30, 3) := by decide +kernel
theorem dX7_undo_29 : decode cX7_undo 29 = .ok (.aload_n 0, 1) := by decide +kernel
theorem dX7_undo_30 : decode cX7_undo 30 = .ok (.getfield 7, 3) := by decide +kernel
theorem dX7_undo_33 : decode cX7_undo 33 = .ok (.iload_n 1, 1) := by decide +kernel
theorem dX7_undo_34 : decode cX7_undo 34 = .ok (.aload_n 0, 1) := by decide +kernel
theorem dX7_undo_35 : decode cX7_undo 35 = .ok (.getfield 13, 3) := by decide +kernel
theorem dX7_undo_38 : decode cX7_undo 38 = .ok (.sipush 204, 3) := by decide +kernel
theorem dX7_undo_41 : decode cX7_undo 41 = .ok (.aload_n 0, 1) := by decide +kernel
theorem dX7_undo_42 : decode cX7_undo 42 = .ok (.getfield 47, 3) := by decide +kernel
theorem dX7_undo_45 : decode cX7_undo 45 = .ok (.imul, 1) := by decide +kernel
theorem dX7_undo_46 : decode cX7_undo 46 = .ok (.iload_n 1, 1) := by decide +kernel
theorem dX7_undo_47 : decode cX7_undo 47 = .ok (.iadd, 1) := by decide +kernel
theorem dX7_undo_48 : decode cX7_undo 48 = .ok (.iaload, 1) := by decide +kernel
theorem dX7_undo_49 : decode cX7_undo 49 = .ok (.iastore, 1) := by decide +kernel
theorem dX7_undo_50 : decode cX7_undo 50 = .ok (.iinc 1 1, 3) := by decide +kernel
theorem dX7_undo_53 : decode cX7_undo 53 = .ok (.goto (-31), 3) := by decide +kernel
theorem dX7_undo_56 : decode cX7_undo 56 = .ok (.aload_n 0, 1) := by decide +kernel
theorem dX7_undo_57 : decode cX7_undo 57 = .ok (.getfield 47, 3) := by decide +kernel
theorem dX7_undo_60 : decode cX7_undo 60 = .ok (.ireturn, 1) := by decide +kernel
theorem dX7_type_0 : decode cX7_type 0 = .ok (.iload_n 1, 1) := by decide +kernel
theorem dX7_type_1 : decode cX7_type 1 = .ok (.i2l, 1) := by decide +kernel
theorem dX7_type_2 : decode cX7_type 2 = .ok (.ldc2_w 212, 3) := by decide +kernel
theorem dX7_type_5 : decode cX7_type 5 = .ok (.ldc2_w 214, 3) := by decide +kernel
theorem dX7_type_8 : decode cX7_type 8 = .ok (.invokestatic 53, 3) := by decide +kernel
theorem dX7_type_11 : decode cX7_type 11 = .ok (.ifCond .ne 6, 3) := by decide +kernel
theorem dX7_type_14 : decode cX7_type 14 = .ok (.ldc 65, 2) := by decide +kernel
theorem dX7_type_16 : decode cX7_type 16 = .ok (.ireturn, 1) := by decide +kernel
theorem dX7_type_17 : decode cX7_type 17 = .ok (.aload_n 0, 1) := by decide +kernel
theorem dX7_type_18 : decode cX7_type 18 = .ok (.getfield 205, 3) := by decide +kernel
theorem dX7_type_21 : decode cX7_type 21 = .ok (.bipush 60, 2) := by decide +kernel
theorem dX7_type_23 : decode cX7_type 23 = .ok (.if_icmp .ne 6, 3) := by decide +kernel
theorem dX7_type_26 : decode cX7_type 26 = .ok (.ldc 66, 2) := by decide +kernel
theorem dX7_type_28 : decode cX7_type 28 = .ok (.ireturn, 1) := by decide +kernel
theorem dX7_type_29 : decode cX7_type 29 = .ok (.aload_n 0, 1) := by decide +kernel
theorem dX7_type_30 : decode cX7_type 30 = .ok (.getfield 43, 3) := by decide +kernel
theorem dX7_type_33 : decode cX7_type 33 = .ok (.aload_n 0, 1) := by decide +kernel
theorem dX7_type_34 : decode cX7_type 34 = .ok (.getfield 205, 3) := by decide +kernel
theorem dX7_type_37 : decode cX7_type 37 = .ok (.iload_n 1, 1) := by decide +kernel
theorem dX7_type_38 : decode cX7_type 38 = .ok (.iastore, 1) := by decide +kernel
theorem dX7_type_39 : decode cX7_type 39 = .ok (.aload_n 0, 1) := by decide +kernel
theorem dX7_type_40 : decode cX7_type 40 = .ok (.dup, 1) := by decide +kernel
theorem dX7_type_41 : decode cX7_type 41 = .ok (.getfield 205, 3) := by decide +kernel
theorem dX7_type_44 : decode cX7_type 44 = .ok (.iconst 1, 1) := by decide +kernel
theorem dX7_type_45 : decode cX7_type 45 = .ok (.iadd, 1) := by decide +kernel
theorem dX7_type_46 : decode cX7_type 46 = .ok (.putfield 205, 3) := by decide +kernel
theorem dX7_type_49 : decode cX7_type 49 = .ok (.aload_n 0, 1) := by decide +kernel
theorem dX7_type_50 : decode cX7_type 50 = .ok (.getfield 205, 3) := by decide +kernel
theorem dX7_type_53 : decode cX7_type 53 = .ok (.ireturn, 1) := by decide +kernel
theorem dX7_clearText_0 : decode cX7_clearText 0 = .ok (.aload_n 0, 1) := by decide +kernel
theorem dX7_clearText_1 : decode cX7_clearText 1 = .ok (.getfield 205, 3) := by decide +kernel
theorem dX7_clearText_4 : decode cX7_clearText 4 = .ok (.istore_n 1, 1) := by decide +kernel
theorem dX7_clearText_5 : decode cX7_clearText 5 = .ok (.aload_n 0, 1) := by decide +kernel
theorem dX7_clearText_6 : decode cX7_clearText 6 = .ok (.iconst 0, 1) := by decide +kernel
theorem dX7_clearText_7 : decode cX7_clearText 7 = .ok (.putfield 205, 3) := by decide +kernel
theorem dX7_clearText_10 : decode cX7_clearText 10 = .ok (.iload_n 1, 1) := by decide +kernel
theorem dX7_clearText_11 : decode cX7_clearText 11 = .ok (.ireturn, 1) := by decide +kernel
theorem dX7_takesOne_0 : decode cX7_takesOne 0 = .ok (.aload_n 0, 1) := by decide +kernel
theorem dX7_takesOne_1 : decode cX7_takesOne 1 = .ok (.getfield 216, 3) := by decide +kernel
theorem dX7_takesOne_4 : decode cX7_takesOne 4 = .ok (.aload_n 0, 1) := by decide +kernel
theorem dX7_takesOne_5 : decode cX7_takesOne 5 = .ok (.getfield 205, 3) := by decide +kernel
theorem dX7_takesOne_8 : decode cX7_takesOne 8 = .ok (.if_icmp .ge 20, 3) := by decide +kernel
theorem dX7_takesOne_11 : decode cX7_takesOne 11 = .ok (.aload_n 0, 1) := by decide +kernel
theorem dX7_takesOne_12 : decode cX7_takesOne 12 = .ok (.getfield 43, 3) := by decide +kernel
theorem dX7_takesOne_15 : decode cX7_takesOne 15 = .ok (.aload_n 0, 1) := by decide +kernel
theorem dX7_takesOne_16 : decode cX7_takesOne 16 = .ok (.getfield 216, 3) := by decide +kernel
theorem dX7_takesOne_19 : decode cX7_takesOne 19 = .ok (.iaload, 1) := by decide +kernel
theorem dX7_takesOne_20 : decode cX7_takesOne 20 = .ok (.iload_n 1, 1) := by decide +kernel
theorem dX7_takesOne_21 : decode cX7_takesOne 21 = .ok (.if_icmp .ne 7, 3) := by decide +kernel
theorem dX7_takesOne_24 : decode cX7_takesOne 24 = .ok (.iconst 1, 1) := by decide +kernel
theorem dX7_takesOne_25 : decode cX7_takesOne 25 = .ok (.goto 4, 3) := by decide +kernel
theorem dX7_takesOne_28 : decode cX7_takesOne 28 = .ok (.iconst 0, 1) := by decide +kernel
theorem dX7_takesOne_29 : decode cX7_takesOne 29 = .ok (.istore_n 2, 1) := by decide +kernel
theorem dX7_takesOne_30 : decode cX7_takesOne 30 = .ok (.aload_n 0, 1) := by decide +kernel
theorem dX7_takesOne_31 : decode cX7_takesOne 31 = .ok (.dup, 1) := by decide +kernel
theorem dX7_takesOne_32 : decode cX7_takesOne 32 = .ok (.getfield 216, 3) := by decide +kernel
theorem dX7_takesOne_35 : decode cX7_takesOne 35 = .ok (.iload_n 2, 1) := by decide +kernel
theorem dX7_takesOne_36 : decode cX7_takesOne 36 = .ok (.ifCond .eq 7, 3) := by decide +kernel
theorem dX7_takesOne_39 : decode cX7_takesOne 39 = .ok (.iconst 1, 1) := by decide +kernel
theorem dX7_takesOne_40 : decode cX7_takesOne 40 = .ok (.goto 4, 3) := by decide +kernel
theorem dX7_takesOne_43 : decode cX7_takesOne 43 = .ok (.iconst 0, 1) := by decide +kernel
theorem dX7_takesOne_44 : decode cX7_takesOne 44 = .ok (.iadd, 1) := by decide +kernel
theorem dX7_takesOne_45 : decode cX7_takesOne 45 = .ok (.putfield 216, 3) := by decide +kernel
theorem dX7_takesOne_48 : decode cX7_takesOne 48 = .ok (.iload_n 2, 1) := by decide +kernel
theorem dX7_takesOne_49 : decode cX7_takesOne 49 = .ok (.ireturn, 1) := by decide +kernel
theorem dX7_takesNumber_0 : decode cX7_takesNumber 0 = .ok (.aload_n 0, 1) := by decide +kernel
theorem dX7_takesNumber_1 : decode cX7_takesNumber 1 = .ok (.getfield 216, 3) := by decide +kernel
theorem dX7_takesNumber_4 : decode cX7_takesNumber 4 = .ok (.istore_n 2, 1) := by decide +kernel
theorem dX7_takesNumber_5 : decode cX7_takesNumber 5 = .ok (.aload_n 0, 1) := by decide +kernel
theorem dX7_takesNumber_6 : decode cX7_takesNumber 6 = .ok (.iconst 0, 1) := by decide +kernel
theorem dX7_takesNumber_7 : decode cX7_takesNumber 7 = .ok (.putfield 219, 3) := by decide +kernel
theorem dX7_takesNumber_10 : decode cX7_takesNumber 10 = .ok (.aload_n 0, 1) := by decide +kernel
theorem dX7_takesNumber_11 : decode cX7_takesNumber 11 = .ok (.getfield 216, 3) := by decide +kernel
theorem dX7_takesNumber_14 : decode cX7_takesNumber 14 = .ok (.aload_n 0, 1) := by decide +kernel
theorem dX7_takesNumber_15 : decode cX7_takesNumber 15 = .ok (.getfield 205, 3) := by decide +kernel
theorem dX7_takesNumber_18 : decode cX7_takesNumber 18 = .ok (.if_icmp .ge 72, 3) := by decide +kernel
theorem dX7_takesNumber_21 : decode cX7_takesNumber 21 = .ok (.aload_n 0, 1) := by decide +kernel
theorem dX7_takesNumber_22 : decode cX7_takesNumber 22 = .ok (.getfield 216, 3) := by decide +kernel
theorem dX7_takesNumber_25 : decode cX7_takesNumber 25 = .ok (.iload_n 2, 1) := by decide +kernel
theorem dX7_takesNumber_26 : decode cX7_takesNumber 26 = .ok (.iload_n 1, 1) := by decide +kernel
theorem dX7_takesNumber_27 : decode cX7_takesNumber 27 = .ok (.iadd, 1) := by decide +kernel
theorem dX7_takesNumber_28 : decode cX7_takesNumber 28 = .ok (.if_icmp .ge 62, 3) := by decide +kernel
theorem dX7_takesNumber_31 : decode cX7_takesNumber 31 = .ok (.aload_n 0, 1) := by decide +kernel
theorem dX7_takesNumber_32 : decode cX7_takesNumber 32 = .ok (.getfield 43, 3) := by decide +kernel
theorem dX7_takesNumber_35 : decode cX7_takesNumber 35 = .ok (.aload_n 0, 1) := by decide +kernel
theorem dX7_takesNumber_36 : decode cX7_takesNumber 36 = .ok (.getfield 216, 3) := by decide +kernel
theorem dX7_takesNumber_39 : decode cX7_takesNumber 39 = .ok (.iaload, 1) := by decide +kernel
theorem dX7_takesNumber_40 : decode cX7_takesNumber 40 = .ok (.i2l, 1) := by decide +kernel
theorem dX7_takesNumber_41 : decode cX7_takesNumber 41 = .ok (.ldc2_w 222, 3) := by decide +kernel
theorem dX7_takesNumber_44 : decode cX7_takesNumber 44 = .ok (.ldc2_w 224, 3) := by decide +kernel
theorem dX7_takesNumber_47 : decode cX7_takesNumber 47 = .ok (.invokestatic 53, 3) := by decide +kernel
theorem dX7_takesNumber_50 : decode cX7_takesNumber 50 = .ok (.ifCond .eq 40, 3) := by decide +kernel
theorem dX7_takesNumber_53 : decode cX7_takesNumber 53 = .ok (.aload_n 0, 1) := by decide +kernel
theorem dX7_takesNumber_54 : decode cX7_takesNumber 54 = .ok (.bipush 10, 2) := by decide +kernel
theorem dX7_takesNumber_56 : decode cX7_takesNumber 56 = .ok (.aload_n 0, 1) := by decide +kernel
theorem dX7_takesNumber_57 : decode cX7_takesNumber 57 = .ok (.getfield 219, 3) := by decide +kernel
theorem dX7_takesNumber_60 : decode cX7_takesNumber 60 = .ok (.imul, 1) := by decide +kernel
theorem dX7_takesNumber_61 : decode cX7_takesNumber 61 = .ok (.aload_n 0, 1) := by decide +kernel
theorem dX7_takesNumber_62 : decode cX7_takesNumber 62 = .ok (.getfield 43, 3) := by decide +kernel
theorem dX7_takesNumber_65 : decode cX7_takesNumber 65 = .ok (.aload_n 0, 1) := by decide +kernel
theorem dX7_takesNumber_66 : decode cX7_takesNumber 66 = .ok (.getfield 216, 3) := by decide +kernel
theorem dX7_takesNumber_69 : decode cX7_takesNumber 69 = .ok (.iaload, 1) := by decide +kernel
theorem dX7_takesNumber_70 : decode cX7_takesNumber 70 = .ok (.iadd, 1) := by decide +kernel
theorem dX7_takesNumber_71 : decode cX7_takesNumber 71 = .ok (.bipush 48, 2) := by decide +kernel
theorem dX7_takesNumber_73 : decode cX7_takesNumber 73 = .ok (.isub, 1) := by decide +kernel
theorem dX7_takesNumber_74 : decode cX7_takesNumber 74 = .ok (.putfield 219, 3) := by decide +kernel
theorem dX7_takesNumber_77 : decode cX7_takesNumber 77 = .ok (.aload_n 0, 1) := by decide +kernel
theorem dX7_takesNumber_78 : decode cX7_takesNumber 78 = .ok (.dup, 1) := by decide +kernel
theorem dX7_takesNumber_79 : decode cX7_takesNumber 79 = .ok (.getfield 216, 3) := by decide +kernel
theorem dX7_takesNumber_82 : decode cX7_takesNumber 82 = .ok (.iconst 1, 1) := by decide +kernel
theorem dX7_takesNumber_83 : decode cX7_takesNumber 83 = .ok (.iadd, 1) := by decide +kernel
theorem dX7_takesNumber_84 : decode cX7_takesNumber 84 = .ok (.putfield 216, 3) := by decide +kernel
theorem dX7_takesNumber_87 : decode cX7_takesNumber 87 = .ok (.goto (-77), 3) := by decide +kernel
theorem dX7_takesNumber_90 : decode cX7_takesNumber 90 = .ok (.aload_n 0, 1) := by decide +kernel
theorem dX7_takesNumber_91 : decode cX7_takesNumber 91 = .ok (.getfield 216, 3) := by decide +kernel
theorem dX7_takesNumber_94 : decode cX7_takesNumber 94 = .ok (.iload_n 2, 1) := by decide +kernel
theorem dX7_takesNumber_95 : decode cX7_takesNumber 95 = .ok (.if_icmp .le 7, 3) := by decide +kernel
theorem dX7_takesNumber_98 : decode cX7_takesNumber 98 = .ok (.iconst 1, 1) := by decide +kernel
theorem dX7_takesNumber_99 : decode cX7_takesNumber 99 = .ok (.goto 4, 3) := by decide +kernel
theorem dX7_takesNumber_102 : decode cX7_takesNumber 102 = .ok (.iconst 0, 1) := by decide +kernel
theorem dX7_takesNumber_103 : decode cX7_takesNumber 103 = .ok (.ireturn, 1) := by decide +kernel
theorem dX7_readsRow_0 : decode cX7_readsRow 0 = .ok (.aload_n 0, 1) := by decide +kernel
theorem dX7_readsRow_1 : decode cX7_readsRow 1 = .ok (.aload_n 0, 1) := by decide +kernel
theorem dX7_readsRow_2 : decode cX7_readsRow 2 = .ok (.getfield 226, 3) := by decide +kernel
theorem dX7_readsRow_5 : decode cX7_readsRow 5 = .ok (.putfield 216, 3) := by decide +kernel
theorem dX7_readsRow_8 : decode cX7_readsRow 8 = .ok (.aload_n 0, 1) := by decide +kernel
theorem dX7_readsRow_9 : decode cX7_readsRow 9 = .ok (.iconst 4, 1) := by decide +kernel
theorem dX7_readsRow_10 : decode cX7_readsRow 10 = .ok (.invokevirtual 229, 3) := by decide +kernel
theorem dX7_readsRow_13 : decode cX7_readsRow 13 = .ok (.ifCond .ne 5, 3) := by decide +kernel
theorem dX7_readsRow_16 : decode cX7_readsRow 16 = .ok (.iconst 0, 1) := by decide +kernel
theorem dX7_readsRow_17 : decode cX7_readsRow 17 = .ok (.ireturn, 1) := by decide +kernel
theorem dX7_readsRow_18 : decode cX7_readsRow 18 = .ok (.aload_n 0, 1) := by decide +kernel
theorem dX7_readsRow_19 : decode cX7_readsRow 19 = .ok (.aload_n 0, 1) := by decide +kernel
theorem dX7_readsRow_20 : decode cX7_readsRow 20 = .ok (.getfield 219, 3) := by decide +kernel
theorem dX7_readsRow_23 : decode cX7_readsRow 23 = .ok (.putfield 232, 3) := by decide +kernel
theorem dX7_readsRow_26 : decode cX7_readsRow 26 = .ok (.aload_n 0, 1) := by decide +kernel
theorem dX7_readsRow_27 : decode cX7_readsRow 27 = .ok (.bipush 61, 2) := by decide +kernel
theorem dX7_readsRow_29 : decode cX7_readsRow 29 = .ok (.invokevirtual 235, 3) := by decide +kernel
theorem dX7_readsRow_32 : decode cX7_readsRow 32 = .ok (.ifCond .ne 5, 3) := by decide +kernel
theorem dX7_readsRow_35 : decode cX7_readsRow 35 = .ok (.iconst 0, 1) := by decide +kernel
theorem dX7_readsRow_36 : decode cX7_readsRow 36 = .ok (.ireturn, 1) := by decide +kernel
theorem dX7_readsRow_37 : decode cX7_readsRow 37 = .ok (.aload_n 0, 1) := by decide +kernel
theorem dX7_readsRow_38 : decode cX7_readsRow 38 = .ok (.bipush 45, 2) := by decide +kernel
theorem dX7_readsRow_40 : decode cX7_readsRow 40 = .ok (.invokevirtual 235, 3) := by decide +kernel
theorem dX7_readsRow_43 : decode cX7_readsRow 43 = .ok (.istore_n 1, 1) := by decide +kernel
theorem dX7_readsRow_44 : decode cX7_readsRow 44 = .ok (.aload_n 0, 1) := by decide +kernel
theorem dX7_readsRow_45 : decode cX7_readsRow 45 = .ok (.iconst 3, 1) := by decide +kernel
theorem dX7_readsRow_46 : decode cX7_readsRow 46 = .ok (.invokevirtual 229, 3) := by decide +kernel
theorem dX7_readsRow_49 : decode cX7_readsRow 49 = .ok (.ifCond .ne 5, 3) := by decide +kernel
theorem dX7_readsRow_52 : decode cX7_readsRow 52 = .ok (.iconst 0, 1) := by decide +kernel
theorem dX7_readsRow_53 : decode cX7_readsRow 53 = .ok (.ireturn, 1) := by decide +kernel
theorem dX7_readsRow_54 : decode cX7_readsRow 54 = .ok (.aload_n 0, 1) := by decide +kernel
theorem dX7_readsRow_55 : decode cX7_readsRow 55 = .ok (.iload_n 1, 1) := by decide +kernel
theorem dX7_readsRow_56 : decode cX7_readsRow 56 = .ok (.ifCond .eq 11, 3) := by decide +kernel
theorem dX7_readsRow_59 : decode cX7_readsRow 59 = .ok (.aload_n 0, 1) := by decide +kernel
theorem dX7_readsRow_60 : decode cX7_readsRow 60 = .ok (.getfield 219, 3) := by decide +kernel
theorem dX7_readsRow_63 : decode cX7_readsRow 63 = .ok (.ineg, 1) := by decide +kernel
theorem dX7_readsRow_64 : decode cX7_readsRow 64 = .ok (.goto 7, 3) := by decide +kernel
theorem dX7_readsRow_67 : decode cX7_readsRow 67 = .ok (.aload_n 0, 1) := by decide +kernel
theorem dX7_readsRow_68 : decode cX7_readsRow 68 = .ok (.getfield 219, 3) := by decide +kernel
theorem dX7_readsRow_71 : decode cX7_readsRow 71 = .ok (.putfield 238, 3) := by decide +kernel
theorem dX7_readsRow_74 : decode cX7_readsRow 74 = .ok (.aload_n 0, 1) := by decide +kernel
theorem dX7_readsRow_75 : decode cX7_readsRow 75 = .ok (.bipush 59, 2) := by decide +kernel
theorem dX7_readsRow_77 : decode cX7_readsRow 77 = .ok (.invokevirtual 235, 3) := by decide +kernel
theorem dX7_readsRow_80 : decode cX7_readsRow 80 = .ok (.ireturn, 1) := by decide +kernel
theorem dX7_hasFault_0 : decode cX7_hasFault 0 = .ok (.aload_n 0, 1) := by decide +kernel
theorem dX7_hasFault_1 : decode cX7_hasFault 1 = .ok (.getfield 7, 3) := by decide +kernel
theorem dX7_hasFault_4 : decode cX7_hasFault 4 = .ok (.iconst 0, 1) := by decide +kernel
theorem dX7_hasFault_5 : decode cX7_hasFault 5 = .ok (.iaload, 1) := by decide +kernel
theorem dX7_hasFault_6 : decode cX7_hasFault 6 = .ok (.istore_n 1, 1) := by decide +kernel
theorem dX7_hasFault_7 : decode cX7_hasFault 7 = .ok (.aload_n 0, 1) := by decide +kernel
theorem dX7_hasFault_8 : decode cX7_hasFault 8 = .ok (.iconst 0, 1) := by decide +kernel
theorem dX7_hasFault_9 : decode cX7_hasFault 9 = .ok (.putfield 226, 3) := by decide +kernel
theorem dX7_hasFault_12 : decode cX7_hasFault 12 = .ok (.aload_n 0, 1) := by decide +kernel
theorem dX7_hasFault_13 : decode cX7_hasFault 13 = .ok (.getfield 226, 3) := by decide +kernel
theorem dX7_hasFault_16 : decode cX7_hasFault 16 = .ok (.aload_n 0, 1) := by decide +kernel
theorem dX7_hasFault_17 : decode cX7_hasFault 17 = .ok (.getfield 205, 3) := by decide +kernel
theorem dX7_hasFault_20 : decode cX7_hasFault 20 = .ok (.if_icmp .ge 70, 3) := by decide +kernel
theorem dX7_hasFault_23 : decode cX7_hasFault 23 = .ok (.aload_n 0, 1) := by decide +kernel
theorem dX7_hasFault_24 : decode cX7_hasFault 24 = .ok (.invokevirtual 241, 3) := by decide +kernel
theorem dX7_hasFault_27 : decode cX7_hasFault 27 = .ok (.ifCond .ne 23, 3) := by decide +kernel
theorem dX7_hasFault_30 : decode cX7_hasFault 30 = .ok (.aload_n 0, 1) := by decide +kernel
theorem dX7_hasFault_31 : decode cX7_hasFault 31 = .ok (.iconst 1, 1) := by decide +kernel
theorem dX7_hasFault_32 : decode cX7_hasFault 32 = .ok (.putfield 245, 3) := by decide +kernel
theorem dX7_hasFault_35 : decode cX7_hasFault 35 = .ok (.aload_n 0, 1) := by decide +kernel
theorem dX7_hasFault_36 : decode cX7_hasFault 36 = .ok (.aload_n 0, 1) := by decide +kernel
theorem dX7_hasFault_37 : decode cX7_hasFault 37 = .ok (.getfield 216, 3) := by decide +kernel
theorem dX7_hasFault_40 : decode cX7_hasFault 40 = .ok (.aload_n 0, 1) := by decide +kernel
theorem dX7_hasFault_41 : decode cX7_hasFault 41 = .ok (.getfield 226, 3) := by decide +kernel
theorem dX7_hasFault_44 : decode cX7_hasFault 44 = .ok (.isub, 1) := by decide +kernel
theorem dX7_hasFault_45 : decode cX7_hasFault 45 = .ok (.putfield 248, 3) := by decide +kernel
theorem dX7_hasFault_48 : decode cX7_hasFault 48 = .ok (.iconst 1, 1) := by decide +kernel
theorem dX7_hasFault_49 : decode cX7_hasFault 49 = .ok (.ireturn, 1) := by decide +kernel
theorem dX7_hasFault_50 : decode cX7_hasFault 50 = .ok (.iload_n 1, 1) := by decide +kernel
theorem dX7_hasFault_51 : decode cX7_hasFault 51 = .ok (.bipush 100, 2) := by decide +kernel
theorem dX7_hasFault_53 : decode cX7_hasFault 53 = .ok (.if_icmp .ne 23, 3) := by decide +kernel
theorem dX7_hasFault_56 : decode cX7_hasFault 56 = .ok (.aload_n 0, 1) := by decide +kernel
theorem dX7_hasFault_57 : decode cX7_hasFault 57 = .ok (.iconst 2, 1) := by decide +kernel
theorem dX7_hasFault_58 : decode cX7_hasFault 58 = .ok (.putfield 245, 3) := by decide +kernel
theorem dX7_hasFault_61 : decode cX7_hasFault 61 = .ok (.aload_n 0, 1) := by decide +kernel
theorem dX7_hasFault_62 : decode cX7_hasFault 62 = .ok (.bipush 100, 2) := by decide +kernel
theorem dX7_hasFault_64 : decode cX7_hasFault 64 = .ok (.aload_n 0, 1) := by decide +kernel
theorem dX7_hasFault_65 : decode cX7_hasFault 65 = .ok (.getfield 7, 3) := by decide +kernel
theorem dX7_hasFault_68 : decode cX7_hasFault 68 = .ok (.iconst 0, 1) := by decide +kernel
theorem dX7_hasFault_69 : decode cX7_hasFault 69 = .ok (.iaload, 1) := by decide +kernel
theorem dX7_hasFault_70 : decode cX7_hasFault 70 = .ok (.isub, 1) := by decide +kernel
theorem dX7_hasFault_71 : decode cX7_hasFault 71 = .ok (.putfield 248, 3) := by decide +kernel
theorem dX7_hasFault_74 : decode cX7_hasFault 74 = .ok (.iconst 1, 1) := by decide +kernel
theorem dX7_hasFault_75 : decode cX7_hasFault 75 = .ok (.ireturn, 1) := by decide +kernel
theorem dX7_hasFault_76 : decode cX7_hasFault 76 = .ok (.iinc 1 1, 3) := by decide +kernel
theorem dX7_hasFault_79 : decode cX7_hasFault 79 = .ok (.aload_n 0, 1) := by decide +kernel
theorem dX7_hasFault_80 : decode cX7_hasFault 80 = .ok (.aload_n 0, 1) := by decide +kernel
theorem dX7_hasFault_81 : decode cX7_hasFault 81 = .ok (.getfield 216, 3) := by decide +kernel
theorem dX7_hasFault_84 : decode cX7_hasFault 84 = .ok (.putfield 226, 3) := by decide +kernel
theorem dX7_hasFault_87 : decode cX7_hasFault 87 = .ok (.goto (-75), 3) := by decide +kernel
theorem dX7_hasFault_90 : decode cX7_hasFault 90 = .ok (.iconst 0, 1) := by decide +kernel
theorem dX7_hasFault_91 : decode cX7_hasFault 91 = .ok (.ireturn, 1) := by decide +kernel
theorem dX7_fault_0 : decode cX7_fault 0 = .ok (.iload_n 1, 1) := by decide +kernel
theorem dX7_fault_1 : decode cX7_fault 1 = .ok (.i2l, 1) := by decide +kernel
theorem dX7_fault_2 : decode cX7_fault 2 = .ok (.lconst 0, 1) := by decide +kernel
theorem dX7_fault_3 : decode cX7_fault 3 = .ok (.ldc2_w 197, 3) := by decide +kernel
theorem dX7_fault_6 : decode cX7_fault 6 = .ok (.invokestatic 53, 3) := by decide +kernel
theorem dX7_fault_9 : decode cX7_fault 9 = .ok (.ifCond .ne 6, 3) := by decide +kernel
theorem dX7_fault_12 : decode cX7_fault 12 = .ok (.ldc 65, 2) := by decide +kernel
theorem dX7_fault_14 : decode cX7_fault 14 = .ok (.ireturn, 1) := by decide +kernel
theorem dX7_fault_15 : decode cX7_fault 15 = .ok (.aload_n 0, 1) := by decide +kernel
theorem dX7_fault_16 : decode cX7_fault 16 = .ok (.invokevirtual 251, 3) := by decide +kernel
theorem dX7_fault_19 : decode cX7_fault 19 = .ok (.ifCond .ne 6, 3) := by decide +kernel
theorem dX7_fault_22 : decode cX7_fault 22 = .ok (.ldc 88, 2) := by decide +kernel
theorem dX7_fault_24 : decode cX7_fault 24 = .ok (.ireturn, 1) := by decide +kernel
theorem dX7_fault_25 : decode cX7_fault 25 = .ok (.iload_n 1, 1) := by decide +kernel
theorem dX7_fault_26 : decode cX7_fault 26 = .ok (.ifCond .ne 10, 3) := by decide +kernel
theorem dX7_fault_29 : decode cX7_fault 29 = .ok (.aload_n 0, 1) := by decide +kernel
theorem dX7_fault_30 : decode cX7_fault 30 = .ok (.getfield 226, 3) := by decide +kernel
theorem dX7_fault_33 : decode cX7_fault 33 = .ok (.goto 19, 3) := by decide +kernel
theorem dX7_fault_36 : decode cX7_fault 36 = .ok (.iload_n 1, 1) := by decide +kernel
theorem dX7_fault_37 : decode cX7_fault 37 = .ok (.iconst 1, 1) := by decide +kernel
theorem dX7_fault_38 : decode cX7_fault 38 = .ok (.if_icmp .ne 10, 3) := by decide +kernel
theorem dX7_fault_41 : decode cX7_fault 41 = .ok (.aload_n 0, 1) := by decide +kernel
theorem dX7_fault_42 : decode cX7_fault 42 = .ok (.getfield 245, 3) := by decide +kernel
theorem dX7_fault_45 : decode cX7_fault 45 = .ok (.goto 7, 3) := by decide +kernel
theorem dX7_fault_48 : decode cX7_fault 48 = .ok (.aload_n 0, 1) := by decide +kernel
theorem dX7_fault_49 : decode cX7_fault 49 = .ok (.getfield 248, 3) := by decide +kernel
theorem dX7_fault_52 : decode cX7_fault 52 = .ok (.ireturn, 1) := by decide +kernel
theorem dX7_play_0 : decode cX7_play 0 = .ok (.aload_n 0, 1) := by decide +kernel
theorem dX7_play_1 : decode cX7_play 1 = .ok (.invokevirtual 251, 3) := by decide +kernel
theorem dX7_play_4 : decode cX7_play 4 = .ok (.ifCond .eq 6, 3) := by decide +kernel
theorem dX7_play_7 : decode cX7_play 7 = .ok (.ldc 74, 2) := by decide +kernel
theorem dX7_play_9 : decode cX7_play 9 = .ok (.ireturn, 1) := by decide +kernel
theorem dX7_play_10 : decode cX7_play 10 = .ok (.aload_n 0, 1) := by decide +kernel
theorem dX7_play_11 : decode cX7_play 11 = .ok (.invokevirtual 67, 3) := by decide +kernel
theorem dX7_play_14 : decode cX7_play 14 = .ok (.aload_n 0, 1) := by decide +kernel
theorem dX7_play_15 : decode cX7_play 15 = .ok (.iconst 0, 1) := by decide +kernel
theorem dX7_play_16 : decode cX7_play 16 = .ok (.putfield 226, 3) := by decide +kernel
theorem dX7_play_19 : decode cX7_play 19 = .ok (.aload_n 0, 1) := by decide +kernel
theorem dX7_play_20 : decode cX7_play 20 = .ok (.getfield 226, 3) := by decide +kernel
theorem dX7_play_23 : decode cX7_play 23 = .ok (.aload_n 0, 1) := by decide +kernel
theorem dX7_play_24 : decode cX7_play 24 = .ok (.getfield 205, 3) := by decide +kernel
theorem dX7_play_27 : decode cX7_play 27 = .ok (.if_icmp .ge 33, 3) := by decide +kernel
theorem dX7_play_30 : decode cX7_play 30 = .ok (.aload_n 0, 1) := by decide +kernel
theorem dX7_play_31 : decode cX7_play 31 = .ok (.invokevirtual 241, 3) := by decide +kernel
theorem dX7_play_34 : decode cX7_play 34 = .ok (.ifCond .eq 26, 3) := by decide +kernel
theorem dX7_play_37 : decode cX7_play 37 = .ok (.aload_n 0, 1) := by decide +kernel
theorem dX7_play_38 : decode cX7_play 38 = .ok (.aload_n 0, 1) := by decide +kernel
theorem dX7_play_39 : decode cX7_play 39 = .ok (.getfield 232, 3) := by decide +kernel
theorem dX7_play_42 : decode cX7_play 42 = .ok (.aload_n 0, 1) := by decide +kernel
theorem dX7_play_43 : decode cX7_play 43 = .ok (.getfield 238, 3) := by decide +kernel
theorem dX7_play_46 : decode cX7_play 46 = .ok (.invokevirtual 70, 3) := by decide +kernel
theorem dX7_play_49 : decode cX7_play 49 = .ok (.aload_n 0, 1) := by decide +kernel
theorem dX7_play_50 : decode cX7_play 50 = .ok (.aload_n 0, 1) := by decide +kernel
theorem dX7_play_51 : decode cX7_play 51 = .ok (.getfield 216, 3) := by decide +kernel
theorem dX7_play_54 : decode cX7_play 54 = .ok (.putfield 226, 3) := by decide +kernel
theorem dX7_play_57 : decode cX7_play 57 = .ok (.goto (-38), 3) := by decide +kernel
theorem dX7_play_60 : decode cX7_play 60 = .ok (.aload_n 0, 1) := by decide +kernel
theorem dX7_play_61 : decode cX7_play 61 = .ok (.getfield 7, 3) := by decide +kernel
theorem dX7_play_64 : decode cX7_play 64 = .ok (.iconst 0, 1) := by decide +kernel
theorem dX7_play_65 : decode cX7_play 65 = .ok (.iaload, 1) := by decide +kernel
theorem dX7_play_66 : decode cX7_play 66 = .ok (.ireturn, 1) := by decide +kernel
theorem dJ9_max_7cf53_0 : decode cJ9_max_7cf53 0 = .ok (.iload_n 0, 1) := by decide +kernel
theorem dJ9_max_7cf53_1 : decode cJ9_max_7cf53 1 = .ok (.iload_n 1, 1) := by decide +kernel
theorem dJ9_max_7cf53_2 : decode cJ9_max_7cf53 2 = .ok (.if_icmp .lt 7, 3) := by decide +kernel
theorem dJ9_max_7cf53_5 : decode cJ9_max_7cf53 5 = .ok (.iload_n 0, 1) := by decide +kernel
theorem dJ9_max_7cf53_6 : decode cJ9_max_7cf53 6 = .ok (.goto 4, 3) := by decide +kernel
theorem dJ9_max_7cf53_9 : decode cJ9_max_7cf53 9 = .ok (.iload_n 1, 1) := by decide +kernel
theorem dJ9_max_7cf53_10 : decode cJ9_max_7cf53 10 = .ok (.ireturn, 1) := by decide +kernel
theorem dJ9_min_7cf53_0 : decode cJ9_min_7cf53 0 = .ok (.iload_n 0, 1) := by decide +kernel
theorem dJ9_min_7cf53_1 : decode cJ9_min_7cf53 1 = .ok (.iload_n 1, 1) := by decide +kernel
theorem dJ9_min_7cf53_2 : decode cJ9_min_7cf53 2 = .ok (.if_icmp .gt 7, 3) := by decide +kernel
theorem dJ9_min_7cf53_5 : decode cJ9_min_7cf53 5 = .ok (.iload_n 0, 1) := by decide +kernel
theorem dJ9_min_7cf53_6 : decode cJ9_min_7cf53 6 = .ok (.goto 4, 3) := by decide +kernel
theorem dJ9_min_7cf53_9 : decode cJ9_min_7cf53 9 = .ok (.iload_n 1, 1) := by decide +kernel
theorem dJ9_min_7cf53_10 : decode cJ9_min_7cf53 10 = .ok (.ireturn, 1) := by decide +kernel
theorem dJ7_rangeCheck_23922_0 : decode cJ7_rangeCheck_23922 0 = .ok (.iload_n 1, 1) := by decide +kernel
theorem dJ7_rangeCheck_23922_1 : decode cJ7_rangeCheck_23922 1 = .ok (.iload_n 2, 1) := by decide +kernel
theorem dJ7_rangeCheck_23922_2 : decode cJ7_rangeCheck_23922 2 = .ok (.if_icmp .le 44, 3) := by decide +kernel
theorem dJ7_rangeCheck_23922_5 : decode cJ7_rangeCheck_23922 5 = .ok (.new 43, 3) := by decide +kernel
theorem dJ7_rangeCheck_23922_8 : decode cJ7_rangeCheck_23922 8 = .ok (.dup, 1) := by decide +kernel
theorem dJ7_rangeCheck_23922_9 : decode cJ7_rangeCheck_23922 9 = .ok (.new 45, 3) := by decide +kernel
theorem dJ7_rangeCheck_23922_12 : decode cJ7_rangeCheck_23922 12 = .ok (.dup, 1) := by decide +kernel
theorem dJ7_rangeCheck_23922_13 : decode cJ7_rangeCheck_23922 13 = .ok (.invokespecial 47, 3) := by decide +kernel
theorem dJ7_rangeCheck_23922_16 : decode cJ7_rangeCheck_23922 16 = .ok (.ldc 48, 2) := by decide +kernel
theorem dJ7_rangeCheck_23922_18 : decode cJ7_rangeCheck_23922 18 = .ok (.invokevirtual 50, 3) := by decide +kernel
theorem dJ7_rangeCheck_23922_21 : decode cJ7_rangeCheck_23922 21 = .ok (.iload_n 1, 1) := by decide +kernel
theorem dJ7_rangeCheck_23922_22 : decode cJ7_rangeCheck_23922 22 = .ok (.invokevirtual 54, 3) := by decide +kernel
theorem dJ7_rangeCheck_23922_25 : decode cJ7_rangeCheck_23922 25 = .ok (.ldc 57, 2) := by decide +kernel
theorem dJ7_rangeCheck_23922_27 : decode cJ7_rangeCheck_23922 27 = .ok (.invokevirtual 50, 3) := by decide +kernel
theorem dJ7_rangeCheck_23922_30 : decode cJ7_rangeCheck_23922 30 = .ok (.iload_n 2, 1) := by decide +kernel
theorem dJ7_rangeCheck_23922_31 : decode cJ7_rangeCheck_23922 31 = .ok (.invokevirtual 54, 3) := by decide +kernel
theorem dJ7_rangeCheck_23922_34 : decode cJ7_rangeCheck_23922 34 = .ok (.ldc 59, 2) := by decide +kernel
theorem dJ7_rangeCheck_23922_36 : decode cJ7_rangeCheck_23922 36 = .ok (.invokevirtual 50, 3) := by decide +kernel
theorem dJ7_rangeCheck_23922_39 : decode cJ7_rangeCheck_23922 39 = .ok (.invokevirtual 61, 3) := by decide +kernel
theorem dJ7_rangeCheck_23922_42 : decode cJ7_rangeCheck_23922 42 = .ok (.invokespecial 65, 3) := by decide +kernel
theorem dJ7_rangeCheck_23922_45 : decode cJ7_rangeCheck_23922 45 = .ok (.athrow, 1) := by decide +kernel
theorem dJ7_rangeCheck_23922_46 : decode cJ7_rangeCheck_23922 46 = .ok (.iload_n 1, 1) := by decide +kernel
theorem dJ7_rangeCheck_23922_47 : decode cJ7_rangeCheck_23922 47 = .ok (.ifCond .ge 12, 3) := by decide +kernel
theorem dJ7_rangeCheck_23922_50 : decode cJ7_rangeCheck_23922 50 = .ok (.new 68, 3) := by decide +kernel
theorem dJ7_rangeCheck_23922_53 : decode cJ7_rangeCheck_23922 53 = .ok (.dup, 1) := by decide +kernel
theorem dJ7_rangeCheck_23922_54 : decode cJ7_rangeCheck_23922 54 = .ok (.iload_n 1, 1) := by decide +kernel
theorem dJ7_rangeCheck_23922_55 : decode cJ7_rangeCheck_23922 55 = .ok (.invokespecial 70, 3) := by decide +kernel
theorem dJ7_rangeCheck_23922_58 : decode cJ7_rangeCheck_23922 58 = .ok (.athrow, 1) := by decide +kernel
theorem dJ7_rangeCheck_23922_59 : decode cJ7_rangeCheck_23922 59 = .ok (.iload_n 2, 1) := by decide +kernel
theorem dJ7_rangeCheck_23922_60 : decode cJ7_rangeCheck_23922 60 = .ok (.iload_n 0, 1) := by decide +kernel
theorem dJ7_rangeCheck_23922_61 : decode cJ7_rangeCheck_23922 61 = .ok (.if_icmp .le 12, 3) := by decide +kernel
theorem dJ7_rangeCheck_23922_64 : decode cJ7_rangeCheck_23922 64 = .ok (.new 68, 3) := by decide +kernel
theorem dJ7_rangeCheck_23922_67 : decode cJ7_rangeCheck_23922 67 = .ok (.dup, 1) := by decide +kernel
theorem dJ7_rangeCheck_23922_68 : decode cJ7_rangeCheck_23922 68 = .ok (.iload_n 2, 1) := by decide +kernel
theorem dJ7_rangeCheck_23922_69 : decode cJ7_rangeCheck_23922 69 = .ok (.invokespecial 70, 3) := by decide +kernel
theorem dJ7_rangeCheck_23922_72 : decode cJ7_rangeCheck_23922 72 = .ok (.athrow, 1) := by decide +kernel
theorem dJ7_rangeCheck_23922_73 : decode cJ7_rangeCheck_23922 73 = .ok (.return_, 1) := by decide +kernel
theorem dJ7_fill_fda19_0 : decode cJ7_fill_fda19 0 = .ok (.aload_n 0, 1) := by decide +kernel
theorem dJ7_fill_fda19_1 : decode cJ7_fill_fda19 1 = .ok (.arraylength, 1) := by decide +kernel
theorem dJ7_fill_fda19_2 : decode cJ7_fill_fda19 2 = .ok (.iload_n 1, 1) := by decide +kernel
theorem dJ7_fill_fda19_3 : decode cJ7_fill_fda19 3 = .ok (.iload_n 2, 1) := by decide +kernel
theorem dJ7_fill_fda19_4 : decode cJ7_fill_fda19 4 = .ok (.invokestatic 13, 3) := by decide +kernel
theorem dJ7_fill_fda19_7 : decode cJ7_fill_fda19 7 = .ok (.iload_n 1, 1) := by decide +kernel
theorem dJ7_fill_fda19_8 : decode cJ7_fill_fda19 8 = .ok (.istore 4, 2) := by decide +kernel
theorem dJ7_fill_fda19_10 : decode cJ7_fill_fda19 10 = .ok (.iload 4, 2) := by decide +kernel
theorem dJ7_fill_fda19_12 : decode cJ7_fill_fda19 12 = .ok (.iload_n 2, 1) := by decide +kernel
theorem dJ7_fill_fda19_13 : decode cJ7_fill_fda19 13 = .ok (.if_icmp .ge 14, 3) := by decide +kernel
theorem dJ7_fill_fda19_16 : decode cJ7_fill_fda19 16 = .ok (.aload_n 0, 1) := by decide +kernel
theorem dJ7_fill_fda19_17 : decode cJ7_fill_fda19 17 = .ok (.iload 4, 2) := by decide +kernel
theorem dJ7_fill_fda19_19 : decode cJ7_fill_fda19 19 = .ok (.iload_n 3, 1) := by decide +kernel
theorem dJ7_fill_fda19_20 : decode cJ7_fill_fda19 20 = .ok (.iastore, 1) := by decide +kernel
theorem dJ7_fill_fda19_21 : decode cJ7_fill_fda19 21 = .ok (.iinc 4 1, 3) := by decide +kernel
theorem dJ7_fill_fda19_24 : decode cJ7_fill_fda19 24 = .ok (.goto (-14), 3) := by decide +kernel
theorem dJ7_fill_fda19_27 : decode cJ7_fill_fda19 27 = .ok (.return_, 1) := by decide +kernel
theorem dL_law_0 : decode cL_law 0 = .ok (.new 7, 3) := by decide +kernel
theorem dL_law_3 : decode cL_law 3 = .ok (.dup, 1) := by decide +kernel
theorem dL_law_4 : decode cL_law 4 = .ok (.invokespecial 9, 3) := by decide +kernel
theorem dL_law_7 : decode cL_law 7 = .ok (.astore_n 1, 1) := by decide +kernel
theorem dL_law_8 : decode cL_law 8 = .ok (.new 10, 3) := by decide +kernel
theorem dL_law_11 : decode cL_law 11 = .ok (.dup, 1) := by decide +kernel
theorem dL_law_12 : decode cL_law 12 = .ok (.invokespecial 12, 3) := by decide +kernel
theorem dL_law_15 : decode cL_law 15 = .ok (.astore_n 2, 1) := by decide +kernel
theorem dL_law_16 : decode cL_law 16 = .ok (.iconst 0, 1) := by decide +kernel
theorem dL_law_17 : decode cL_law 17 = .ok (.istore_n 3, 1) := by decide +kernel
theorem dL_law_18 : decode cL_law 18 = .ok (.iload_n 3, 1) := by decide +kernel
theorem dL_law_19 : decode cL_law 19 = .ok (.aload_n 0, 1) := by decide +kernel
theorem dL_law_20 : decode cL_law 20 = .ok (.arraylength, 1) := by decide +kernel
theorem dL_law_21 : decode cL_law 21 = .ok (.iconst 4, 1) := by decide +kernel
theorem dL_law_22 : decode cL_law 22 = .ok (.isub, 1) := by decide +kernel
theorem dL_law_23 : decode cL_law 23 = .ok (.if_icmp .gt 611, 3) := by decide +kernel
theorem dL_law_26 : decode cL_law 26 = .ok (.aload_n 0, 1) := by decide +kernel
theorem dL_law_27 : decode cL_law 27 = .ok (.iload_n 3, 1) := by decide +kernel
theorem dL_law_28 : decode cL_law 28 = .ok (.iaload, 1) := by decide +kernel
theorem dL_law_29 : decode cL_law 29 = .ok (.bipush 31, 2) := by decide +kernel
theorem dL_law_31 : decode cL_law 31 = .ok (.iand, 1) := by decide +kernel
theorem dL_law_32 : decode cL_law 32 = .ok (.tableswitch 596 0 19 #[96, 129, 152, 165, 198, 231, 264, 287, 330, 363, 386, 419, 452, 465, 488, 511, 524, 547, 560, 583], 96) := by decide +kernel
theorem dL_law_128 : decode cL_law 128 = .ok (.aload_n 1, 1) := by decide +kernel
theorem dL_law_129 : decode cL_law 129 = .ok (.aload_n 0, 1) := by decide +kernel
theorem dL_law_130 : decode cL_law 130 = .ok (.iload_n 3, 1) := by decide +kernel
theorem dL_law_131 : decode cL_law 131 = .ok (.iconst 1, 1) := by decide +kernel
theorem dL_law_132 : decode cL_law 132 = .ok (.iadd, 1) := by decide +kernel
theorem dL_law_133 : decode cL_law 133 = .ok (.iaload, 1) := by decide +kernel
theorem dL_law_134 : decode cL_law 134 = .ok (.aload_n 0, 1) := by decide +kernel
theorem dL_law_135 : decode cL_law 135 = .ok (.iload_n 3, 1) := by decide +kernel
theorem dL_law_136 : decode cL_law 136 = .ok (.iconst 2, 1) := by decide +kernel
theorem dL_law_137 : decode cL_law 137 = .ok (.iadd, 1) := by decide +kernel
theorem dL_law_138 : decode cL_law 138 = .ok (.iaload, 1) := by decide +kernel
theorem dL_law_139 : decode cL_law 139 = .ok (.invokevirtual 13, 3) := by decide +kernel
theorem dL_law_142 : decode cL_law 142 = .ok (.aload_n 2, 1) := by decide +kernel
theorem dL_law_143 : decode cL_law 143 = .ok (.aload_n 0, 1) := by decide +kernel
theorem dL_law_144 : decode cL_law 144 = .ok (.iload_n 3, 1) := by decide +kernel
theorem dL_law_145 : decode cL_law 145 = .ok (.iconst 1, 1) := by decide +kernel
theorem dL_law_146 : decode cL_law 146 = .ok (.iadd, 1) := by decide +kernel
theorem dL_law_147 : decode cL_law 147 = .ok (.iaload, 1) := by decide +kernel
theorem dL_law_148 : decode cL_law 148 = .ok (.aload_n 0, 1) := by decide +kernel
theorem dL_law_149 : decode cL_law 149 = .ok (.iload_n 3, 1) := by decide +kernel
theorem dL_law_150 : decode cL_law 150 = .ok (.iconst 2, 1) := by decide +kernel
theorem dL_law_151 : decode cL_law 151 = .ok (.iadd, 1) := by decide +kernel
theorem dL_law_152 : decode cL_law 152 = .ok (.iaload, 1) := by decide +kernel
theorem dL_law_153 : decode cL_law 153 = .ok (.invokevirtual 17, 3) := by decide +kernel
theorem dL_law_156 : decode cL_law 156 = .ok (.if_icmp .eq 472, 3) := by decide +kernel
theorem dL_law_159 : decode cL_law 159 = .ok (.iconst 0, 1) := by decide +kernel
theorem dL_law_160 : decode cL_law 160 = .ok (.ireturn, 1) := by decide +kernel
theorem dL_law_161 : decode cL_law 161 = .ok (.aload_n 1, 1) := by decide +kernel
theorem dL_law_162 : decode cL_law 162 = .ok (.aload_n 0, 1) := by decide +kernel
theorem dL_law_163 : decode cL_law 163 = .ok (.iload_n 3, 1) := by decide +kernel
theorem dL_law_164 : decode cL_law 164 = .ok (.iconst 1, 1) := by decide +kernel
theorem dL_law_165 : decode cL_law 165 = .ok (.iadd, 1) := by decide +kernel
theorem dL_law_166 : decode cL_law 166 = .ok (.iaload, 1) := by decide +kernel
theorem dL_law_167 : decode cL_law 167 = .ok (.invokevirtual 18, 3) := by decide +kernel
theorem dL_law_170 : decode cL_law 170 = .ok (.aload_n 2, 1) := by decide +kernel
theorem dL_law_171 : decode cL_law 171 = .ok (.aload_n 0, 1) := by decide +kernel
theorem dL_law_172 : decode cL_law 172 = .ok (.iload_n 3, 1) := by decide +kernel
theorem dL_law_173 : decode cL_law 173 = .ok (.iconst 1, 1) := by decide +kernel
theorem dL_law_174 : decode cL_law 174 = .ok (.iadd, 1) := by decide +kernel
theorem dL_law_175 : decode cL_law 175 = .ok (.iaload, 1) := by decide +kernel
theorem dL_law_176 : decode cL_law 176 = .ok (.invokevirtual 22, 3) := by decide +kernel
theorem dL_law_179 : decode cL_law 179 = .ok (.if_icmp .eq 449, 3) := by decide +kernel
theorem dL_law_182 : decode cL_law 182 = .ok (.iconst 0, 1) := by decide +kernel
theorem dL_law_183 : decode cL_law 183 = .ok (.ireturn, 1) := by decide +kernel
theorem dL_law_184 : decode cL_law 184 = .ok (.aload_n 1, 1) := by decide +kernel
theorem dL_law_185 : decode cL_law 185 = .ok (.invokevirtual 23, 3) := by decide +kernel
theorem dL_law_188 : decode cL_law 188 = .ok (.aload_n 2, 1) := by decide +kernel
theorem dL_law_189 : decode cL_law 189 = .ok (.invokevirtual 27, 3) := by decide +kernel
theorem dL_law_192 : decode cL_law 192 = .ok (.if_icmp .eq 436, 3) := by decide +kernel
theorem dL_law_195 : decode cL_law 195 = .ok (.iconst 0, 1) := by decide +kernel
theorem dL_law_196 : decode cL_law 196 = .ok (.ireturn, 1) := by decide +kernel
theorem dL_law_197 : decode cL_law 197 = .ok (.aload_n 1, 1) := by decide +kernel
theorem dL_law_198 : decode cL_law 198 = .ok (.aload_n 0, 1) := by decide +kernel
theorem dL_law_199 : decode cL_law 199 = .ok (.iload_n 3, 1) := by decide +kernel
theorem dL_law_200 : decode cL_law 200 = .ok (.iconst 1, 1) := by decide +kernel
theorem dL_law_201 : decode cL_law 201 = .ok (.iadd, 1) := by decide +kernel
theorem dL_law_202 : decode cL_law 202 = .ok (.iaload, 1) := by decide +kernel
theorem dL_law_203 : decode cL_law 203 = .ok (.aload_n 0, 1) := by decide +kernel
theorem dL_law_204 : decode cL_law 204 = .ok (.iload_n 3, 1) := by decide +kernel
theorem dL_law_205 : decode cL_law 205 = .ok (.iconst 2, 1) := by decide +kernel
theorem dL_law_206 : decode cL_law 206 = .ok (.iadd, 1) := by decide +kernel
theorem dL_law_207 : decode cL_law 207 = .ok (.iaload, 1) := by decide +kernel
theorem dL_law_208 : decode cL_law 208 = .ok (.invokevirtual 28, 3) := by decide +kernel
theorem dL_law_211 : decode cL_law 211 = .ok (.aload_n 2, 1) := by decide +kernel
theorem dL_law_212 : decode cL_law 212 = .ok (.aload_n 0, 1) := by decide +kernel
theorem dL_law_213 : decode cL_law 213 = .ok (.iload_n 3, 1) := by decide +kernel
theorem dL_law_214 : decode cL_law 214 = .ok (.iconst 1, 1) := by decide +kernel
theorem dL_law_215 : decode cL_law 215 = .ok (.iadd, 1) := by decide +kernel
theorem dL_law_216 : decode cL_law 216 = .ok (.iaload, 1) := by decide +kernel
theorem dL_law_217 : decode cL_law 217 = .ok (.aload_n 0, 1) := by decide +kernel
theorem dL_law_218 : decode cL_law 218 = .ok (.iload_n 3, 1) := by decide +kernel
theorem dL_law_219 : decode cL_law 219 = .ok (.iconst 2, 1) := by decide +kernel
theorem dL_law_220 : decode cL_law 220 = .ok (.iadd, 1) := by decide +kernel
theorem dL_law_221 : decode cL_law 221 = .ok (.iaload, 1) := by decide +kernel
theorem dL_law_222 : decode cL_law 222 = .ok (.invokevirtual 31, 3) := by decide +kernel
theorem dL_law_225 : decode cL_law 225 = .ok (.if_icmp .eq 403, 3) := by decide +kernel
theorem dL_law_228 : decode cL_law 228 = .ok (.iconst 0, 1) := by decide +kernel
theorem dL_law_229 : decode cL_law 229 = .ok (.ireturn, 1) := by decide +kernel
theorem dL_law_230 : decode cL_law 230 = .ok (.aload_n 1, 1) := by decide +kernel
theorem dL_law_231 : decode cL_law 231 = .ok (.aload_n 0, 1) := by decide +kernel
theorem dL_law_232 : decode cL_law 232 = .ok (.iload_n 3, 1) := by decide +kernel
theorem dL_law_233 : decode cL_law 233 = .ok (.iconst 1, 1) := by decide +kernel
theorem dL_law_234 : decode cL_law 234 = .ok (.iadd, 1) := by decide +kernel
theorem dL_law_235 : decode cL_law 235 = .ok (.iaload, 1) := by decide +kernel
theorem dL_law_236 : decode cL_law 236 = .ok (.aload_n 0, 1) := by decide +kernel
theorem dL_law_237 : decode cL_law 237 = .ok (.iload_n 3, 1) := by decide +kernel
theorem dL_law_238 : decode cL_law 238 = .ok (.iconst 2, 1) := by decide +kernel
theorem dL_law_239 : decode cL_law 239 = .ok (.iadd, 1) := by decide +kernel
theorem dL_law_240 : decode cL_law 240 = .ok (.iaload, 1) := by decide +kernel
theorem dL_law_241 : decode cL_law 241 = .ok (.invokevirtual 32, 3) := by decide +kernel
theorem dL_law_244 : decode cL_law 244 = .ok (.aload_n 2, 1) := by decide +kernel
theorem dL_law_245 : decode cL_law 245 = .ok (.aload_n 0, 1) := by decide +kernel
theorem dL_law_246 : decode cL_law 246 = .ok (.iload_n 3, 1) := by decide +kernel
theorem dL_law_247 : decode cL_law 247 = .ok (.iconst 1, 1) := by decide +kernel
theorem dL_law_248 : decode cL_law 248 = .ok (.iadd, 1) := by decide +kernel
theorem dL_law_249 : decode cL_law 249 = .ok (.iaload, 1) := by decide +kernel
theorem dL_law_250 : decode cL_law 250 = .ok (.aload_n 0, 1) := by decide +kernel
theorem dL_law_251 : decode cL_law 251 = .ok (.iload_n 3, 1) := by decide +kernel
theorem dL_law_252 : decode cL_law 252 = .ok (.iconst 2, 1) := by decide +kernel
theorem dL_law_253 : decode cL_law 253 = .ok (.iadd, 1) := by decide +kernel
theorem dL_law_254 : decode cL_law 254 = .ok (.iaload, 1) := by decide +kernel
theorem dL_law_255 : decode cL_law 255 = .ok (.invokevirtual 35, 3) := by decide +kernel
theorem dL_law_258 : decode cL_law 258 = .ok (.if_icmp .eq 370, 3) := by decide +kernel
theorem dL_law_261 : decode cL_law 261 = .ok (.iconst 0, 1) := by decide +kernel
theorem dL_law_262 : decode cL_law 262 = .ok (.ireturn, 1) := by decide +kernel
theorem dL_law_263 : decode cL_law 263 = .ok (.aload_n 1, 1) := by decide +kernel
theorem dL_law_264 : decode cL_law 264 = .ok (.aload_n 0, 1) := by decide +kernel
theorem dL_law_265 : decode cL_law 265 = .ok (.iload_n 3, 1) := by decide +kernel
theorem dL_law_266 : decode cL_law 266 = .ok (.iconst 1, 1) := by decide +kernel
theorem dL_law_267 : decode cL_law 267 = .ok (.iadd, 1) := by decide +kernel
theorem dL_law_268 : decode cL_law 268 = .ok (.iaload, 1) := by decide +kernel
theorem dL_law_269 : decode cL_law 269 = .ok (.aload_n 0, 1) := by decide +kernel
theorem dL_law_270 : decode cL_law 270 = .ok (.iload_n 3, 1) := by decide +kernel
theorem dL_law_271 : decode cL_law 271 = .ok (.iconst 2, 1) := by decide +kernel
theorem dL_law_272 : decode cL_law 272 = .ok (.iadd, 1) := by decide +kernel
theorem dL_law_273 : decode cL_law 273 = .ok (.iaload, 1) := by decide +kernel
theorem dL_law_274 : decode cL_law 274 = .ok (.invokevirtual 36, 3) := by decide +kernel
theorem dL_law_277 : decode cL_law 277 = .ok (.aload_n 2, 1) := by decide +kernel
theorem dL_law_278 : decode cL_law 278 = .ok (.aload_n 0, 1) := by decide +kernel
theorem dL_law_279 : decode cL_law 279 = .ok (.iload_n 3, 1) := by decide +kernel
theorem dL_law_280 : decode cL_law 280 = .ok (.iconst 1, 1) := by decide +kernel
theorem dL_law_281 : decode cL_law 281 = .ok (.iadd, 1) := by decide +kernel
theorem dL_law_282 : decode cL_law 282 = .ok (.iaload, 1) := by decide +kernel
theorem dL_law_283 : decode cL_law 283 = .ok (.aload_n 0, 1) := by decide +kernel
theorem dL_law_284 : decode cL_law 284 = .ok (.iload_n 3, 1) := by decide +kernel
theorem dL_law_285 : decode cL_law 285 = .ok (.iconst 2, 1) := by decide +kernel
theorem dL_law_286 : decode cL_law 286 = .ok (.iadd, 1) := by decide +kernel
theorem dL_law_287 : decode cL_law 287 = .ok (.iaload, 1) := by decide +kernel
theorem dL_law_288 : decode cL_law 288 = .ok (.invokevirtual 39, 3) := by decide +kernel
theorem dL_law_291 : decode cL_law 291 = .ok (.if_icmp .eq 337, 3) := by decide +kernel
theorem dL_law_294 : decode cL_law 294 = .ok (.iconst 0, 1) := by decide +kernel
theorem dL_law_295 : decode cL_law 295 = .ok (.ireturn, 1) := by decide +kernel
theorem dL_law_296 : decode cL_law 296 = .ok (.aload_n 1, 1) := by decide +kernel
theorem dL_law_297 : decode cL_law 297 = .ok (.aload_n 0, 1) := by decide +kernel
theorem dL_law_298 : decode cL_law 298 = .ok (.iload_n 3, 1) := by decide +kernel
theorem dL_law_299 : decode cL_law 299 = .ok (.iconst 1, 1) := by decide +kernel
theorem dL_law_300 : decode cL_law 300 = .ok (.iadd, 1) := by decide +kernel
theorem dL_law_301 : decode cL_law 301 = .ok (.iaload, 1) := by decide +kernel
theorem dL_law_302 : decode cL_law 302 = .ok (.invokevirtual 40, 3) := by decide +kernel
theorem dL_law_305 : decode cL_law 305 = .ok (.aload_n 2, 1) := by decide +kernel
theorem dL_law_306 : decode cL_law 306 = .ok (.aload_n 0, 1) := by decide +kernel
theorem dL_law_307 : decode cL_law 307 = .ok (.iload_n 3, 1) := by decide +kernel
theorem dL_law_308 : decode cL_law 308 = .ok (.iconst 1, 1) := by decide +kernel
theorem dL_law_309 : decode cL_law 309 = .ok (.iadd, 1) := by decide +kernel
theorem dL_law_310 : decode cL_law 310 = .ok (.iaload, 1) := by decide +kernel
theorem dL_law_311 : decode cL_law 311 = .ok (.invokevirtual 43, 3) := by decide +kernel
theorem dL_law_314 : decode cL_law 314 = .ok (.if_icmp .eq 314, 3) := by decide +kernel
theorem dL_law_317 : decode cL_law 317 = .ok (.iconst 0, 1) := by decide +kernel
theorem dL_law_318 : decode cL_law 318 = .ok (.ireturn, 1) := by decide +kernel
theorem dL_law_319 : decode cL_law 319 = .ok (.aload_n 1, 1) := by decide +kernel
theorem dL_law_320 : decode cL_law 320 = .ok (.aload_n 0, 1) := by decide +kernel
theorem dL_law_321 : decode cL_law 321 = .ok (.iload_n 3, 1) := by decide +kernel
theorem dL_law_322 : decode cL_law 322 = .ok (.iconst 1, 1) := by decide +kernel
theorem dL_law_323 : decode cL_law 323 = .ok (.iadd, 1) := by decide +kernel
theorem dL_law_324 : decode cL_law 324 = .ok (.iaload, 1) := by decide +kernel
theorem dL_law_325 : decode cL_law 325 = .ok (.aload_n 0, 1) := by decide +kernel
theorem dL_law_326 : decode cL_law 326 = .ok (.iload_n 3, 1) := by decide +kernel
theorem dL_law_327 : decode cL_law 327 = .ok (.iconst 2, 1) := by decide +kernel
theorem dL_law_328 : decode cL_law 328 = .ok (.iadd, 1) := by decide +kernel
theorem dL_law_329 : decode cL_law 329 = .ok (.iaload, 1) := by decide +kernel
theorem dL_law_330 : decode cL_law 330 = .ok (.aload_n 0, 1) := by decide +kernel
theorem dL_law_331 : decode cL_law 331 = .ok (.iload_n 3, 1) := by decide +kernel
theorem dL_law_332 : decode cL_law 332 = .ok (.iconst 3, 1) := by decide +kernel
theorem dL_law_333 : decode cL_law 333 = .ok (.iadd, 1) := by decide +kernel
theorem dL_law_334 : decode cL_law 334 = .ok (.iaload, 1) := by decide +kernel
theorem dL_law_335 : decode cL_law 335 = .ok (.invokevirtual 44, 3) := by decide +kernel
theorem dL_law_338 : decode cL_law 338 = .ok (.aload_n 2, 1) := by decide +kernel
theorem dL_law_339 : decode cL_law 339 = .ok (.aload_n 0, 1) := by decide +kernel
theorem dL_law_340 : decode cL_law 340 = .ok (.iload_n 3, 1) := by decide +kernel
theorem dL_law_341 : decode cL_law 341 = .ok (.iconst 1, 1) := by decide +kernel
theorem dL_law_342 : decode cL_law 342 = .ok (.iadd, 1) := by decide +kernel
theorem dL_law_343 : decode cL_law 343 = .ok (.iaload, 1) := by decide +kernel
theorem dL_law_344 : decode cL_law 344 = .ok (.aload_n 0, 1) := by decide +kernel
theorem dL_law_345 : decode cL_law 345 = .ok (.iload_n 3, 1) := by decide +kernel
theorem dL_law_346 : decode cL_law 346 = .ok (.iconst 2, 1) := by decide +kernel
theorem dL_law_347 : decode cL_law 347 = .ok (.iadd, 1) := by decide +kernel
theorem dL_law_348 : decode cL_law 348 = .ok (.iaload, 1) := by decide +kernel
theorem dL_law_349 : decode cL_law 349 = .ok (.aload_n 0, 1) := by decide +kernel
theorem dL_law_350 : decode cL_law 350 = .ok (.iload_n 3, 1) := by decide +kernel
theorem dL_law_351 : decode cL_law 351 = .ok (.iconst 3, 1) := by decide +kernel
theorem dL_law_352 : decode cL_law 352 = .ok (.iadd, 1) := by decide +kernel
theorem dL_law_353 : decode cL_law 353 = .ok (.iaload, 1) := by decide +kernel
theorem dL_law_354 : decode cL_law 354 = .ok (.invokevirtual 48, 3) := by decide +kernel
theorem dL_law_357 : decode cL_law 357 = .ok (.if_icmp .eq 271, 3) := by decide +kernel
theorem dL_law_360 : decode cL_law 360 = .ok (.iconst 0, 1) := by decide +kernel
theorem dL_law_361 : decode cL_law 361 = .ok (.ireturn, 1) := by decide +kernel
theorem dL_law_362 : decode cL_law 362 = .ok (.aload_n 1, 1) := by decide +kernel
theorem dL_law_363 : decode cL_law 363 = .ok (.aload_n 0, 1) := by decide +kernel
theorem dL_law_364 : decode cL_law 364 = .ok (.iload_n 3, 1) := by decide +kernel
theorem dL_law_365 : decode cL_law 365 = .ok (.iconst 1, 1) := by decide +kernel
theorem dL_law_366 : decode cL_law 366 = .ok (.iadd, 1) := by decide +kernel
theorem dL_law_367 : decode cL_law 367 = .ok (.iaload, 1) := by decide +kernel
theorem dL_law_368 : decode cL_law 368 = .ok (.aload_n 0, 1) := by decide +kernel
theorem dL_law_369 : decode cL_law 369 = .ok (.iload_n 3, 1) := by decide +kernel
theorem dL_law_370 : decode cL_law 370 = .ok (.iconst 2, 1) := by decide +kernel
theorem dL_law_371 : decode cL_law 371 = .ok (.iadd, 1) := by decide +kernel
theorem dL_law_372 : decode cL_law 372 = .ok (.iaload, 1) := by decide +kernel
theorem dL_law_373 : decode cL_law 373 = .ok (.invokevirtual 49, 3) := by decide +kernel
theorem dL_law_376 : decode cL_law 376 = .ok (.aload_n 2, 1) := by decide +kernel
theorem dL_law_377 : decode cL_law 377 = .ok (.aload_n 0, 1) := by decide +kernel
theorem dL_law_378 : decode cL_law 378 = .ok (.iload_n 3, 1) := by decide +kernel
theorem dL_law_379 : decode cL_law 379 = .ok (.iconst 1, 1) := by decide +kernel
theorem dL_law_380 : decode cL_law 380 = .ok (.iadd, 1) := by decide +kernel
theorem dL_law_381 : decode cL_law 381 = .ok (.iaload, 1) := by decide +kernel
theorem dL_law_382 : decode cL_law 382 = .ok (.aload_n 0, 1) := by decide +kernel
theorem dL_law_383 : decode cL_law 383 = .ok (.iload_n 3, 1) := by decide +kernel
theorem dL_law_384 : decode cL_law 384 = .ok (.iconst 2, 1) := by decide +kernel
theorem dL_law_385 : decode cL_law 385 = .ok (.iadd, 1) := by decide +kernel
theorem dL_law_386 : decode cL_law 386 = .ok (.iaload, 1) := by decide +kernel
theorem dL_law_387 : decode cL_law 387 = .ok (.invokevirtual 52, 3) := by decide +kernel
theorem dL_law_390 : decode cL_law 390 = .ok (.if_icmp .eq 238, 3) := by decide +kernel
theorem dL_law_393 : decode cL_law 393 = .ok (.iconst 0, 1) := by decide +kernel
theorem dL_law_394 : decode cL_law 394 = .ok (.ireturn, 1) := by decide +kernel
theorem dL_law_395 : decode cL_law 395 = .ok (.aload_n 1, 1) := by decide +kernel
theorem dL_law_396 : decode cL_law 396 = .ok (.aload_n 0, 1) := by decide +kernel
theorem dL_law_397 : decode cL_law 397 = .ok (.iload_n 3, 1) := by decide +kernel
theorem dL_law_398 : decode cL_law 398 = .ok (.iconst 1, 1) := by decide +kernel
theorem dL_law_399 : decode cL_law 399 = .ok (.iadd, 1) := by decide +kernel
theorem dL_law_400 : decode cL_law 400 = .ok (.iaload, 1) := by decide +kernel
theorem dL_law_401 : decode cL_law 401 = .ok (.invokevirtual 53, 3) := by decide +kernel
theorem dL_law_404 : decode cL_law 404 = .ok (.aload_n 2, 1) := by decide +kernel
theorem dL_law_405 : decode cL_law 405 = .ok (.aload_n 0, 1) := by decide +kernel
theorem dL_law_406 : decode cL_law 406 = .ok (.iload_n 3, 1) := by decide +kernel
theorem dL_law_407 : decode cL_law 407 = .ok (.iconst 1, 1) := by decide +kernel
theorem dL_law_408 : decode cL_law 408 = .ok (.iadd, 1) := by decide +kernel
theorem dL_law_409 : decode cL_law 409 = .ok (.iaload, 1) := by decide +kernel
theorem dL_law_410 : decode cL_law 410 = .ok (.invokevirtual 56, 3) := by decide +kernel
theorem dL_law_413 : decode cL_law 413 = .ok (.if_icmp .eq 215, 3) := by decide +kernel
theorem dL_law_416 : decode cL_law 416 = .ok (.iconst 0, 1) := by decide +kernel
theorem dL_law_417 : decode cL_law 417 = .ok (.ireturn, 1) := by decide +kernel
theorem dL_law_418 : decode cL_law 418 = .ok (.aload_n 1, 1) := by decide +kernel
theorem dL_law_419 : decode cL_law 419 = .ok (.aload_n 0, 1) := by decide +kernel
theorem dL_law_420 : decode cL_law 420 = .ok (.iload_n 3, 1) := by decide +kernel
theorem dL_law_421 : decode cL_law 421 = .ok (.iconst 1, 1) := by decide +kernel
theorem dL_law_422 : decode cL_law 422 = .ok (.iadd, 1) := by decide +kernel
theorem dL_law_423 : decode cL_law 423 = .ok (.iaload, 1) := by decide +kernel
theorem dL_law_424 : decode cL_law 424 = .ok (.aload_n 0, 1) := by decide +kernel
theorem dL_law_425 : decode cL_law 425 = .ok (.iload_n 3, 1) := by decide +kernel
theorem dL_law_426 : decode cL_law 426 = .ok (.iconst 2, 1) := by decide +kernel
theorem dL_law_427 : decode cL_law 427 = .ok (.iadd, 1) := by decide +kernel
theorem dL_law_428 : decode cL_law 428 = .ok (.iaload, 1) := by decide +kernel
theorem dL_law_429 : decode cL_law 429 = .ok (.invokevirtual 57, 3) := by decide +kernel
theorem dL_law_432 : decode cL_law 432 = .ok (.aload_n 2, 1) := by decide +kernel
theorem dL_law_433 : decode cL_law 433 = .ok (.aload_n 0, 1) := by decide +kernel
theorem dL_law_434 : decode cL_law 434 = .ok (.iload_n 3, 1) := by decide +kernel
theorem dL_law_435 : decode cL_law 435 = .ok (.iconst 1, 1) := by decide +kernel
theorem dL_law_436 : decode cL_law 436 = .ok (.iadd, 1) := by decide +kernel
theorem dL_law_437 : decode cL_law 437 = .ok (.iaload, 1) := by decide +kernel
theorem dL_law_438 : decode cL_law 438 = .ok (.aload_n 0, 1) := by decide +kernel
theorem dL_law_439 : decode cL_law 439 = .ok (.iload_n 3, 1) := by decide +kernel
theorem dL_law_440 : decode cL_law 440 = .ok (.iconst 2, 1) := by decide +kernel
theorem dL_law_441 : decode cL_law 441 = .ok (.iadd, 1) := by decide +kernel
theorem dL_law_442 : decode cL_law 442 = .ok (.iaload, 1) := by decide +kernel
theorem dL_law_443 : decode cL_law 443 = .ok (.invokevirtual 60, 3) := by decide +kernel
theorem dL_law_446 : decode cL_law 446 = .ok (.if_icmp .eq 182, 3) := by decide +kernel
theorem dL_law_449 : decode cL_law 449 = .ok (.iconst 0, 1) := by decide +kernel
theorem dL_law_450 : decode cL_law 450 = .ok (.ireturn, 1) := by decide +kernel
theorem dL_law_451 : decode cL_law 451 = .ok (.aload_n 1, 1) := by decide +kernel
theorem dL_law_452 : decode cL_law 452 = .ok (.aload_n 0, 1) := by decide +kernel
theorem dL_law_453 : decode cL_law 453 = .ok (.iload_n 3, 1) := by decide +kernel
theorem dL_law_454 : decode cL_law 454 = .ok (.iconst 1, 1) := by decide +kernel
theorem dL_law_455 : decode cL_law 455 = .ok (.iadd, 1) := by decide +kernel
theorem dL_law_456 : decode cL_law 456 = .ok (.iaload, 1) := by decide +kernel
theorem dL_law_457 : decode cL_law 457 = .ok (.aload_n 0, 1) := by decide +kernel
theorem dL_law_458 : decode cL_law 458 = .ok (.iload_n 3, 1) := by decide +kernel
theorem dL_law_459 : decode cL_law 459 = .ok (.iconst 2, 1) := by decide +kernel
theorem dL_law_460 : decode cL_law 460 = .ok (.iadd, 1) := by decide +kernel
theorem dL_law_461 : decode cL_law 461 = .ok (.iaload, 1) := by decide +kernel
theorem dL_law_462 : decode cL_law 462 = .ok (.invokevirtual 61, 3) := by decide +kernel
theorem dL_law_465 : decode cL_law 465 = .ok (.aload_n 2, 1) := by decide +kernel
theorem dL_law_466 : decode cL_law 466 = .ok (.aload_n 0, 1) := by decide +kernel
theorem dL_law_467 : decode cL_law 467 = .ok (.iload_n 3, 1) := by decide +kernel
theorem dL_law_468 : decode cL_law 468 = .ok (.iconst 1, 1) := by decide +kernel
theorem dL_law_469 : decode cL_law 469 = .ok (.iadd, 1) := by decide +kernel
theorem dL_law_470 : decode cL_law 470 = .ok (.iaload, 1) := by decide +kernel
theorem dL_law_471 : decode cL_law 471 = .ok (.aload_n 0, 1) := by decide +kernel
theorem dL_law_472 : decode cL_law 472 = .ok (.iload_n 3, 1) := by decide +kernel
theorem dL_law_473 : decode cL_law 473 = .ok (.iconst 2, 1) := by decide +kernel
theorem dL_law_474 : decode cL_law 474 = .ok (.iadd, 1) := by decide +kernel
theorem dL_law_475 : decode cL_law 475 = .ok (.iaload, 1) := by decide +kernel
theorem dL_law_476 : decode cL_law 476 = .ok (.invokevirtual 64, 3) := by decide +kernel
theorem dL_law_479 : decode cL_law 479 = .ok (.if_icmp .eq 149, 3) := by decide +kernel
theorem dL_law_482 : decode cL_law 482 = .ok (.iconst 0, 1) := by decide +kernel
theorem dL_law_483 : decode cL_law 483 = .ok (.ireturn, 1) := by decide +kernel
theorem dL_law_484 : decode cL_law 484 = .ok (.aload_n 1, 1) := by decide +kernel
theorem dL_law_485 : decode cL_law 485 = .ok (.invokevirtual 65, 3) := by decide +kernel
theorem dL_law_488 : decode cL_law 488 = .ok (.aload_n 2, 1) := by decide +kernel
theorem dL_law_489 : decode cL_law 489 = .ok (.invokevirtual 68, 3) := by decide +kernel
theorem dL_law_492 : decode cL_law 492 = .ok (.if_icmp .eq 136, 3) := by decide +kernel
theorem dL_law_495 : decode cL_law 495 = .ok (.iconst 0, 1) := by decide +kernel
theorem dL_law_496 : decode cL_law 496 = .ok (.ireturn, 1) := by decide +kernel
theorem dL_law_497 : decode cL_law 497 = .ok (.aload_n 1, 1) := by decide +kernel
theorem dL_law_498 : decode cL_law 498 = .ok (.aload_n 0, 1) := by decide +kernel
theorem dL_law_499 : decode cL_law 499 = .ok (.iload_n 3, 1) := by decide +kernel
theorem dL_law_500 : decode cL_law 500 = .ok (.iconst 1, 1) := by decide +kernel
theorem dL_law_501 : decode cL_law 501 = .ok (.iadd, 1) := by decide +kernel
theorem dL_law_502 : decode cL_law 502 = .ok (.iaload, 1) := by decide +kernel
theorem dL_law_503 : decode cL_law 503 = .ok (.invokevirtual 69, 3) := by decide +kernel
theorem dL_law_506 : decode cL_law 506 = .ok (.aload_n 2, 1) := by decide +kernel
theorem dL_law_507 : decode cL_law 507 = .ok (.aload_n 0, 1) := by decide +kernel
theorem dL_law_508 : decode cL_law 508 = .ok (.iload_n 3, 1) := by decide +kernel
theorem dL_law_509 : decode cL_law 509 = .ok (.iconst 1, 1) := by decide +kernel
theorem dL_law_510 : decode cL_law 510 = .ok (.iadd, 1) := by decide +kernel
theorem dL_law_511 : decode cL_law 511 = .ok (.iaload, 1) := by decide +kernel
theorem dL_law_512 : decode cL_law 512 = .ok (.invokevirtual 72, 3) := by decide +kernel
theorem dL_law_515 : decode cL_law 515 = .ok (.if_icmp .eq 113, 3) := by decide +kernel
theorem dL_law_518 : decode cL_law 518 = .ok (.iconst 0, 1) := by decide +kernel
theorem dL_law_519 : decode cL_law 519 = .ok (.ireturn, 1) := by decide +kernel
theorem dL_law_520 : decode cL_law 520 = .ok (.aload_n 1, 1) := by decide +kernel
theorem dL_law_521 : decode cL_law 521 = .ok (.aload_n 0, 1) := by decide +kernel
theorem dL_law_522 : decode cL_law 522 = .ok (.iload_n 3, 1) := by decide +kernel
theorem dL_law_523 : decode cL_law 523 = .ok (.iconst 1, 1) := by decide +kernel
theorem dL_law_524 : decode cL_law 524 = .ok (.iadd, 1) := by decide +kernel
theorem dL_law_525 : decode cL_law 525 = .ok (.iaload, 1) := by decide +kernel
theorem dL_law_526 : decode cL_law 526 = .ok (.invokevirtual 73, 3) := by decide +kernel
theorem dL_law_529 : decode cL_law 529 = .ok (.aload_n 2, 1) := by decide +kernel
theorem dL_law_530 : decode cL_law 530 = .ok (.aload_n 0, 1) := by decide +kernel
theorem dL_law_531 : decode cL_law 531 = .ok (.iload_n 3, 1) := by decide +kernel
theorem dL_law_532 : decode cL_law 532 = .ok (.iconst 1, 1) := by decide +kernel
theorem dL_law_533 : decode cL_law 533 = .ok (.iadd, 1) := by decide +kernel
theorem dL_law_534 : decode cL_law 534 = .ok (.iaload, 1) := by decide +kernel
theorem dL_law_535 : decode cL_law 535 = .ok (.invokevirtual 76, 3) := by decide +kernel
theorem dL_law_538 : decode cL_law 538 = .ok (.if_icmp .eq 90, 3) := by decide +kernel
theorem dL_law_541 : decode cL_law 541 = .ok (.iconst 0, 1) := by decide +kernel
theorem dL_law_542 : decode cL_law 542 = .ok (.ireturn, 1) := by decide +kernel
theorem dL_law_543 : decode cL_law 543 = .ok (.aload_n 1, 1) := by decide +kernel
theorem dL_law_544 : decode cL_law 544 = .ok (.invokevirtual 77, 3) := by decide +kernel
theorem dL_law_547 : decode cL_law 547 = .ok (.aload_n 2, 1) := by decide +kernel
theorem dL_law_548 : decode cL_law 548 = .ok (.invokevirtual 80, 3) := by decide +kernel
theorem dL_law_551 : decode cL_law 551 = .ok (.if_icmp .eq 77, 3) := by decide +kernel
theorem dL_law_554 : decode cL_law 554 = .ok (.iconst 0, 1) := by decide +kernel
theorem dL_law_555 : decode cL_law 555 = .ok (.ireturn, 1) := by decide +kernel
theorem dL_law_556 : decode cL_law 556 = .ok (.aload_n 1, 1) := by decide +kernel
theorem dL_law_557 : decode cL_law 557 = .ok (.aload_n 0, 1) := by decide +kernel
theorem dL_law_558 : decode cL_law 558 = .ok (.iload_n 3, 1) := by decide +kernel
theorem dL_law_559 : decode cL_law 559 = .ok (.iconst 1, 1) := by decide +kernel
theorem dL_law_560 : decode cL_law 560 = .ok (.iadd, 1) := by decide +kernel
theorem dL_law_561 : decode cL_law 561 = .ok (.iaload, 1) := by decide +kernel
theorem dL_law_562 : decode cL_law 562 = .ok (.invokevirtual 81, 3) := by decide +kernel
theorem dL_law_565 : decode cL_law 565 = .ok (.aload_n 2, 1) := by decide +kernel
theorem dL_law_566 : decode cL_law 566 = .ok (.aload_n 0, 1) := by decide +kernel
theorem dL_law_567 : decode cL_law 567 = .ok (.iload_n 3, 1) := by decide +kernel
theorem dL_law_568 : decode cL_law 568 = .ok (.iconst 1, 1) := by decide +kernel
theorem dL_law_569 : decode cL_law 569 = .ok (.iadd, 1) := by decide +kernel
theorem dL_law_570 : decode cL_law 570 = .ok (.iaload, 1) := by decide +kernel
theorem dL_law_571 : decode cL_law 571 = .ok (.invokevirtual 84, 3) := by decide +kernel
theorem dL_law_574 : decode cL_law 574 = .ok (.if_icmp .eq 54, 3) := by decide +kernel
theorem dL_law_577 : decode cL_law 577 = .ok (.iconst 0, 1) := by decide +kernel
theorem dL_law_578 : decode cL_law 578 = .ok (.ireturn, 1) := by decide +kernel
theorem dL_law_579 : decode cL_law 579 = .ok (.aload_n 1, 1) := by decide +kernel
theorem dL_law_580 : decode cL_law 580 = .ok (.invokevirtual 85, 3) := by decide +kernel
theorem dL_law_583 : decode cL_law 583 = .ok (.aload_n 2, 1) := by decide +kernel
theorem dL_law_584 : decode cL_law 584 = .ok (.invokevirtual 88, 3) := by decide +kernel
theorem dL_law_587 : decode cL_law 587 = .ok (.if_icmp .eq 41, 3) := by decide +kernel
theorem dL_law_590 : decode cL_law 590 = .ok (.iconst 0, 1) := by decide +kernel
theorem dL_law_591 : decode cL_law 591 = .ok (.ireturn, 1) := by decide +kernel
theorem dL_law_592 : decode cL_law 592 = .ok (.aload_n 1, 1) := by decide +kernel
theorem dL_law_593 : decode cL_law 593 = .ok (.aload_n 0, 1) := by decide +kernel
theorem dL_law_594 : decode cL_law 594 = .ok (.iload_n 3, 1) := by decide +kernel
theorem dL_law_595 : decode cL_law 595 = .ok (.iconst 1, 1) := by decide +kernel
theorem dL_law_596 : decode cL_law 596 = .ok (.iadd, 1) := by decide +kernel
theorem dL_law_597 : decode cL_law 597 = .ok (.iaload, 1) := by decide +kernel
theorem dL_law_598 : decode cL_law 598 = .ok (.invokevirtual 89, 3) := by decide +kernel
theorem dL_law_601 : decode cL_law 601 = .ok (.aload_n 2, 1) := by decide +kernel
theorem dL_law_602 : decode cL_law 602 = .ok (.aload_n 0, 1) := by decide +kernel
theorem dL_law_603 : decode cL_law 603 = .ok (.iload_n 3, 1) := by decide +kernel
theorem dL_law_604 : decode cL_law 604 = .ok (.iconst 1, 1) := by decide +kernel
theorem dL_law_605 : decode cL_law 605 = .ok (.iadd, 1) := by decide +kernel
theorem dL_law_606 : decode cL_law 606 = .ok (.iaload, 1) := by decide +kernel
theorem dL_law_607 : decode cL_law 607 = .ok (.invokevirtual 92, 3) := by decide +kernel
theorem dL_law_610 : decode cL_law 610 = .ok (.if_icmp .eq 18, 3) := by decide +kernel
theorem dL_law_613 : decode cL_law 613 = .ok (.iconst 0, 1) := by decide +kernel
theorem dL_law_614 : decode cL_law 614 = .ok (.ireturn, 1) := by decide +kernel
theorem dL_law_615 : decode cL_law 615 = .ok (.aload_n 1, 1) := by decide +kernel
theorem dL_law_616 : decode cL_law 616 = .ok (.invokevirtual 93, 3) := by decide +kernel
theorem dL_law_619 : decode cL_law 619 = .ok (.aload_n 2, 1) := by decide +kernel
theorem dL_law_620 : decode cL_law 620 = .ok (.invokevirtual 96, 3) := by decide +kernel
theorem dL_law_623 : decode cL_law 623 = .ok (.if_icmp .eq 5, 3) := by decide +kernel
theorem dL_law_626 : decode cL_law 626 = .ok (.iconst 0, 1) := by decide +kernel
theorem dL_law_627 : decode cL_law 627 = .ok (.ireturn, 1) := by decide +kernel
theorem dL_law_628 : decode cL_law 628 = .ok (.iinc 3 4, 3) := by decide +kernel
theorem dL_law_631 : decode cL_law 631 = .ok (.goto (-613), 3) := by decide +kernel
theorem dL_law_634 : decode cL_law 634 = .ok (.iconst 1, 1) := by decide +kernel
theorem dL_law_635 : decode cL_law 635 = .ok (.ireturn, 1) := by decide +kernel
end
section
def xnest : List Cond := [(Jvm.Cond.fieldLinkNest "SpilledGroups$Groups" (27 : Nat) "SpilledGroups$State" "rows" "LSpilledGroups$Table;" "SpilledGroups"), (Jvm.Cond.fieldLinkNest "SpilledGroups" (55 : Nat) "SpilledGroups$State" "rows" "LSpilledGroups$Table;" "SpilledGroups"), (Jvm.Cond.fieldLinkNest "SpilledGroups" (89 : Nat) "SpilledGroups$State" "settings" "LSpilledGroups$Table;" "SpilledGroups"), (Jvm.Cond.fieldLinkNest "SpilledGroups$Passes" (59 : Nat) "SpilledGroups$Groups" "facts" "LSpilledGroups$Table;" "SpilledGroups"), (Jvm.Cond.fieldLinkNest "SpilledGroups" (113 : Nat) "SpilledGroups$Groups" "facts" "LSpilledGroups$Table;" "SpilledGroups"), (Jvm.Cond.fieldLinkNest "SpilledGroups$Passes" (71 : Nat) "SpilledGroups$Groups" "ofRows" "LSpilledGroups$Table;" "SpilledGroups"), (Jvm.Cond.fieldLinkNest "SpilledGroups" (134 : Nat) "SpilledGroups$Passes" "passes" "LSpilledGroups$Table;" "SpilledGroups"), (Jvm.Cond.fieldLinkNest "SpilledGroups" (136 : Nat) "SpilledGroups$Passes" "spills" "LSpilledGroups$Table;" "SpilledGroups"), (Jvm.Cond.fieldLinkNest "SpilledGroups" (124 : Nat) "SpilledGroups$Passes" "ends" "LSpilledGroups$Table;" "SpilledGroups"), (Jvm.Cond.fieldLinkNest "SpilledGroups" (127 : Nat) "SpilledGroups$Passes" "order" "LSpilledGroups$Table;" "SpilledGroups"), (Jvm.Cond.fieldLinkNest "SpilledGroups" (148 : Nat) "SpilledGroups$Passes" "beyond" "I" "SpilledGroups"), (Jvm.Cond.fieldLinkNest "SpilledGroups" (171 : Nat) "SpilledGroups$Text" "characters" "LSpilledGroups$Table;" "SpilledGroups"), (Jvm.Cond.fieldLinkNest "SpilledGroups" (193 : Nat) "SpilledGroups$Text" "rows" "LSpilledGroups$Table;" "SpilledGroups"), (Jvm.Cond.fieldLinkNest "SpilledGroups" (187 : Nat) "SpilledGroups$Text" "position" "I" "SpilledGroups"), (Jvm.Cond.fieldLinkNest "SpilledGroups" (184 : Nat) "SpilledGroups$Text" "reason" "I" "SpilledGroups"), (Jvm.Cond.fieldLinkNest "SpilledGroups" (190 : Nat) "SpilledGroups$Text" "cause" "I" "SpilledGroups"), (Jvm.Cond.methodLinkNest "SpilledGroups$Text" (69 : Nat) ({ cls := "SpilledGroups", name := "isOutside", desc := "(III)Z" } : Jvm.MethodName) "SpilledGroups")]
def XN (U : State) : Prop := ∀ w ∈ xnest, va_Nw w U
theorem XN.same {u U : State} (h : u.vm = U.vm) (hN : XN u) : XN U := by
  intro w hw
  refine va_Nw.same ?_ h (hN w hw)
  revert w
  decide
theorem XN.warm {s U : State} (hN : XN s) (hW : s.WarmedH U.vm) : XN U := by
  intro w hw
  have h0 := hN w hw
  simp only [xnest, List.mem_cons, List.not_mem_nil, or_false] at hw
  rcases hw with rfl | rfl | rfl | rfl | rfl | rfl | rfl | rfl | rfl | rfl | rfl | rfl | rfl | rfl | rfl | rfl | rfl <;> first | exact va_Nw.warmF hW h0 | exact va_Nw.warmM hW h0
theorem z_61 : (Jvm.Cond.fieldLinkNest "SpilledGroups$Groups" (27 : Nat) "SpilledGroups$State" "rows" "LSpilledGroups$Table;" "SpilledGroups") ∈ xnest := List.mem_of_getElem? (i := 0) rfl
theorem z_62 : (Jvm.Cond.fieldLinkNest "SpilledGroups" (55 : Nat) "SpilledGroups$State" "rows" "LSpilledGroups$Table;" "SpilledGroups") ∈ xnest := List.mem_of_getElem? (i := 1) rfl
theorem z_64 : (Jvm.Cond.fieldLinkNest "SpilledGroups" (89 : Nat) "SpilledGroups$State" "settings" "LSpilledGroups$Table;" "SpilledGroups") ∈ xnest := List.mem_of_getElem? (i := 2) rfl
theorem z_98 : (Jvm.Cond.fieldLinkNest "SpilledGroups$Passes" (59 : Nat) "SpilledGroups$Groups" "facts" "LSpilledGroups$Table;" "SpilledGroups") ∈ xnest := List.mem_of_getElem? (i := 3) rfl
theorem z_99 : (Jvm.Cond.fieldLinkNest "SpilledGroups" (113 : Nat) "SpilledGroups$Groups" "facts" "LSpilledGroups$Table;" "SpilledGroups") ∈ xnest := List.mem_of_getElem? (i := 4) rfl
theorem z_101 : (Jvm.Cond.fieldLinkNest "SpilledGroups$Passes" (71 : Nat) "SpilledGroups$Groups" "ofRows" "LSpilledGroups$Table;" "SpilledGroups") ∈ xnest := List.mem_of_getElem? (i := 5) rfl
theorem z_117 : (Jvm.Cond.fieldLinkNest "SpilledGroups" (134 : Nat) "SpilledGroups$Passes" "passes" "LSpilledGroups$Table;" "SpilledGroups") ∈ xnest := List.mem_of_getElem? (i := 6) rfl
theorem z_119 : (Jvm.Cond.fieldLinkNest "SpilledGroups" (136 : Nat) "SpilledGroups$Passes" "spills" "LSpilledGroups$Table;" "SpilledGroups") ∈ xnest := List.mem_of_getElem? (i := 7) rfl
theorem z_121 : (Jvm.Cond.fieldLinkNest "SpilledGroups" (124 : Nat) "SpilledGroups$Passes" "ends" "LSpilledGroups$Table;" "SpilledGroups") ∈ xnest := List.mem_of_getElem? (i := 8) rfl
theorem z_123 : (Jvm.Cond.fieldLinkNest "SpilledGroups" (127 : Nat) "SpilledGroups$Passes" "order" "LSpilledGroups$Table;" "SpilledGroups") ∈ xnest := List.mem_of_getElem? (i := 9) rfl
theorem z_128 : (Jvm.Cond.fieldLinkNest "SpilledGroups" (148 : Nat) "SpilledGroups$Passes" "beyond" "I" "SpilledGroups") ∈ xnest := List.mem_of_getElem? (i := 10) rfl
theorem z_166 : (Jvm.Cond.fieldLinkNest "SpilledGroups" (171 : Nat) "SpilledGroups$Text" "characters" "LSpilledGroups$Table;" "SpilledGroups") ∈ xnest := List.mem_of_getElem? (i := 11) rfl
theorem z_168 : (Jvm.Cond.fieldLinkNest "SpilledGroups" (193 : Nat) "SpilledGroups$Text" "rows" "LSpilledGroups$Table;" "SpilledGroups") ∈ xnest := List.mem_of_getElem? (i := 12) rfl
theorem z_170 : (Jvm.Cond.fieldLinkNest "SpilledGroups" (187 : Nat) "SpilledGroups$Text" "position" "I" "SpilledGroups") ∈ xnest := List.mem_of_getElem? (i := 13) rfl
theorem z_172 : (Jvm.Cond.fieldLinkNest "SpilledGroups" (184 : Nat) "SpilledGroups$Text" "reason" "I" "SpilledGroups") ∈ xnest := List.mem_of_getElem? (i := 14) rfl
theorem z_174 : (Jvm.Cond.fieldLinkNest "SpilledGroups" (190 : Nat) "SpilledGroups$Text" "cause" "I" "SpilledGroups") ∈ xnest := List.mem_of_getElem? (i := 15) rfl
theorem z_537 : (Jvm.Cond.methodLinkNest "SpilledGroups$Text" (69 : Nat) ({ cls := "SpilledGroups", name := "isOutside", desc := "(III)Z" } : Jvm.MethodName) "SpilledGroups") ∈ xnest := List.mem_of_getElem? (i := 16) rfl
/-! a memory of whole numbers: object, place -/
abbrev Mem : Type := Nat → Nat → Int32
def mset (S : Mem) (a : Nat) (f : Nat → Int32) : Mem := fun i => if i = a then f else S i
theorem mset_at (S : Mem) (a : Nat) (f : Nat → Int32) : mset S a f a = f := if_pos rfl
theorem mset_ne (S : Mem) {a i : Nat} (f : Nat → Int32) (h : i ≠ a) : mset S a f i = S i := if_neg h
def mput (S : Mem) (a j : Nat) (v : Int32) : Mem := mset S a (upd (S a) j v)
abbrev XG : Type := va_G × ClassId × ClassId × (Nat → Nat)
abbrev xad (G : XG) : Nat → Nat := G.2.2.2
abbrev xI (G : XG) : ClassId := G.2.1
abbrev xO (G : XG) : ClassId := G.2.2.1
abbrev xT (G : XG) : List (ClassId × FieldType) := [(G.2.1, .int), (G.2.2.1, .object "SpilledGroups$State")]
def tabs : List Nat := [2, 4, 9, 11, 14, 16, 19, 21, 24, 26, 29, 31, 34, 36, 38, 40, 42, 44, 46, 49, 51]
def sts : List Nat := [1, 8, 13, 18, 23]
def tWn (t : Nat) : Nat := match t with
  | 2 => 2
  | 4 => 1
  | 9 => 2
  | 11 => 1
  | 14 => 2
  | 16 => 1
  | 19 => 2
  | 21 => 1
  | 24 => 2
  | 26 => 1
  | 29 => 6
  | 31 => 1
  | 34 => 8
  | 36 => 5
  | 38 => 3
  | 40 => 1
  | 42 => 1
  | 44 => 2
  | 46 => 1
  | 49 => 1
  | 51 => 2
  | _ => 1
def tRn (t : Nat) : Nat := match t with
  | 2 => 100
  | 4 => 3
  | 9 => 100
  | 11 => 3
  | 14 => 100
  | 16 => 3
  | 19 => 100
  | 21 => 3
  | 24 => 100
  | 26 => 3
  | 29 => 100
  | 31 => 100
  | 34 => 613
  | 36 => 612
  | 38 => 100
  | 40 => 100
  | 42 => 100
  | 44 => 16
  | 46 => 1600
  | 49 => 60
  | 51 => 15
  | _ => 0
abbrev xtab (G : XG) (t : Nat) (f : Nat → Int32) : va_E := .inr (4, [.ref (xad G (t + 1)), .int (nI (tWn t)), .int (nI (tRn t)), .int (f 3)])
abbrev xarr (G : XG) (n : Nat) (f : Nat → Int32) : va_E := .inl (xI G, n, .inl f)
abbrev xsta (G : XG) (s : Nat) : va_E := .inr (3, [.ref (xad G (s + 1)), .ref (xad G (s + 3))])
def wcell (G : XG) (i : Nat) (f : Nat → Int32) : va_E := match i with
  | 0 => .inr (6, [.ref (xad G 1), .ref (xad G 6), .ref (xad G 28), .ref (xad G 33), .ref (xad G 48), .int (f 5)])
  | 1 => xsta G 1
  | 2 => xtab G 2 f
  | 3 => xarr G (tRn 2 * tWn 2) f
  | 4 => xtab G 4 f
  | 5 => xarr G (tRn 4 * tWn 4) f
  | 6 => .inr (1, [.ref (xad G 7), .int (f 1), .int (f 2)])
  | 7 => .inl (xO G, 4, .inr (.inr (.inr (.inr (fun j => some (xad G (8 + 5 * j)))))))
  | 8 => xsta G 8
  | 9 => xtab G 9 f
  | 10 => xarr G (tRn 9 * tWn 9) f
  | 11 => xtab G 11 f
  | 12 => xarr G (tRn 11 * tWn 11) f
  | 13 => xsta G 13
  | 14 => xtab G 14 f
  | 15 => xarr G (tRn 14 * tWn 14) f
  | 16 => xtab G 16 f
  | 17 => xarr G (tRn 16 * tWn 16) f
  | 18 => xsta G 18
  | 19 => xtab G 19 f
  | 20 => xarr G (tRn 19 * tWn 19) f
  | 21 => xtab G 21 f
  | 22 => xarr G (tRn 21 * tWn 21) f
  | 23 => xsta G 23
  | 24 => xtab G 24 f
  | 25 => xarr G (tRn 24 * tWn 24) f
  | 26 => xtab G 26 f
  | 27 => xarr G (tRn 26 * tWn 26) f
  | 28 => .inr (0, [.ref (xad G 29), .ref (xad G 31)])
  | 29 => xtab G 29 f
  | 30 => xarr G (tRn 29 * tWn 29) f
  | 31 => xtab G 31 f
  | 32 => xarr G (tRn 31 * tWn 31) f
  | 33 => .inr (2, [.ref (xad G 28), .ref (xad G 34), .ref (xad G 36), .ref (xad G 38), .ref (xad G 40), .ref (xad G 42), .ref (xad G 44), .ref (xad G 46), .int (f 8), .int (f 9), .int (f 10), .int (f 11)])
  | 34 => xtab G 34 f
  | 35 => xarr G (tRn 34 * tWn 34) f
  | 36 => xtab G 36 f
  | 37 => xarr G (tRn 36 * tWn 36) f
  | 38 => xtab G 38 f
  | 39 => xarr G (tRn 38 * tWn 38) f
  | 40 => xtab G 40 f
  | 41 => xarr G (tRn 40 * tWn 40) f
  | 42 => xtab G 42 f
  | 43 => xarr G (tRn 42 * tWn 42) f
  | 44 => xtab G 44 f
  | 45 => xarr G (tRn 44 * tWn 44) f
  | 46 => xtab G 46 f
  | 47 => xarr G (tRn 46 * tWn 46) f
  | 48 => .inr (5, [.ref (xad G 49), .ref (xad G 51), .int (f 2), .int (f 3), .int (f 4), .int (f 5)])
  | 49 => xtab G 49 f
  | 50 => xarr G (tRn 49 * tWn 49) f
  | 51 => xtab G 51 f
  | 52 => xarr G (tRn 51 * tWn 51) f
  | 53 => .inr (7, [.ref (xad G 54), .ref (xad G 55), .int (f 2), .ref (xad G 56), .int (f 4), .ref (xad G 57), .int (f 6), .ref (xad G 58), .int (f 8), .ref (xad G 59), .int (f 10), .ref (xad G 60), .int (f 12), .int (f 13), .int (f 14), .int (f 15), .ref (xad G 61), .int (f 17), .ref (xad G 62), .ref (xad G 63), .ref (xad G 64), .ref (xad G 65), .int (f 22), .int (f 23), .int (f 24), .int (f 25), .int (f 26), .int (f 27), .int (f 28), .int (f 29)])
  | 54 => xarr G 204 f
  | 55 => xarr G 816 f
  | 56 => xarr G 11400 f
  | 57 => xarr G 500 f
  | 58 => xarr G 13300 f
  | 59 => xarr G 9500 f
  | 60 => xarr G 700 f
  | 61 => xarr G 900 f
  | 62 => xarr G 16 f
  | 63 => xarr G 16 f
  | 64 => xarr G 16 f
  | _ => xarr G 60 f
theorem wc_0 (G : XG) (f : Nat → Int32) : wcell G 0 f = .inr (6, [.ref (xad G 1), .ref (xad G 6), .ref (xad G 28), .ref (xad G 33), .ref (xad G 48), .int (f 5)]) := rfl
theorem wc_1 (G : XG) (f : Nat → Int32) : wcell G 1 f = xsta G 1 := rfl
theorem wc_2 (G : XG) (f : Nat → Int32) : wcell G 2 f = xtab G 2 f := rfl
theorem wc_3 (G : XG) (f : Nat → Int32) : wcell G 3 f = xarr G (tRn 2 * tWn 2) f := rfl
theorem wc_4 (G : XG) (f : Nat → Int32) : wcell G 4 f = xtab G 4 f := rfl
theorem wc_5 (G : XG) (f : Nat → Int32) : wcell G 5 f = xarr G (tRn 4 * tWn 4) f := rfl
theorem wc_6 (G : XG) (f : Nat → Int32) : wcell G 6 f = .inr (1, [.ref (xad G 7), .int (f 1), .int (f 2)]) := rfl
theorem wc_7 (G : XG) (f : Nat → Int32) : wcell G 7 f = .inl (xO G, 4, .inr (.inr (.inr (.inr (fun j => some (xad G (8 + 5 * j))))))) := rfl
theorem wc_8 (G : XG) (f : Nat → Int32) : wcell G 8 f = xsta G 8 := rfl
theorem wc_9 (G : XG) (f : Nat → Int32) : wcell G 9 f = xtab G 9 f := rfl
theorem wc_10 (G : XG) (f : Nat → Int32) : wcell G 10 f = xarr G (tRn 9 * tWn 9) f := rfl
theorem wc_11 (G : XG) (f : Nat → Int32) : wcell G 11 f = xtab G 11 f := rfl
theorem wc_12 (G : XG) (f : Nat → Int32) : wcell G 12 f = xarr G (tRn 11 * tWn 11) f := rfl
theorem wc_13 (G : XG) (f : Nat → Int32) : wcell G 13 f = xsta G 13 := rfl
theorem wc_14 (G : XG) (f : Nat → Int32) : wcell G 14 f = xtab G 14 f := rfl
theorem wc_15 (G : XG) (f : Nat → Int32) : wcell G 15 f = xarr G (tRn 14 * tWn 14) f := rfl
theorem wc_16 (G : XG) (f : Nat → Int32) : wcell G 16 f = xtab G 16 f := rfl
theorem wc_17 (G : XG) (f : Nat → Int32) : wcell G 17 f = xarr G (tRn 16 * tWn 16) f := rfl
theorem wc_18 (G : XG) (f : Nat → Int32) : wcell G 18 f = xsta G 18 := rfl
theorem wc_19 (G : XG) (f : Nat → Int32) : wcell G 19 f = xtab G 19 f := rfl
theorem wc_20 (G : XG) (f : Nat → Int32) : wcell G 20 f = xarr G (tRn 19 * tWn 19) f := rfl
theorem wc_21 (G : XG) (f : Nat → Int32) : wcell G 21 f = xtab G 21 f := rfl
theorem wc_22 (G : XG) (f : Nat → Int32) : wcell G 22 f = xarr G (tRn 21 * tWn 21) f := rfl
theorem wc_23 (G : XG) (f : Nat → Int32) : wcell G 23 f = xsta G 23 := rfl
theorem wc_24 (G : XG) (f : Nat → Int32) : wcell G 24 f = xtab G 24 f := rfl
theorem wc_25 (G : XG) (f : Nat → Int32) : wcell G 25 f = xarr G (tRn 24 * tWn 24) f := rfl
theorem wc_26 (G : XG) (f : Nat → Int32) : wcell G 26 f = xtab G 26 f := rfl
theorem wc_27 (G : XG) (f : Nat → Int32) : wcell G 27 f = xarr G (tRn 26 * tWn 26) f := rfl
theorem wc_28 (G : XG) (f : Nat → Int32) : wcell G 28 f = .inr (0, [.ref (xad G 29), .ref (xad G 31)]) := rfl
theorem wc_29 (G : XG) (f : Nat → Int32) : wcell G 29 f = xtab G 29 f := rfl
theorem wc_30 (G : XG) (f : Nat → Int32) : wcell G 30 f = xarr G (tRn 29 * tWn 29) f := rfl
theorem wc_31 (G : XG) (f : Nat → Int32) : wcell G 31 f = xtab G 31 f := rfl
theorem wc_32 (G : XG) (f : Nat → Int32) : wcell G 32 f = xarr G (tRn 31 * tWn 31) f := rfl
theorem wc_33 (G : XG) (f : Nat → Int32) : wcell G 33 f = .inr (2, [.ref (xad G 28), .ref (xad G 34), .ref (xad G 36), .ref (xad G 38), .ref (xad G 40), .ref (xad G 42), .ref (xad G 44), .ref (xad G 46), .int (f 8), .int (f 9), .int (f 10), .int (f 11)]) := rfl
theorem wc_34 (G : XG) (f : Nat → Int32) : wcell G 34 f = xtab G 34 f := rfl
theorem wc_35 (G : XG) (f : Nat → Int32) : wcell G 35 f = xarr G (tRn 34 * tWn 34) f := rfl
theorem wc_36 (G : XG) (f : Nat → Int32) : wcell G 36 f = xtab G 36 f := rfl
theorem wc_37 (G : XG) (f : Nat → Int32) : wcell G 37 f = xarr G (tRn 36 * tWn 36) f := rfl
theorem wc_38 (G : XG) (f : Nat → Int32) : wcell G 38 f = xtab G 38 f := rfl
theorem wc_39 (G : XG) (f : Nat → Int32) : wcell G 39 f = xarr G (tRn 38 * tWn 38) f := rfl
theorem wc_40 (G : XG) (f : Nat → Int32) : wcell G 40 f = xtab G 40 f := rfl
theorem wc_41 (G : XG) (f : Nat → Int32) : wcell G 41 f = xarr G (tRn 40 * tWn 40) f := rfl
theorem wc_42 (G : XG) (f : Nat → Int32) : wcell G 42 f = xtab G 42 f := rfl
theorem wc_43 (G : XG) (f : Nat → Int32) : wcell G 43 f = xarr G (tRn 42 * tWn 42) f := rfl
theorem wc_44 (G : XG) (f : Nat → Int32) : wcell G 44 f = xtab G 44 f := rfl
theorem wc_45 (G : XG) (f : Nat → Int32) : wcell G 45 f = xarr G (tRn 44 * tWn 44) f := rfl
theorem wc_46 (G : XG) (f : Nat → Int32) : wcell G 46 f = xtab G 46 f := rfl
theorem wc_47 (G : XG) (f : Nat → Int32) : wcell G 47 f = xarr G (tRn 46 * tWn 46) f := rfl
theorem wc_48 (G : XG) (f : Nat → Int32) : wcell G 48 f = .inr (5, [.ref (xad G 49), .ref (xad G 51), .int (f 2), .int (f 3), .int (f 4), .int (f 5)]) := rfl
theorem wc_49 (G : XG) (f : Nat → Int32) : wcell G 49 f = xtab G 49 f := rfl
theorem wc_50 (G : XG) (f : Nat → Int32) : wcell G 50 f = xarr G (tRn 49 * tWn 49) f := rfl
theorem wc_51 (G : XG) (f : Nat → Int32) : wcell G 51 f = xtab G 51 f := rfl
theorem wc_52 (G : XG) (f : Nat → Int32) : wcell G 52 f = xarr G (tRn 51 * tWn 51) f := rfl
theorem wc_53 (G : XG) (f : Nat → Int32) : wcell G 53 f = .inr (7, [.ref (xad G 54), .ref (xad G 55), .int (f 2), .ref (xad G 56), .int (f 4), .ref (xad G 57), .int (f 6), .ref (xad G 58), .int (f 8), .ref (xad G 59), .int (f 10), .ref (xad G 60), .int (f 12), .int (f 13), .int (f 14), .int (f 15), .ref (xad G 61), .int (f 17), .ref (xad G 62), .ref (xad G 63), .ref (xad G 64), .ref (xad G 65), .int (f 22), .int (f 23), .int (f 24), .int (f 25), .int (f 26), .int (f 27), .int (f 28), .int (f 29)]) := rfl
theorem wc_54 (G : XG) (f : Nat → Int32) : wcell G 54 f = xarr G 204 f := rfl
theorem wc_55 (G : XG) (f : Nat → Int32) : wcell G 55 f = xarr G 816 f := rfl
theorem wc_56 (G : XG) (f : Nat → Int32) : wcell G 56 f = xarr G 11400 f := rfl
theorem wc_57 (G : XG) (f : Nat → Int32) : wcell G 57 f = xarr G 500 f := rfl
theorem wc_58 (G : XG) (f : Nat → Int32) : wcell G 58 f = xarr G 13300 f := rfl
theorem wc_59 (G : XG) (f : Nat → Int32) : wcell G 59 f = xarr G 9500 f := rfl
theorem wc_60 (G : XG) (f : Nat → Int32) : wcell G 60 f = xarr G 700 f := rfl
theorem wc_61 (G : XG) (f : Nat → Int32) : wcell G 61 f = xarr G 900 f := rfl
theorem wc_62 (G : XG) (f : Nat → Int32) : wcell G 62 f = xarr G 16 f := rfl
theorem wc_63 (G : XG) (f : Nat → Int32) : wcell G 63 f = xarr G 16 f := rfl
theorem wc_64 (G : XG) (f : Nat → Int32) : wcell G 64 f = xarr G 16 f := rfl
theorem wc_65 (G : XG) (f : Nat → Int32) : wcell G 65 f = xarr G 60 f := rfl
theorem tabs_lt {t : Nat} (h : t ∈ tabs) : t < 66 ∧ t + 1 < 66 := by
  simp only [tabs, List.mem_cons, List.not_mem_nil, or_false] at h
  omega
theorem wTab (G : XG) (f : Nat → Int32) {t : Nat} (h : t ∈ tabs) : wcell G t f = xtab G t f := by
  simp only [tabs, List.mem_cons, List.not_mem_nil, or_false] at h
  rcases h with rfl | rfl | rfl | rfl | rfl | rfl | rfl | rfl | rfl | rfl | rfl | rfl | rfl | rfl | rfl | rfl | rfl | rfl | rfl | rfl | rfl <;> rfl
theorem wTabA (G : XG) (f : Nat → Int32) {t : Nat} (h : t ∈ tabs) : wcell G (t + 1) f = xarr G (tRn t * tWn t) f := by
  simp only [tabs, List.mem_cons, List.not_mem_nil, or_false] at h
  rcases h with rfl | rfl | rfl | rfl | rfl | rfl | rfl | rfl | rfl | rfl | rfl | rfl | rfl | rfl | rfl | rfl | rfl | rfl | rfl | rfl | rfl <;> rfl
theorem wSta (G : XG) (f : Nat → Int32) {s : Nat} (h : s ∈ sts) : wcell G s f = xsta G s := by
  simp only [sts, List.mem_cons, List.not_mem_nil, or_false] at h
  rcases h with rfl | rfl | rfl | rfl | rfl <;> rfl
theorem sts_tab {s : Nat} (h : s ∈ sts) : s < 66 ∧ s + 1 ∈ tabs ∧ s + 3 ∈ tabs := by
  simp only [sts, List.mem_cons, List.not_mem_nil, or_false] at h
  rcases h with rfl | rfl | rfl | rfl | rfl <;> decide
def wW (G : XG) (S : Mem) : va_W := (List.range 66).map (fun i => (xad G i, wcell G i (S i)))
theorem wW_get (G : XG) (S : Mem) {i : Nat} (hi : i < 66) : (wW G S)[i]? = some (xad G i, wcell G i (S i)) := by
  simp [wW, hi]
theorem wW_inv (G : XG) (S : Mem) {i : Nat} {q : Nat × va_E} (h : (wW G S)[i]? = some q) : i < 66 ∧ q = (xad G i, wcell G i (S i)) := by
  have hl : i < (wW G S).length := (List.getElem?_eq_some_iff.mp h).1
  have hi : i < 66 := by simpa [wW] using hl
  rw [wW_get G S hi] at h
  exact ⟨hi, (Option.some.inj h).symm⟩
theorem wW_set (G : XG) {S S' : Mem} {i : Nat} (hi : i < 66) {e : va_E} (he : wcell G i (S' i) = e) (ho : ∀ j, j ≠ i → S' j = S j) : (wW G S).set i (xad G i, e) = wW G S' := by
  apply List.ext_getElem?
  intro j
  by_cases hj : j = i
  · subst hj
    rw [List.getElem?_set_self (by simp [wW]; exact hi), wW_get G S' hi, he]
  · rw [List.getElem?_set_ne (fun q => hj q.symm)]
    by_cases hj6 : j < 66
    · rw [wW_get G S hj6, wW_get G S' hj6, ho j hj]
    · rw [List.getElem?_eq_none (by simp [wW]; omega), List.getElem?_eq_none (by simp [wW]; omega)]
def XJ (G : XG) : Prop := ∀ i j, i < 66 → j < 66 → xad G i = xad G j → i = j
def XA (G : XG) : Nat → Prop := fun q => ∃ i, i < 66 ∧ q = xad G i
theorem wW_D {G : XG} (hJ : XJ G) {A : Nat → Prop} (hA : ∀ i, i < 66 → A (xad G i)) (S : Mem) : va_D A (wW G S) := by
  refine ⟨fun i j p q hp hq h => ?_, fun k q hk => ?_⟩
  · obtain ⟨h1, rfl⟩ := wW_inv G S hp
    obtain ⟨h2, rfl⟩ := wW_inv G S hq
    exact hJ i j h1 h2 h
  · obtain ⟨h1, rfl⟩ := wW_inv G S hk
    exact hA k h1
/-! the context of a walk, as one value -/
abbrev Kx : Type := Program × Launch × Env × Room × State × MethodId × Array Value × List Frame × Method × Code × XG × (Nat → Prop) × Nat × Nat × Nat × (State → Prop)
abbrev kp (κ : Kx) : Program := κ.1
abbrev kl (κ : Kx) : Launch := κ.2.1
abbrev ke (κ : Kx) : Env := κ.2.2.1
abbrev kR (κ : Kx) : Room := κ.2.2.2.1
abbrev ks (κ : Kx) : State := κ.2.2.2.2.1
abbrev km (κ : Kx) : MethodId := κ.2.2.2.2.2.1
abbrev ka (κ : Kx) : Array Value := κ.2.2.2.2.2.2.1
abbrev kb (κ : Kx) : List Frame := κ.2.2.2.2.2.2.2.1
abbrev kM (κ : Kx) : Method := κ.2.2.2.2.2.2.2.2.1
abbrev kC (κ : Kx) : Code := κ.2.2.2.2.2.2.2.2.2.1
abbrev kG (κ : Kx) : XG := κ.2.2.2.2.2.2.2.2.2.2.1
abbrev kA (κ : Kx) : Nat → Prop := κ.2.2.2.2.2.2.2.2.2.2.2.1
abbrev kN (κ : Kx) : Nat := κ.2.2.2.2.2.2.2.2.2.2.2.2.1
abbrev kc (κ : Kx) : Nat := κ.2.2.2.2.2.2.2.2.2.2.2.2.2.1
abbrev ko (κ : Kx) : Nat := κ.2.2.2.2.2.2.2.2.2.2.2.2.2.2.1
abbrev kQ (κ : Kx) : State → Prop := κ.2.2.2.2.2.2.2.2.2.2.2.2.2.2.2
/-- the machine of κ, at pc, over the memory S, with the locals lv and the stack st, comes to its end -/
def XW (κ : Kx) (S : Mem) (pc : Nat) (lv : List (Nat × Value)) (st : List Value) : Prop :=
  ∀ (H : Heap) (locs : List Loc) (ls : Array Slot), va_P (kG κ).1 vwCl (wW (kG κ) S) H → va_S (kA κ) (ks κ).heap H locs → lv_has ls (kN κ) lv →
    W (kp κ) (kl κ) (ke κ) (kR κ) (ks κ) (km κ) (ka κ) (kb κ) (kM κ) (kC κ) H locs (kc κ) (ko κ) (kQ κ) (F0 (km κ) pc ls st)
def XC (κ : Kx) (own : String) (cc : ByteArray) (nl F N : Nat) : Prop :=
  (kp κ).tables.exec = Jvm.exec ∧ (kC κ).code = cc ∧ (kC κ).maxLocals = nl ∧ kN κ = nl ∧ (ks κ).vm.findClass own = some (km κ).cls ∧ (∀ w ∈ TB, w.before (ka κ) (ks κ) = true) ∧ va_K (kG κ).1 vwCl (xT (kG κ)) (ks κ) ∧ XJ (kG κ) ∧ (∀ i, i < 66 → kA κ (xad (kG κ) i)) ∧ (kR κ).frames = F ∧ (kR κ).locals = N ∧ kc κ ≤ (kR κ).cells ∧ ko κ ≤ (kR κ).slots ∧ XN (ks κ)
section XCs
variable {κ : Kx} {own : String} {cc : ByteArray} {nl F N : Nat}
theorem XC.g_ml (C : XC κ own cc nl F N) : (kC κ).maxLocals = nl := C.2.2.1
theorem XC.g_nl (C : XC κ own cc nl F N) : kN κ = nl := C.2.2.2.1
theorem XC.g_own (C : XC κ own cc nl F N) : (ks κ).vm.findClass own = some (km κ).cls := C.2.2.2.2.1
theorem XC.g_ts (C : XC κ own cc nl F N) : ∀ w ∈ TB, w.before (ka κ) (ks κ) = true := C.2.2.2.2.2.1
theorem XC.g_K (C : XC κ own cc nl F N) : va_K (kG κ).1 vwCl (xT (kG κ)) (ks κ) := C.2.2.2.2.2.2.1
theorem XC.g_J (C : XC κ own cc nl F N) : XJ (kG κ) := C.2.2.2.2.2.2.2.1
theorem XC.g_A (C : XC κ own cc nl F N) : ∀ i, i < 66 → kA κ (xad (kG κ) i) := C.2.2.2.2.2.2.2.2.1
theorem XC.g_F (C : XC κ own cc nl F N) : (kR κ).frames = F := C.2.2.2.2.2.2.2.2.2.1
theorem XC.g_N (C : XC κ own cc nl F N) : (kR κ).locals = N := C.2.2.2.2.2.2.2.2.2.2.1
theorem XC.g_c (C : XC κ own cc nl F N) : kc κ ≤ (kR κ).cells := C.2.2.2.2.2.2.2.2.2.2.2.1
theorem XC.g_o (C : XC κ own cc nl F N) : ko κ ≤ (kR κ).slots := C.2.2.2.2.2.2.2.2.2.2.2.2.1
theorem XC.g_X (C : XC κ own cc nl F N) : XN (ks κ) := C.2.2.2.2.2.2.2.2.2.2.2.2.2
theorem XC.g_D (C : XC κ own cc nl F N) (S : Mem) : va_D (kA κ) (wW (kG κ) S) := wW_D C.g_J C.g_A S
end XCs
section XRows
variable {κ : Kx} {own : String} {cc : ByteArray} {nl F N : Nat} {S : Mem} {pc : Nat} {lv lv' : List (Nat × Value)} {st : List Value}
theorem X_sub (ks : List Nat) (h : lv_pick lv ks = lv') (kk : XW κ S pc lv' st) : XW κ S pc lv st := fun H locs ls hP hS hl => kk H locs ls hP hS (lv_sub hl ks h)
theorem X_mem {S' : Mem} (h : S = S') (kk : XW κ S' pc lv st) : XW κ S pc lv st := h ▸ kk
theorem X_iconst (C : XC κ own cc nl F N) {n : Int} (v : Int32) (hdg : decode cc pc = .ok (.iconst n, 1)) (hv : Int32.ofInt n = v) (kk : XW κ S (pc + 1) lv (.int v :: st)) : XW κ S pc lv st := fun H locs ls hP hS hl => lv_iconst C.1 C.2.1 hdg hv (kk H locs ls hP hS hl)
theorem X_bipush (C : XC κ own cc nl F N) {n : Int} (v : Int32) (hdg : decode cc pc = .ok (.bipush n, 2)) (hv : (Int8.ofInt n).toInt32 = v) (kk : XW κ S (pc + 2) lv (.int v :: st)) : XW κ S pc lv st := fun H locs ls hP hS hl => lv_bipush C.1 C.2.1 hdg hv (kk H locs ls hP hS hl)
theorem X_sipush (C : XC κ own cc nl F N) {n : Int} (v : Int32) (hdg : decode cc pc = .ok (.sipush n, 3)) (hv : (Int16.ofInt n).toInt32 = v) (kk : XW κ S (pc + 3) lv (.int v :: st)) : XW κ S pc lv st := fun H locs ls hP hS hl => lv_sipush C.1 C.2.1 hdg hv (kk H locs ls hP hS hl)
theorem X_lconst (C : XC κ own cc nl F N) {n : Fin 2} (v : Int64) (hdg : decode cc pc = .ok (.lconst n, 1)) (hv : Int64.ofNat (n : Nat) = v) (kk : XW κ S (pc + 1) lv (.long v :: st)) : XW κ S pc lv st := fun H locs ls hP hS hl => lv_lconst C.1 C.2.1 hdg hv (kk H locs ls hP hS hl)
theorem X_ldc (C : XC κ own cc nl F N) {index : Nat} (v : Int32) (hq : Cond.constant own index v ∈ TB) (hdg : decode cc pc = .ok (.ldc index, 2)) (kk : XW κ S (pc + 2) lv (.int v :: st)) : XW κ S pc lv st := fun H locs ls hP hS hl => lv_ldc C.1 C.2.1 C.g_own (C.g_ts _ hq) hdg (kk H locs ls hP hS hl)
theorem X_ldc2 (C : XC κ own cc nl F N) {index : Nat} (v : Int64) (hq : Cond.constantLong own index v ∈ TB) (hdg : decode cc pc = .ok (.ldc2_w index, 3)) (kk : XW κ S (pc + 3) lv (.long v :: st)) : XW κ S pc lv st := fun H locs ls hP hS hl => lv_ldc2 C.1 C.2.1 C.g_own (C.g_ts _ hq) hdg (kk H locs ls hP hS hl)
theorem X_iload_n (C : XC κ own cc nl F N) {k : Fin 4} (i : Nat) {x : Int32} (q : Nat) (hdg : decode cc pc = .ok (.iload_n k, 1)) (hi : (k : Nat) = i) (hl : lv[q]? = some (i, .int x)) (kk : XW κ S (pc + 1) lv (.int x :: st)) : XW κ S pc lv st := fun H locs ls hP hS h => lv_iload_n C.1 C.2.1 hdg hi (lv_at h q hl) (kk H locs ls hP hS h)
theorem X_iload (C : XC κ own cc nl F N) {i : Nat} {x : Int32} (q : Nat) (hdg : decode cc pc = .ok (.iload i, 2)) (hl : lv[q]? = some (i, .int x)) (kk : XW κ S (pc + 2) lv (.int x :: st)) : XW κ S pc lv st := fun H locs ls hP hS h => lv_iload C.1 C.2.1 hdg (lv_at h q hl) (kk H locs ls hP hS h)
theorem X_lload_n (C : XC κ own cc nl F N) {k : Fin 4} (i : Nat) {x : Int64} (q : Nat) (hdg : decode cc pc = .ok (.lload_n k, 1)) (hi : (k : Nat) = i) (hl : lv[q]? = some (i, .long x)) (kk : XW κ S (pc + 1) lv (.long x :: st)) : XW κ S pc lv st := fun H locs ls hP hS h => lv_lload_n C.1 C.2.1 hdg hi (lv_at h q hl) (kk H locs ls hP hS h)
theorem X_lload (C : XC κ own cc nl F N) {i : Nat} {x : Int64} (q : Nat) (hdg : decode cc pc = .ok (.lload i, 2)) (hl : lv[q]? = some (i, .long x)) (kk : XW κ S (pc + 2) lv (.long x :: st)) : XW κ S pc lv st := fun H locs ls hP hS h => lv_lload C.1 C.2.1 hdg (lv_at h q hl) (kk H locs ls hP hS h)
theorem X_aload_n (C : XC κ own cc nl F N) {k : Fin 4} (i : Nat) {x : Nat} (q : Nat) (hdg : decode cc pc = .ok (.aload_n k, 1)) (hi : (k : Nat) = i) (hl : lv[q]? = some (i, .ref x)) (kk : XW κ S (pc + 1) lv (.ref x :: st)) : XW κ S pc lv st := fun H locs ls hP hS h => lv_aload_n C.1 C.2.1 hdg hi (lv_at h q hl) (kk H locs ls hP hS h)
theorem X_istore_n (C : XC κ own cc nl F N) {k : Fin 4} (i : Nat) {x : Int32} (lv' : List (Nat × Value)) (hdg : decode cc pc = .ok (.istore_n k, 1)) (hi : (k : Nat) = i) (hn : i < nl) (hl : (i, Value.int x) :: lv.filter (fun q => !(q.1 == i) && !(q.1 + 1 == i && q.2.category == 2)) = lv') (kk : XW κ S (pc + 1) lv' st) : XW κ S pc lv (.int x :: st) := fun H locs ls hP hS h => lv_istore_n C.1 C.2.1 hdg hi h (by rw [C.g_nl]; exact hn) hl (fun ls' h' => kk H locs ls' hP hS h')
theorem X_istore (C : XC κ own cc nl F N) {i : Nat} {x : Int32} (lv' : List (Nat × Value)) (hdg : decode cc pc = .ok (.istore i, 2)) (hn : i < nl) (hl : (i, Value.int x) :: lv.filter (fun q => !(q.1 == i) && !(q.1 + 1 == i && q.2.category == 2)) = lv') (kk : XW κ S (pc + 2) lv' st) : XW κ S pc lv (.int x :: st) := fun H locs ls hP hS h => lv_istore C.1 C.2.1 hdg h (by rw [C.g_nl]; exact hn) hl (fun ls' h' => kk H locs ls' hP hS h')
theorem X_astore_n (C : XC κ own cc nl F N) {k : Fin 4} (i : Nat) {x : Nat} (lv' : List (Nat × Value)) (hdg : decode cc pc = .ok (.astore_n k, 1)) (hi : (k : Nat) = i) (hn : i < nl) (hl : (i, Value.ref x) :: lv.filter (fun q => !(q.1 == i) && !(q.1 + 1 == i && q.2.category == 2)) = lv') (kk : XW κ S (pc + 1) lv' st) : XW κ S pc lv (.ref x :: st) := fun H locs ls hP hS h => lv_astore_n C.1 C.2.1 hdg hi h (by rw [C.g_nl]; exact hn) hl (fun ls' h' => kk H locs ls' hP hS h')
theorem X_iinc (C : XC κ own cc nl F N) {i : Nat} {n : Int} {x : Int32} (v : Int32) (q : Nat) (lv' : List (Nat × Value)) (hdg : decode cc pc = .ok (.iinc i n, 3)) (hk : lv[q]? = some (i, .int x)) (hv : x + Int32.ofInt n = v) (hn : i < nl) (hl : (i, Value.int v) :: lv.filter (fun q => !(q.1 == i) && !(q.1 + 1 == i && q.2.category == 2)) = lv') (kk : XW κ S (pc + 3) lv' st) : XW κ S pc lv st := fun H locs ls hP hS h => lv_iinc C.1 C.2.1 hdg h hk hv (by rw [C.g_nl]; exact hn) hl (fun ls' h' => kk H locs ls' hP hS h')
theorem X_dup (C : XC κ own cc nl F N) {a : Value} (hdg : decode cc pc = .ok (.dup, 1)) (ha : a.category = 1) (kk : XW κ S (pc + 1) lv (a :: a :: st)) : XW κ S pc lv (a :: st) := fun H locs ls hP hS h => lv_dup C.1 C.2.1 hdg ha (kk H locs ls hP hS h)
theorem X_dup2 (C : XC κ own cc nl F N) {a b : Value} (hdg : decode cc pc = .ok (.dup2, 1)) (ha : a.category = 1) (hb : b.category = 1) (kk : XW κ S (pc + 1) lv (a :: b :: a :: b :: st)) : XW κ S pc lv (a :: b :: st) := fun H locs ls hP hS h => lv_dup2_11 C.1 C.2.1 hdg ha hb (kk H locs ls hP hS h)
theorem X_pop (C : XC κ own cc nl F N) {a : Value} (hdg : decode cc pc = .ok (.pop, 1)) (ha : a.category = 1) (kk : XW κ S (pc + 1) lv st) : XW κ S pc lv (a :: st) := fun H locs ls hP hS h => lv_pop C.1 C.2.1 hdg ha (kk H locs ls hP hS h)
theorem X_i2l (C : XC κ own cc nl F N) {x : Int32} (hdg : decode cc pc = .ok (.i2l, 1)) (kk : XW κ S (pc + 1) lv (.long x.toInt64 :: st)) : XW κ S pc lv (.int x :: st) := fun H locs ls hP hS h => lv_i2l C.1 C.2.1 hdg rfl (kk H locs ls hP hS h)
theorem X_lcmp (C : XC κ own cc nl F N) {x y : Int64} (hdg : decode cc pc = .ok (.lcmp, 1)) (kk : XW κ S (pc + 1) lv (.int (lg_cmp x y) :: st)) : XW κ S pc lv (.long y :: .long x :: st) := fun H locs ls hP hS h => W.lcmp C.1 C.2.1 hdg (kk H locs ls hP hS h)
theorem X_goto (C : XC κ own cc nl F N) {off : Int} (tgt : Nat) (hdg : decode cc pc = .ok (.goto off, 3)) (ht : (pc : Int) + off = (tgt : Int)) (kk : XW κ S tgt lv st) : XW κ S pc lv st := fun H locs ls hP hS h => lv_goto C.1 C.2.1 hdg ht (kk H locs ls hP hS h)
theorem X_ifnull (C : XC κ own cc nl F N) {x : Nat} {off : Int} (hdg : decode cc pc = .ok (.ifnull off, 3)) (kk : XW κ S (pc + 3) lv st) : XW κ S pc lv (.ref x :: st) := fun H locs ls hP hS h => lv_ifnull C.1 C.2.1 hdg (kk H locs ls hP hS h)
theorem X_tin (C : XC κ own cc nl F N) {dflt lo hi : Int} {offs : Array Int} {len : Nat} {x : Int32} {off : Int} (tgt : Nat) (hdg : decode cc pc = .ok (.tableswitch dflt lo hi offs, len)) (h1 : ¬ x.toInt < lo) (h2 : ¬ hi < x.toInt) (ho : offs[(x.toInt - lo).toNat]? = some off) (ht : (pc : Int) + off = (tgt : Int)) (kk : XW κ S tgt lv st) : XW κ S pc lv (.int x :: st) := fun H locs ls hP hS h => lv_tableIn C.1 C.2.1 hdg h1 h2 ho ht (kk H locs ls hP hS h)
theorem X_tout (C : XC κ own cc nl F N) {dflt lo hi : Int} {offs : Array Int} {len : Nat} {x : Int32} (tgt : Nat) (hdg : decode cc pc = .ok (.tableswitch dflt lo hi offs, len)) (h1 : x.toInt < lo ∨ hi < x.toInt) (ht : (pc : Int) + dflt = (tgt : Int)) (kk : XW κ S tgt lv st) : XW κ S pc lv (.int x :: st) := fun H locs ls hP hS h => lv_tableOut C.1 C.2.1 hdg h1 ht (kk H locs ls hP hS h)
/-! fields and arrays -/
theorem X_get (C : XC κ own cc nl F N) {i ci : Nat} {fs : List Value} (hi : i < 66) (hc : wcell (kG κ) i (S i) = .inr (ci, fs)) {Cn : String} {T : u_T} {Nf : Nat} (hcl : vwCl[ci]? = some (Cn, T, Nf)) (hin : ∀ w ∈ u_ws Cn T Nf, w ∈ TB) (k : Nat) (hk : k < Nf) {index : Nat} (hq : Cond.fieldLink own index (T k).1 (T k).2.1 (T k).2.2.1 ∈ TB) {v : Value} (hv : fs[k]? = some v) (hdg : decode cc pc = .ok (.getfield index, 3)) (kk : XW κ S (pc + 3) lv (v :: st)) : XW κ S pc lv (.ref (xad (kG κ) i) :: st) := fun H locs ls hP hS h => va_get C.1 C.2.1 C.g_ts hin C.g_own C.g_K hP i (by rw [wW_get _ _ hi, hc]) hcl k hk (C.g_ts _ hq) (fun _ h => h) hv hdg (kk H locs ls hP hS h)
theorem X_getN (C : XC κ own cc nl F N) {i ci : Nat} {fs : List Value} (hi : i < 66) (hc : wcell (kG κ) i (S i) = .inr (ci, fs)) {Cn host : String} {T : u_T} {Nf : Nat} (hcl : vwCl[ci]? = some (Cn, T, Nf)) (hin : ∀ w ∈ u_ws Cn T Nf, w ∈ TB) (k : Nat) (hk : k < Nf) {index : Nat} (hq : Cond.fieldLinkNest own index (T k).1 (T k).2.1 (T k).2.2.1 host ∈ xnest) {v : Value} (hv : fs[k]? = some v) (hdg : decode cc pc = .ok (.getfield index, 3)) (kk : XW κ S (pc + 3) lv (v :: st)) : XW κ S pc lv (.ref (xad (kG κ) i) :: st) := fun H locs ls hP hS h => va_getN C.1 C.2.1 C.g_ts hin C.g_own C.g_K hP i (by rw [wW_get _ _ hi, hc]) hcl k hk (va_Nw.use rfl (C.g_X _ hq)) (fun _ h => h) hv hdg (kk H locs ls hP hS h)
theorem X_put (C : XC κ own cc nl F N) {i ci : Nat} {fs : List Value} (hi : i < 66) (hc : wcell (kG κ) i (S i) = .inr (ci, fs)) {Cn : String} {T : u_T} {Nf : Nat} (hcl : vwCl[ci]? = some (Cn, T, Nf)) (hin : ∀ w ∈ u_ws Cn T Nf, w ∈ TB) {ty0 : Nat → FieldType} (hty : ∀ k, k < Nf → parseFieldDescriptor (T k).2.2.1 = some (ty0 k)) (hnm : ∀ a, a < Nf → ∀ b, b < Nf → a ≠ b → (T a).2.1 ≠ (T b).2.1) (k : Nat) (hk : k < Nf) {index : Nat} (hq : Cond.fieldLink own index (T k).1 (T k).2.1 (T k).2.2.1 ∈ TB) (hfin : (T k).2.2.2 = false) {v : Int32} (hn : narrow (ty0 k) (.int v) = .int v) (hfit : fits (ty0 k) (.int v) = true) (hlen : k < fs.length) {S1 : Mem} (hS1 : S1 = mput S i k v) (hc1 : wcell (kG κ) i (upd (S i) k v) = .inr (ci, fs.set k (.int v))) (hdg : decode cc pc = .ok (.putfield index, 3)) (kk : XW κ S1 (pc + 3) lv st) : XW κ S pc lv (.int v :: .ref (xad (kG κ) i) :: st) := by
  intro H locs ls hP hS h
  refine va_put (fs := fs) C.1 C.2.1 C.g_ts hin ty0 hty hnm C.g_own C.g_K hP (C.g_D S) hS i (by rw [wW_get _ _ hi, hc]) hcl k hk (C.g_ts _ hq) (fun _ h => h) hfin (hty k hk) hn hfit hlen hdg (fun H1 locs1 hP1 _ hS1' => ?_)
  have e : (wW (kG κ) S).set i (xad (kG κ) i, .inr (ci, fs.set k (.int v))) = wW (kG κ) S1 := wW_set _ hi (by rw [hS1]; show wcell _ _ (mset S i _ i) = _; rw [mset_at]; exact hc1) (fun j hj => by rw [hS1]; exact mset_ne S _ hj)
  rw [e] at hP1
  exact kk H1 locs1 ls hP1 hS1' h
theorem X_iald (C : XC κ own cc nl F N) {i n : Nat} (hi : i < 66) (hc : wcell (kG κ) i (S i) = xarr (kG κ) n (S i)) {x : Int32} (hin : vp_in x n) (hdg : decode cc pc = .ok (.iaload, 1)) (kk : XW κ S (pc + 1) lv (.int (S i x.toNatClampNeg) :: st)) : XW κ S pc lv (.int x :: .ref (xad (kG κ) i) :: st) := fun H locs ls hP hS h => va_iald C.1 C.2.1 C.g_K hP i 0 (by rw [wW_get _ _ hi, hc]) rfl hin hdg (kk H locs ls hP hS h)
theorem X_iast (C : XC κ own cc nl F N) {i n : Nat} (hi : i < 66) (hc : wcell (kG κ) i (S i) = xarr (kG κ) n (S i)) {x v : Int32} (hin : vp_in x n) {S1 : Mem} (hS1 : S1 = mput S i x.toNatClampNeg v) (hc1 : wcell (kG κ) i (upd (S i) x.toNatClampNeg v) = xarr (kG κ) n (upd (S i) x.toNatClampNeg v)) (hdg : decode cc pc = .ok (.iastore, 1)) (kk : XW κ S1 (pc + 1) lv st) : XW κ S pc lv (.int v :: .int x :: .ref (xad (kG κ) i) :: st) := by
  intro H locs ls hP hS h
  refine va_iast C.1 C.2.1 C.g_K hP (C.g_D S) hS i 0 (by rw [wW_get _ _ hi, hc]) rfl hin hdg (fun H1 locs1 hP1 _ hS1' => ?_)
  have e : (wW (kG κ) S).set i (xad (kG κ) i, .inl (xI (kG κ), n, .inl (upd (S i) x.toNatClampNeg v))) = wW (kG κ) S1 := wW_set _ hi (by rw [hS1]; show wcell _ _ (mset S i _ i) = _; rw [mset_at]; exact hc1) (fun j hj => by rw [hS1]; exact mset_ne S _ hj)
  rw [e] at hP1
  exact kk H1 locs1 ls hP1 hS1' h
theorem X_alen (C : XC κ own cc nl F N) {i n : Nat} (hi : i < 66) (hc : wcell (kG κ) i (S i) = xarr (kG κ) n (S i)) (hdg : decode cc pc = .ok (.arraylength, 1)) (kk : XW κ S (pc + 1) lv (.int (nI n) :: st)) : XW κ S pc lv (.ref (xad (kG κ) i) :: st) := fun H locs ls hP hS h => va_alen (x := (n, .inl (S i))) (v := nI n) C.1 C.2.1 C.g_K hP i 0 (by rw [wW_get _ _ hi, hc]) rfl rfl hdg (kk H locs ls hP hS h)
theorem X_copy (C : XC κ own cc nl F N) {i j n0 n1 : Nat} (hi : i < 66) (hj : j < 66) (hc0 : wcell (kG κ) i (S i) = xarr (kG κ) n0 (S i)) (hc1 : wcell (kG κ) j (S j) = xarr (kG κ) n1 (S j)) {index : Nat} (hq : Cond.methodLink own index arraycopyName ∈ TB) (hq1 : Cond.native arraycopyName ∈ TB) (hq2 : Cond.static arraycopyName ∈ TB) (hq3 : Cond.initialized "java/lang/System" ∈ TB) (hlv : 0 < nl)
    {sp dp n : Int32} (h1 : ¬ sp < 0) (h2 : ¬ dp < 0) (h3 : ¬ n < 0) (h4 : sp.toNatClampNeg + n.toNatClampNeg ≤ n0) (h5 : dp.toNatClampNeg + n.toNatClampNeg ≤ n1) (hF : 1 ≤ F) (hN : (st.map fun v => v.category).sum + (nativeFrameWords "java/lang/System" "arraycopy" 5 + 11) ≤ N) {S1 : Mem} (hS1 : S1 = mset S j (va_cpy (S i) (S j) sp.toNatClampNeg dp.toNatClampNeg n.toNatClampNeg)) (hc2 : wcell (kG κ) j (va_cpy (S i) (S j) sp.toNatClampNeg dp.toNatClampNeg n.toNatClampNeg) = xarr (kG κ) n1 (va_cpy (S i) (S j) sp.toNatClampNeg dp.toNatClampNeg n.toNatClampNeg)) (hdg : decode cc pc = .ok (.invokestatic index, 3)) (kk : XW κ S1 (pc + 3) lv st) : XW κ S pc lv (.int n :: .int dp :: .ref (xad (kG κ) j) :: .int sp :: .ref (xad (kG κ) i) :: st) := by
  intro H locs ls hP hS h
  refine va_copyi C.1 C.2.1 (by rw [C.g_ml, h.1, C.g_nl]) C.g_own (C.g_ts _ hq) (C.g_ts _ hq1) (C.g_ts _ hq2) (C.g_ts _ hq3) C.g_K hP (C.g_D S) hS i j 0 0 (by rw [wW_get _ _ hi, hc0]) (by rw [wW_get _ _ hj, hc1]) rfl rfl rfl h1 h2 h3 h4 h5 (fun _ _ => rfl) (by rw [C.g_F]; exact hF) (by rw [C.g_N]; exact hN) hdg (fun H1 locs1 hP1 _ hS1' => ?_)
  have e : (wW (kG κ) S).set j (xad (kG κ) j, .inl (xI (kG κ), n1, .inl (va_cpy (S i) (S j) sp.toNatClampNeg dp.toNatClampNeg n.toNatClampNeg))) = wW (kG κ) S1 := wW_set _ hj (by rw [hS1, mset_at]; exact hc2) (fun k hk => by rw [hS1]; exact mset_ne S _ hk)
  rw [e] at hP1
  exact kk H1 locs1 ls hP1 hS1' h
theorem X_max (C : XC κ own cc nl F N) {index : Nat} (hq : Cond.methodLink own index Lib.Math.max.name ∈ TB) (hq1 : Cond.static Lib.Math.max.name ∈ TB) (hq2 : Cond.initialized "java/lang/Math" ∈ TB) (hq3 : Cond.code Lib.Math.max.name Lib.Math.max.code 2 (some .int) ∈ TB) {x y : Int32} (hF : 1 ≤ F) (hN : (st.map fun v => v.category).sum + 13 ≤ N) (hdg : decode cc pc = .ok (.invokestatic index, 3)) (kk : XW κ S (pc + 3) lv (.int (if x < y then y else x) :: st)) : XW κ S pc lv (.int y :: .int x :: st) := fun H locs ls hP hS h => va_mmax C.1 C.2.1 (by rw [C.g_ml, h.1, C.g_nl]) C.g_own (C.g_ts _ hq) (C.g_ts _ hq1) (C.g_ts _ hq2) (C.g_ts _ hq3) (by rw [C.g_F]; exact hF) (by rw [C.g_N]; exact hN) C.g_c C.g_o hdg (kk H locs ls hP hS h)
theorem X_min (C : XC κ own cc nl F N) {index : Nat} (hq : Cond.methodLink own index Lib.Math.min.name ∈ TB) (hq1 : Cond.static Lib.Math.min.name ∈ TB) (hq2 : Cond.initialized "java/lang/Math" ∈ TB) (hq3 : Cond.code Lib.Math.min.name Lib.Math.min.code 2 (some .int) ∈ TB) {x y : Int32} (hF : 1 ≤ F) (hN : (st.map fun v => v.category).sum + 13 ≤ N) (hdg : decode cc pc = .ok (.invokestatic index, 3)) (kk : XW κ S (pc + 3) lv (.int (if y < x then y else x) :: st)) : XW κ S pc lv (.int y :: .int x :: st) := fun H locs ls hP hS h => va_mmin C.1 C.2.1 (by rw [C.g_ml, h.1, C.g_nl]) C.g_own (C.g_ts _ hq) (C.g_ts _ hq1) (C.g_ts _ hq2) (C.g_ts _ hq3) (by rw [C.g_F]; exact hF) (by rw [C.g_N]; exact hN) C.g_c C.g_o hdg (kk H locs ls hP hS h)
end XRows
/-! contracts -/
def XB (G : XG) (S : Mem) (U : State) : Prop := va_P G.1 vwCl (wW G S) U.heap ∧ va_K G.1 vwCl (xT G) U ∧ XN U
def XMi (l : Launch) (G : XG) (y : MethodName) (b : ByteArray) (nl : Nat) (ty : FieldType) (F N : Nat) (av : List Value) (S : Mem) (K : Int32 → Mem → Prop) : Prop := Met l y (.code y b nl (some ty) :: TB) { frames := F, cells := 0, slots := 0, locals := N } (va_Pc av (XB G S)) (va_Qi K (XB G) (XA G)) 0 0 (XA G)
def XMv (l : Launch) (G : XG) (y : MethodName) (b : ByteArray) (nl : Nat) (F N : Nat) (av : List Value) (S : Mem) (K : Mem → Prop) : Prop := Met l y (.code y b nl none :: TB) { frames := F, cells := 0, slots := 0, locals := N } (va_Pc av (XB G S)) (va_Qv K (XB G) (XA G)) 0 0 (XA G)
def XMe (l : Launch) (G : XG) (y : MethodName) (b : ByteArray) (nl : Nat) (ty : FieldType) (F N : Nat) (av : List Value) (S : Mem) (K : Option Nat → Mem → Prop) : Prop := Met l y (.code y b nl (some ty) :: TB) { frames := F, cells := 0, slots := 0, locals := N } (va_Pc av (XB G S)) (va_Qe (xad G) K (XB G) (XA G)) 0 0 (XA G)
def XRet (κ : Kx) (rt : Option FieldType) (Qc : Array Value → State → Outcome → State → Prop) : Prop :=
  (kM κ).sig.returnType = rt ∧ (kM κ).locks = false ∧ kA κ = XA (kG κ) ∧ kc κ = 0 ∧ ko κ = 0 ∧ kQ κ = MQ (kb κ) Qc (ka κ) (ks κ) 0 0 (XA (kG κ))
theorem tbl_goodIn {w : Cond} (h : w ∈ TB) : GoodIn TB (w :: TB) := fun v hv => by
  have hm : v ∈ TB := (List.mem_cons.mp hv).elim (fun e => e ▸ h) id
  exact ⟨hm, good_of_word (List.mem_filter.mp hm).2⟩
theorem XB_blind {G : XG} {S : Mem} (av : List Value) : FrameBlind (va_Pc av (XB G S)) := fun a U g mk q => by
  obtain ⟨q0, qP, qK, qN⟩ := q
  exact ⟨q0, qP, va_K.moved (u := U) (U := U.calling g mk a) (Vm.Alike.refl U.vm) qK, XN.same (u := U) (U := U.calling g mk a) rfl qN⟩
theorem XB_pre {κ : Kx} {own : String} {cc : ByteArray} {nl F N : Nat} (C : XC κ own cc nl F N) {S : Mem} {H : Heap} (hP : va_P (kG κ).1 vwCl (wW (kG κ) S) H) (av : List Value) : ∀ U : State, U.heap = H → (ks κ).WarmedH U.vm → va_Pc av (XB (kG κ) S) av.toArray U := fun U hU hW => ⟨rfl, by rw [hU]; exact hP, va_K.moved hW.alike C.g_K, C.g_X.warm hW⟩
/-- a method's facts in the tables: its code, that it is an object's, which it selects -/
def XE (y : MethodName) (b : ByteArray) (nl : Nat) (ret : Option FieldType) (n : Nat) : Prop := Cond.code y b nl ret ∈ TB ∧ Cond.instanceMethod y ∈ TB ∧ Cond.selects y.cls y y ∈ TB ∧ Cond.initialized y.cls ∈ TB ∧ (y.cls ≠ "java/lang/invoke/MethodHandle" ∧ y.cls ≠ "java/lang/invoke/VarHandle" ∧ (parseMethodDescriptor y.desc).map (fun d => d.parameters.length) = some n)
def XEs (y : MethodName) (b : ByteArray) (nl : Nat) (ret : Option FieldType) (n : Nat) : Prop := Cond.code y b nl ret ∈ TB ∧ Cond.static y ∈ TB ∧ Cond.initialized y.cls ∈ TB ∧ (y.cls ≠ "java/lang/invoke/MethodHandle" ∧ y.cls ≠ "java/lang/invoke/VarHandle" ∧ (parseMethodDescriptor y.desc).map (fun d => d.parameters.length) = some n)
section XCalls
variable {κ : Kx} {own : String} {cc : ByteArray} {nl F N : Nat} {S : Mem} {pc : Nat} {lv : List (Nat × Value)} {st : List Value}
theorem X_runV (C : XC κ own cc nl F N) {y : MethodName} {b : ByteArray} {nc f n k index : Nat} {ret : Option FieldType} {Qc : Array Value → State → Outcome → State → Prop} (E : XE y b nc ret k) (As rest : List Value) {i ci : Nat} {fs : List Value} {T : u_T} {Nf : Nat} (hM : Met (kl κ) y (.code y b nc ret :: TB) { frames := f, cells := 0, slots := 0, locals := n } (va_Pc (.ref (xad (kG κ) i) :: As) (XB (kG κ) S)) Qc 0 0 (XA (kG κ))) (hi : i < 66) (hc : wcell (kG κ) i (S i) = .inr (ci, fs)) (hcl : vwCl[ci]? = some (y.cls, T, Nf)) (hq : Cond.methodLink own index y ∈ TB) (hn : As.length = k) (hR : f + 1 ≤ F ∧ 8 + (nc + 11) + n ≤ N) (hst : st = As.reverse ++ .ref (xad (kG κ) i) :: rest) (hW : (rest.map fun v => v.category).sum ≤ 8) (hdg : decode cc pc = .ok (.invokevirtual index, 3)) {H : Heap} {locs : List Loc} {ls : Array Slot} (hP : va_P (kG κ).1 vwCl (wW (kG κ) S) H) (h : lv_has ls (kN κ) lv) :
    va_Run (kp κ) (kl κ) (ke κ) (kR κ) (ks κ) (km κ) (ka κ) (kb κ) (kM κ) (kC κ) H locs (kc κ) (ko κ) 0 0 (F0 (km κ) pc ls st) rest (Qc (Value.ref (xad (kG κ) i) :: As).toArray) (XA (kG κ)) :=
  va_runV (nL := nl) (n := k) (C := y.cls) (own := own) (As := As) (Ts := TB) ⟨C.1, C.2.1, C.g_ml, C.g_own, C.g_ts⟩ hM
    ⟨callB_of k C.g_ts (tbl_goodIn E.1) rfl rfl rfl (C.g_ts _ E.2.2.2.1) (C.g_ts _ hq) E.2.2.2.2 (by rw [C.g_F, C.g_N]; exact hR), C.g_ts _ E.2.1, C.g_ts _ E.2.2.1⟩
    ⟨XB_blind _, va_recv C.g_K hP hcl (by rw [wW_get _ _ hi, hc]), XB_pre C hP _⟩ rfl hn (h.1.trans C.g_nl) hst (lv_room hW) hdg ⟨C.g_c, C.g_o⟩
theorem X_runS (C : XC κ own cc nl F N) {y : MethodName} {b : ByteArray} {nc f n k index : Nat} {ret : Option FieldType} {Qc : Array Value → State → Outcome → State → Prop} (E : XEs y b nc ret k) (As rest : List Value) (hM : Met (kl κ) y (.code y b nc ret :: TB) { frames := f, cells := 0, slots := 0, locals := n } (va_Pc As (XB (kG κ) S)) Qc 0 0 (XA (kG κ))) (hq : Cond.methodLink own index y ∈ TB) (hn : As.length = k) (hR : f + 1 ≤ F ∧ 8 + (nc + 11) + n ≤ N) (hst : st = As.reverse ++ rest) (hW : (rest.map fun v => v.category).sum ≤ 8) (hdg : decode cc pc = .ok (.invokestatic index, 3)) {H : Heap} {locs : List Loc} {ls : Array Slot} (hP : va_P (kG κ).1 vwCl (wW (kG κ) S) H) (h : lv_has ls (kN κ) lv) :
    va_Run (kp κ) (kl κ) (ke κ) (kR κ) (ks κ) (km κ) (ka κ) (kb κ) (kM κ) (kC κ) H locs (kc κ) (ko κ) 0 0 (F0 (km κ) pc ls st) rest (Qc As.toArray) (XA (kG κ)) :=
  va_runS (nL := nl) (n := k) (own := own) (As := As) (Ts := TB) ⟨C.1, C.2.1, C.g_ml, C.g_own, C.g_ts⟩ hM
    ⟨callB_of k C.g_ts (tbl_goodIn E.1) rfl rfl rfl (C.g_ts _ E.2.2.1) (C.g_ts _ hq) E.2.2.2 (by rw [C.g_F, C.g_N]; exact hR), C.g_ts _ E.2.1⟩
    ⟨XB_blind _, XB_pre C hP _⟩ rfl hn (h.1.trans C.g_nl) hst (lv_room hW) hdg ⟨C.g_c, C.g_o⟩
theorem X_runSN (C : XC κ own cc nl F N) {y : MethodName} {b : ByteArray} {nc f n k index : Nat} {host : String} {ret : Option FieldType} {Qc : Array Value → State → Outcome → State → Prop} (E : XEs y b nc ret k) (As rest : List Value) (hM : Met (kl κ) y (.code y b nc ret :: TB) { frames := f, cells := 0, slots := 0, locals := n } (va_Pc As (XB (kG κ) S)) Qc 0 0 (XA (kG κ))) (hq : Cond.methodLinkNest own index y host ∈ xnest) (hn : As.length = k) (hR : f + 1 ≤ F ∧ 8 + (nc + 11) + n ≤ N) (hst : st = As.reverse ++ rest) (hW : (rest.map fun v => v.category).sum ≤ 8) (hdg : decode cc pc = .ok (.invokestatic index, 3)) {H : Heap} {locs : List Loc} {ls : Array Slot} (hP : va_P (kG κ).1 vwCl (wW (kG κ) S) H) (h : lv_has ls (kN κ) lv) :
    va_Run (kp κ) (kl κ) (ke κ) (kR κ) (ks κ) (km κ) (ka κ) (kb κ) (kM κ) (kC κ) H locs (kc κ) (ko κ) 0 0 (F0 (km κ) pc ls st) rest (Qc As.toArray) (XA (kG κ)) :=
  va_runSN (nL := nl) (n := k) (own := own) (host := host) (As := As) (Ts := TB) ⟨C.1, C.2.1, C.g_ml, C.g_own, C.g_ts⟩ hM
    ⟨va_cnB k C.g_ts (tbl_goodIn E.1) rfl rfl rfl (C.g_X _ hq) (C.g_ts _ E.2.2.1) E.2.2.2 (by rw [C.g_F, C.g_N]; exact hR), C.g_ts _ E.2.1, trivial⟩
    ⟨XB_blind _, XB_pre C hP _⟩ rfl hn (h.1.trans C.g_nl) hst (lv_room hW) hdg ⟨C.g_c, C.g_o⟩
theorem XC.g_sub (C : XC κ own cc nl F N) : ∀ q, XA (kG κ) q → kA κ q := fun q ⟨i, hi, e⟩ => e ▸ C.g_A i hi
theorem X_endi (C : XC κ own cc nl F N) {K : Int32 → Mem → Prop} {rest : List Value} {a : Array Value} (hr : ∀ (H : Heap) (locs : List Loc) (ls : Array Slot), va_P (kG κ).1 vwCl (wW (kG κ) S) H → lv_has ls (kN κ) lv → va_Run (kp κ) (kl κ) (ke κ) (kR κ) (ks κ) (km κ) (ka κ) (kb κ) (kM κ) (kC κ) H locs (kc κ) (ko κ) 0 0 (F0 (km κ) pc ls st) rest (va_Qi K (XB (kG κ)) (XA (kG κ)) a) (XA (kG κ))) (kk : ∀ (r : Int32) (S1 : Mem), K r S1 → XW κ S1 (pc + 3) lv (.int r :: rest)) : XW κ S pc lv st := by
  intro H locs ls hP hS h
  refine va_calli (hr H locs ls hP h) hS (fun q _ hq => C.g_sub q hq) C.g_sub (fun r u t H1 locs1 ht hvm hw hB _ _ hS1 => ?_)
  exact kk r u hw H1 locs1 ls (by rw [← ht]; exact hB.1) hS1 h
theorem X_endv (C : XC κ own cc nl F N) {K : Mem → Prop} {rest : List Value} {a : Array Value} (hr : ∀ (H : Heap) (locs : List Loc) (ls : Array Slot), va_P (kG κ).1 vwCl (wW (kG κ) S) H → lv_has ls (kN κ) lv → va_Run (kp κ) (kl κ) (ke κ) (kR κ) (ks κ) (km κ) (ka κ) (kb κ) (kM κ) (kC κ) H locs (kc κ) (ko κ) 0 0 (F0 (km κ) pc ls st) rest (va_Qv K (XB (kG κ)) (XA (kG κ)) a) (XA (kG κ))) (kk : ∀ (S1 : Mem), K S1 → XW κ S1 (pc + 3) lv rest) : XW κ S pc lv st := by
  intro H locs ls hP hS h
  refine va_callv (hr H locs ls hP h) hS (fun q _ hq => C.g_sub q hq) C.g_sub (fun u t H1 locs1 ht hvm hw hB _ _ hS1 => ?_)
  exact kk u hw H1 locs1 ls (by rw [← ht]; exact hB.1) hS1 h
theorem X_ende (C : XC κ own cc nl F N) {K : Option Nat → Mem → Prop} {rest : List Value} {a : Array Value} (hr : ∀ (H : Heap) (locs : List Loc) (ls : Array Slot), va_P (kG κ).1 vwCl (wW (kG κ) S) H → lv_has ls (kN κ) lv → va_Run (kp κ) (kl κ) (ke κ) (kR κ) (ks κ) (km κ) (ka κ) (kb κ) (kM κ) (kC κ) H locs (kc κ) (ko κ) 0 0 (F0 (km κ) pc ls st) rest (va_Qe (xad (kG κ)) K (XB (kG κ)) (XA (kG κ)) a) (XA (kG κ))) (kk : ∀ (r : Option Nat) (S1 : Mem), K r S1 → XW κ S1 (pc + 3) lv (va_re (xad (kG κ)) r :: rest)) : XW κ S pc lv st := by
  intro H locs ls hP hS h
  refine va_calle (hr H locs ls hP h) hS (fun q _ hq => C.g_sub q hq) C.g_sub (fun r u t H1 locs1 ht hvm hw hB _ _ hS1 => ?_)
  exact kk r u hw H1 locs1 ls (by rw [← ht]; exact hB.1) hS1 h
theorem X_callVi (C : XC κ own cc nl F N) {y : MethodName} {b : ByteArray} {nc f n k index : Nat} {ty : FieldType} {K : Int32 → Mem → Prop} (E : XE y b nc (some ty) k) (As rest : List Value) {i ci : Nat} {fs : List Value} {T : u_T} {Nf : Nat} (hM : XMi (kl κ) (kG κ) y b nc ty f n (.ref (xad (kG κ) i) :: As) S K) (hi : i < 66) (hc : wcell (kG κ) i (S i) = .inr (ci, fs)) (hcl : vwCl[ci]? = some (y.cls, T, Nf)) (hq : Cond.methodLink own index y ∈ TB) (hn : As.length = k) (hR : f + 1 ≤ F ∧ 8 + (nc + 11) + n ≤ N) (hst : st = As.reverse ++ .ref (xad (kG κ) i) :: rest) (hW : (rest.map fun v => v.category).sum ≤ 8) (hdg : decode cc pc = .ok (.invokevirtual index, 3)) (kk : ∀ (r : Int32) (S1 : Mem), K r S1 → XW κ S1 (pc + 3) lv (.int r :: rest)) : XW κ S pc lv st := X_endi C (fun _ _ _ hP h => X_runV C E As rest hM hi hc hcl hq hn hR hst hW hdg hP h) kk
theorem X_callVv (C : XC κ own cc nl F N) {y : MethodName} {b : ByteArray} {nc f n k index : Nat} {K : Mem → Prop} (E : XE y b nc none k) (As rest : List Value) {i ci : Nat} {fs : List Value} {T : u_T} {Nf : Nat} (hM : XMv (kl κ) (kG κ) y b nc f n (.ref (xad (kG κ) i) :: As) S K) (hi : i < 66) (hc : wcell (kG κ) i (S i) = .inr (ci, fs)) (hcl : vwCl[ci]? = some (y.cls, T, Nf)) (hq : Cond.methodLink own index y ∈ TB) (hn : As.length = k) (hR : f + 1 ≤ F ∧ 8 + (nc + 11) + n ≤ N) (hst : st = As.reverse ++ .ref (xad (kG κ) i) :: rest) (hW : (rest.map fun v => v.category).sum ≤ 8) (hdg : decode cc pc = .ok (.invokevirtual index, 3)) (kk : ∀ (S1 : Mem), K S1 → XW κ S1 (pc + 3) lv rest) : XW κ S pc lv st := X_endv C (fun _ _ _ hP h => X_runV C E As rest hM hi hc hcl hq hn hR hst hW hdg hP h) kk
theorem X_callVe (C : XC κ own cc nl F N) {y : MethodName} {b : ByteArray} {nc f n k index : Nat} {ty : FieldType} {K : Option Nat → Mem → Prop} (E : XE y b nc (some ty) k) (As rest : List Value) {i ci : Nat} {fs : List Value} {T : u_T} {Nf : Nat} (hM : XMe (kl κ) (kG κ) y b nc ty f n (.ref (xad (kG κ) i) :: As) S K) (hi : i < 66) (hc : wcell (kG κ) i (S i) = .inr (ci, fs)) (hcl : vwCl[ci]? = some (y.cls, T, Nf)) (hq : Cond.methodLink own index y ∈ TB) (hn : As.length = k) (hR : f + 1 ≤ F ∧ 8 + (nc + 11) + n ≤ N) (hst : st = As.reverse ++ .ref (xad (kG κ) i) :: rest) (hW : (rest.map fun v => v.category).sum ≤ 8) (hdg : decode cc pc = .ok (.invokevirtual index, 3)) (kk : ∀ (r : Option Nat) (S1 : Mem), K r S1 → XW κ S1 (pc + 3) lv (va_re (xad (kG κ)) r :: rest)) : XW κ S pc lv st := X_ende C (fun _ _ _ hP h => X_runV C E As rest hM hi hc hcl hq hn hR hst hW hdg hP h) kk
theorem X_callSi (C : XC κ own cc nl F N) {y : MethodName} {b : ByteArray} {nc f n k index : Nat} {ty : FieldType} {K : Int32 → Mem → Prop} (E : XEs y b nc (some ty) k) (As rest : List Value) (hM : XMi (kl κ) (kG κ) y b nc ty f n As S K) (hq : Cond.methodLink own index y ∈ TB) (hn : As.length = k) (hR : f + 1 ≤ F ∧ 8 + (nc + 11) + n ≤ N) (hst : st = As.reverse ++ rest) (hW : (rest.map fun v => v.category).sum ≤ 8) (hdg : decode cc pc = .ok (.invokestatic index, 3)) (kk : ∀ (r : Int32) (S1 : Mem), K r S1 → XW κ S1 (pc + 3) lv (.int r :: rest)) : XW κ S pc lv st := X_endi C (fun _ _ _ hP h => X_runS C E As rest hM hq hn hR hst hW hdg hP h) kk
theorem X_callSv (C : XC κ own cc nl F N) {y : MethodName} {b : ByteArray} {nc f n k index : Nat} {K : Mem → Prop} (E : XEs y b nc none k) (As rest : List Value) (hM : XMv (kl κ) (kG κ) y b nc f n As S K) (hq : Cond.methodLink own index y ∈ TB) (hn : As.length = k) (hR : f + 1 ≤ F ∧ 8 + (nc + 11) + n ≤ N) (hst : st = As.reverse ++ rest) (hW : (rest.map fun v => v.category).sum ≤ 8) (hdg : decode cc pc = .ok (.invokestatic index, 3)) (kk : ∀ (S1 : Mem), K S1 → XW κ S1 (pc + 3) lv rest) : XW κ S pc lv st := X_endv C (fun _ _ _ hP h => X_runS C E As rest hM hq hn hR hst hW hdg hP h) kk
theorem X_callSNi (C : XC κ own cc nl F N) {y : MethodName} {b : ByteArray} {nc f n k index : Nat} {host : String} {ty : FieldType} {K : Int32 → Mem → Prop} (E : XEs y b nc (some ty) k) (As rest : List Value) (hM : XMi (kl κ) (kG κ) y b nc ty f n As S K) (hq : Cond.methodLinkNest own index y host ∈ xnest) (hn : As.length = k) (hR : f + 1 ≤ F ∧ 8 + (nc + 11) + n ≤ N) (hst : st = As.reverse ++ rest) (hW : (rest.map fun v => v.category).sum ≤ 8) (hdg : decode cc pc = .ok (.invokestatic index, 3)) (kk : ∀ (r : Int32) (S1 : Mem), K r S1 → XW κ S1 (pc + 3) lv (.int r :: rest)) : XW κ S pc lv st := X_endi C (fun _ _ _ hP h => X_runSN C E As rest hM hq hn hR hst hW hdg hP h) kk
/-! ends -/
theorem X_iret (C : XC κ own cc nl F N) {ty : FieldType} {K : Int32 → Mem → Prop} (E : XRet κ (some ty) (va_Qi K (XB (kG κ)) (XA (kG κ)))) {v : Int32} (hn : narrow ty (.int v) = .int v) (h : K v S) (hdg : decode cc pc = .ok (.ireturn, 1)) : XW κ S pc lv [.int v] := by
  obtain ⟨hr, hlocks, hA, e1, e2, eQ⟩ := E
  intro H locs ls hP hS hl
  rw [eQ, e1, e2]
  rw [hA] at hS
  exact W.zret C.1 C.2.1 hr hn (fun t ht hW => ⟨⟨v, S, rfl, h, by rw [ht]; exact hP, va_K.moved hW.alike C.g_K, C.g_X.warm hW⟩, hS.F ht⟩) hS.2.2 hdg hlocks
theorem X_vret (C : XC κ own cc nl F N) {K : Mem → Prop} (E : XRet κ none (va_Qv K (XB (kG κ)) (XA (kG κ)))) (h : K S) (hdg : decode cc pc = .ok (.return_, 1)) : XW κ S pc lv [] := by
  obtain ⟨hr, hlocks, hA, e1, e2, eQ⟩ := E
  intro H locs ls hP hS hl
  rw [eQ, e1, e2]
  rw [hA] at hS
  exact W.vret C.1 C.2.1 hr (fun t ht hW => ⟨⟨S, rfl, h, by rw [ht]; exact hP, va_K.moved hW.alike C.g_K, C.g_X.warm hW⟩, hS.F ht⟩) hS.2.2 hdg hlocks
theorem X_aret (C : XC κ own cc nl F N) {cn : String} {K : Option Nat → Mem → Prop} (E : XRet κ (some (.object cn)) (va_Qe (xad (kG κ)) K (XB (kG κ)) (XA (kG κ)))) (r : Option Nat) {v : Value} (hv : v = va_re (xad (kG κ)) r) (h : K r S) (hdg : decode cc pc = .ok (.areturn, 1)) : XW κ S pc lv [v] := by
  obtain ⟨hr, hlocks, hA, e1, e2, eQ⟩ := E
  intro H locs ls hP hS hl
  rw [eQ, e1, e2]
  rw [hA] at hS
  subst hv
  exact W.aret C.1 C.2.1 hr (Or.inl ⟨_, rfl⟩) (va_re_or _ _) (fun t ht hW => ⟨⟨r, S, rfl, h, by rw [ht]; exact hP, va_K.moved hW.alike C.g_K, C.g_X.warm hW⟩, hS.F ht⟩) hS.2.2 hdg hlocks
end XCalls
section XMeth
variable {l : Launch} {G : XG} {y : MethodName} {b : ByteArray} {nl F N : Nat} {av : List Value} {S : Mem}
theorem X_meth {ret : Option FieldType} {Qc : Array Value → State → Outcome → State → Prop} (own : String) (hown : y.cls = own) (hy : plainName y.cls = true) (hJ : XJ G) (hsz : (lg_sl av).length ≤ nl) (body : ∀ κ : Kx, kl κ = l → kG κ = G → XC κ own b nl F N → XRet κ ret Qc → XW κ S 0 (lv_args 0 av) []) : Met l y (.code y b nl ret :: TB) { frames := F, cells := 0, slots := 0, locals := N } (va_Pc av (XB G S)) Qc 0 0 (XA G) := by
  refine Met.ofW (cc := b) (maxL := nl) (ret := ret) hy rfl ?_
  intro p e s m args below meth c s₁ B hml hv
  obtain ⟨rfl, hP, hK, hN⟩ := hv
  have hts := atoms_spec (ws := .code y b nl ret :: TB) B.pre
  have ho : s.vm.findClass y.cls = some m.cls := findClass_of_methodNamed B.named
  rw [lg_entry_eq]
  subst hown
  exact body (p, l, e, _, s, m, av.toArray, below, meth, c, G, XA G, nl, 0, 0, MQ below Qc av.toArray s 0 0 (XA G)) rfl rfl ⟨B.exec, B.bytes, hml, rfl, ho, fun w hw => hts w (List.mem_cons_of_mem _ hw), hK, hJ, fun i hi => ⟨i, hi, rfl⟩, rfl, rfl, Nat.le_refl 0, Nat.le_refl 0, hN⟩ ⟨B.returns, B.notSynchronized, rfl, rfl, rfl, rfl⟩ s.heap [] _ hP va_S.rf (lv_entry av hsz)
end XMeth

theorem X_iadd {κ : Kx} {own : String} {cc : ByteArray} {nl F N : Nat} {S : Mem} {pc : Nat} {lv : List (Nat × Value)} {st : List Value} (C : XC κ own cc nl F N) {x y : Int32} (hdg : decode cc pc = .ok (.iadd, 1)) (kk : XW κ S (pc + 1) lv (.int (x + y) :: st)) : XW κ S pc lv (.int y :: .int x :: st) := fun H locs ls hP hS hl => lv_iadd C.1 C.2.1 hdg (kk H locs ls hP hS hl)
theorem X_isub {κ : Kx} {own : String} {cc : ByteArray} {nl F N : Nat} {S : Mem} {pc : Nat} {lv : List (Nat × Value)} {st : List Value} (C : XC κ own cc nl F N) {x y : Int32} (hdg : decode cc pc = .ok (.isub, 1)) (kk : XW κ S (pc + 1) lv (.int (x - y) :: st)) : XW κ S pc lv (.int y :: .int x :: st) := fun H locs ls hP hS hl => lv_isub C.1 C.2.1 hdg (kk H locs ls hP hS hl)
theorem X_imul {κ : Kx} {own : String} {cc : ByteArray} {nl F N : Nat} {S : Mem} {pc : Nat} {lv : List (Nat × Value)} {st : List Value} (C : XC κ own cc nl F N) {x y : Int32} (hdg : decode cc pc = .ok (.imul, 1)) (kk : XW κ S (pc + 1) lv (.int (x * y) :: st)) : XW κ S pc lv (.int y :: .int x :: st) := fun H locs ls hP hS hl => lv_imul C.1 C.2.1 hdg (kk H locs ls hP hS hl)
theorem X_iand {κ : Kx} {own : String} {cc : ByteArray} {nl F N : Nat} {S : Mem} {pc : Nat} {lv : List (Nat × Value)} {st : List Value} (C : XC κ own cc nl F N) {x y : Int32} (hdg : decode cc pc = .ok (.iand, 1)) (kk : XW κ S (pc + 1) lv (.int (x &&& y) :: st)) : XW κ S pc lv (.int y :: .int x :: st) := fun H locs ls hP hS hl => lv_iand C.1 C.2.1 hdg (kk H locs ls hP hS hl)
theorem X_ior {κ : Kx} {own : String} {cc : ByteArray} {nl F N : Nat} {S : Mem} {pc : Nat} {lv : List (Nat × Value)} {st : List Value} (C : XC κ own cc nl F N) {x y : Int32} (hdg : decode cc pc = .ok (.ior, 1)) (kk : XW κ S (pc + 1) lv (.int (x ||| y) :: st)) : XW κ S pc lv (.int y :: .int x :: st) := fun H locs ls hP hS hl => lv_ior C.1 C.2.1 hdg (kk H locs ls hP hS hl)
theorem X_ishl {κ : Kx} {own : String} {cc : ByteArray} {nl F N : Nat} {S : Mem} {pc : Nat} {lv : List (Nat × Value)} {st : List Value} (C : XC κ own cc nl F N) {x y : Int32} (hdg : decode cc pc = .ok (.ishl, 1)) (kk : XW κ S (pc + 1) lv (.int (x <<< (y &&& 31)) :: st)) : XW κ S pc lv (.int y :: .int x :: st) := fun H locs ls hP hS hl => lv_ishl C.1 C.2.1 hdg (kk H locs ls hP hS hl)
theorem X_ishr {κ : Kx} {own : String} {cc : ByteArray} {nl F N : Nat} {S : Mem} {pc : Nat} {lv : List (Nat × Value)} {st : List Value} (C : XC κ own cc nl F N) {x y : Int32} (hdg : decode cc pc = .ok (.ishr, 1)) (kk : XW κ S (pc + 1) lv (.int (x >>> (y &&& 31)) :: st)) : XW κ S pc lv (.int y :: .int x :: st) := fun H locs ls hP hS hl => lv_ishr C.1 C.2.1 hdg (kk H locs ls hP hS hl)
theorem X_idiv {κ : Kx} {own : String} {cc : ByteArray} {nl F N : Nat} {S : Mem} {pc : Nat} {lv : List (Nat × Value)} {st : List Value} (C : XC κ own cc nl F N) {x y : Int32} (hdg : decode cc pc = .ok (.idiv, 1)) (hne : ¬ y = 0) (kk : XW κ S (pc + 1) lv (.int (x / y) :: st)) : XW κ S pc lv (.int y :: .int x :: st) := fun H locs ls hP hS hl => lv_idiv C.1 C.2.1 hdg hne (kk H locs ls hP hS hl)
theorem X_irem {κ : Kx} {own : String} {cc : ByteArray} {nl F N : Nat} {S : Mem} {pc : Nat} {lv : List (Nat × Value)} {st : List Value} (C : XC κ own cc nl F N) {x y : Int32} (hdg : decode cc pc = .ok (.irem, 1)) (hne : ¬ y = 0) (kk : XW κ S (pc + 1) lv (.int (x - x / y * y) :: st)) : XW κ S pc lv (.int y :: .int x :: st) := fun H locs ls hP hS hl => lv_irem C.1 C.2.1 hdg hne (kk H locs ls hP hS hl)
theorem X_ineg {κ : Kx} {own : String} {cc : ByteArray} {nl F N : Nat} {S : Mem} {pc : Nat} {lv : List (Nat × Value)} {st : List Value} (C : XC κ own cc nl F N) {x : Int32} (hdg : decode cc pc = .ok (.ineg, 1)) (kk : XW κ S (pc + 1) lv (.int (-x) :: st)) : XW κ S pc lv (.int x :: st) := fun H locs ls hP hS hl => lv_ineg C.1 C.2.1 hdg (kk H locs ls hP hS hl)
theorem X_if_eq {κ : Kx} {own : String} {cc : ByteArray} {nl F N : Nat} {S : Mem} {pc : Nat} {lv : List (Nat × Value)} {st : List Value} (C : XC κ own cc nl F N) {x : Int32} {off : Int} (tgt : Nat) (hdg : decode cc pc = .ok (.ifCond .eq off, 3)) (ht : (pc : Int) + off = (tgt : Int)) (kt : x = 0 → XW κ S tgt lv st) (kf : ¬ x = 0 → XW κ S (pc + 3) lv st) : XW κ S pc lv (.int x :: st) := fun H locs ls hP hS hl => lv_if_eq C.1 C.2.1 hdg ht (fun h => kt h H locs ls hP hS hl) (fun h => kf h H locs ls hP hS hl)
theorem X_if_ne {κ : Kx} {own : String} {cc : ByteArray} {nl F N : Nat} {S : Mem} {pc : Nat} {lv : List (Nat × Value)} {st : List Value} (C : XC κ own cc nl F N) {x : Int32} {off : Int} (tgt : Nat) (hdg : decode cc pc = .ok (.ifCond .ne off, 3)) (ht : (pc : Int) + off = (tgt : Int)) (kt : ¬ x = 0 → XW κ S tgt lv st) (kf : x = 0 → XW κ S (pc + 3) lv st) : XW κ S pc lv (.int x :: st) := fun H locs ls hP hS hl => lv_if_ne C.1 C.2.1 hdg ht (fun h => kt h H locs ls hP hS hl) (fun h => kf h H locs ls hP hS hl)
theorem X_if_lt {κ : Kx} {own : String} {cc : ByteArray} {nl F N : Nat} {S : Mem} {pc : Nat} {lv : List (Nat × Value)} {st : List Value} (C : XC κ own cc nl F N) {x : Int32} {off : Int} (tgt : Nat) (hdg : decode cc pc = .ok (.ifCond .lt off, 3)) (ht : (pc : Int) + off = (tgt : Int)) (kt : x < 0 → XW κ S tgt lv st) (kf : ¬ x < 0 → XW κ S (pc + 3) lv st) : XW κ S pc lv (.int x :: st) := fun H locs ls hP hS hl => lv_if_lt C.1 C.2.1 hdg ht (fun h => kt h H locs ls hP hS hl) (fun h => kf h H locs ls hP hS hl)
theorem X_if_ge {κ : Kx} {own : String} {cc : ByteArray} {nl F N : Nat} {S : Mem} {pc : Nat} {lv : List (Nat × Value)} {st : List Value} (C : XC κ own cc nl F N) {x : Int32} {off : Int} (tgt : Nat) (hdg : decode cc pc = .ok (.ifCond .ge off, 3)) (ht : (pc : Int) + off = (tgt : Int)) (kt : 0 ≤ x → XW κ S tgt lv st) (kf : ¬ 0 ≤ x → XW κ S (pc + 3) lv st) : XW κ S pc lv (.int x :: st) := fun H locs ls hP hS hl => lv_if_ge C.1 C.2.1 hdg ht (fun h => kt h H locs ls hP hS hl) (fun h => kf h H locs ls hP hS hl)
theorem X_if_gt {κ : Kx} {own : String} {cc : ByteArray} {nl F N : Nat} {S : Mem} {pc : Nat} {lv : List (Nat × Value)} {st : List Value} (C : XC κ own cc nl F N) {x : Int32} {off : Int} (tgt : Nat) (hdg : decode cc pc = .ok (.ifCond .gt off, 3)) (ht : (pc : Int) + off = (tgt : Int)) (kt : 0 < x → XW κ S tgt lv st) (kf : ¬ 0 < x → XW κ S (pc + 3) lv st) : XW κ S pc lv (.int x :: st) := fun H locs ls hP hS hl => lv_if_gt C.1 C.2.1 hdg ht (fun h => kt h H locs ls hP hS hl) (fun h => kf h H locs ls hP hS hl)
theorem X_if_le {κ : Kx} {own : String} {cc : ByteArray} {nl F N : Nat} {S : Mem} {pc : Nat} {lv : List (Nat × Value)} {st : List Value} (C : XC κ own cc nl F N) {x : Int32} {off : Int} (tgt : Nat) (hdg : decode cc pc = .ok (.ifCond .le off, 3)) (ht : (pc : Int) + off = (tgt : Int)) (kt : x ≤ 0 → XW κ S tgt lv st) (kf : ¬ x ≤ 0 → XW κ S (pc + 3) lv st) : XW κ S pc lv (.int x :: st) := fun H locs ls hP hS hl => lv_if_le C.1 C.2.1 hdg ht (fun h => kt h H locs ls hP hS hl) (fun h => kf h H locs ls hP hS hl)
theorem X_icmp_eq {κ : Kx} {own : String} {cc : ByteArray} {nl F N : Nat} {S : Mem} {pc : Nat} {lv : List (Nat × Value)} {st : List Value} (C : XC κ own cc nl F N) {x y : Int32} {off : Int} (tgt : Nat) (hdg : decode cc pc = .ok (.if_icmp .eq off, 3)) (ht : (pc : Int) + off = (tgt : Int)) (kt : x = y → XW κ S tgt lv st) (kf : ¬ x = y → XW κ S (pc + 3) lv st) : XW κ S pc lv (.int y :: .int x :: st) := fun H locs ls hP hS hl => lv_icmp_eq C.1 C.2.1 hdg ht (fun h => kt h H locs ls hP hS hl) (fun h => kf h H locs ls hP hS hl)
theorem X_icmp_ne {κ : Kx} {own : String} {cc : ByteArray} {nl F N : Nat} {S : Mem} {pc : Nat} {lv : List (Nat × Value)} {st : List Value} (C : XC κ own cc nl F N) {x y : Int32} {off : Int} (tgt : Nat) (hdg : decode cc pc = .ok (.if_icmp .ne off, 3)) (ht : (pc : Int) + off = (tgt : Int)) (kt : ¬ x = y → XW κ S tgt lv st) (kf : x = y → XW κ S (pc + 3) lv st) : XW κ S pc lv (.int y :: .int x :: st) := fun H locs ls hP hS hl => lv_icmp_ne C.1 C.2.1 hdg ht (fun h => kt h H locs ls hP hS hl) (fun h => kf h H locs ls hP hS hl)
theorem X_icmp_lt {κ : Kx} {own : String} {cc : ByteArray} {nl F N : Nat} {S : Mem} {pc : Nat} {lv : List (Nat × Value)} {st : List Value} (C : XC κ own cc nl F N) {x y : Int32} {off : Int} (tgt : Nat) (hdg : decode cc pc = .ok (.if_icmp .lt off, 3)) (ht : (pc : Int) + off = (tgt : Int)) (kt : x < y → XW κ S tgt lv st) (kf : ¬ x < y → XW κ S (pc + 3) lv st) : XW κ S pc lv (.int y :: .int x :: st) := fun H locs ls hP hS hl => lv_icmp_lt C.1 C.2.1 hdg ht (fun h => kt h H locs ls hP hS hl) (fun h => kf h H locs ls hP hS hl)
theorem X_icmp_ge {κ : Kx} {own : String} {cc : ByteArray} {nl F N : Nat} {S : Mem} {pc : Nat} {lv : List (Nat × Value)} {st : List Value} (C : XC κ own cc nl F N) {x y : Int32} {off : Int} (tgt : Nat) (hdg : decode cc pc = .ok (.if_icmp .ge off, 3)) (ht : (pc : Int) + off = (tgt : Int)) (kt : y ≤ x → XW κ S tgt lv st) (kf : ¬ y ≤ x → XW κ S (pc + 3) lv st) : XW κ S pc lv (.int y :: .int x :: st) := fun H locs ls hP hS hl => lv_icmp_ge C.1 C.2.1 hdg ht (fun h => kt h H locs ls hP hS hl) (fun h => kf h H locs ls hP hS hl)
theorem X_icmp_gt {κ : Kx} {own : String} {cc : ByteArray} {nl F N : Nat} {S : Mem} {pc : Nat} {lv : List (Nat × Value)} {st : List Value} (C : XC κ own cc nl F N) {x y : Int32} {off : Int} (tgt : Nat) (hdg : decode cc pc = .ok (.if_icmp .gt off, 3)) (ht : (pc : Int) + off = (tgt : Int)) (kt : y < x → XW κ S tgt lv st) (kf : ¬ y < x → XW κ S (pc + 3) lv st) : XW κ S pc lv (.int y :: .int x :: st) := fun H locs ls hP hS hl => lv_icmp_gt C.1 C.2.1 hdg ht (fun h => kt h H locs ls hP hS hl) (fun h => kf h H locs ls hP hS hl)
theorem X_icmp_le {κ : Kx} {own : String} {cc : ByteArray} {nl F N : Nat} {S : Mem} {pc : Nat} {lv : List (Nat × Value)} {st : List Value} (C : XC κ own cc nl F N) {x y : Int32} {off : Int} (tgt : Nat) (hdg : decode cc pc = .ok (.if_icmp .le off, 3)) (ht : (pc : Int) + off = (tgt : Int)) (kt : x ≤ y → XW κ S tgt lv st) (kf : ¬ x ≤ y → XW κ S (pc + 3) lv st) : XW κ S pc lv (.int y :: .int x :: st) := fun H locs ls hP hS hl => lv_icmp_le C.1 C.2.1 hdg ht (fun h => kt h H locs ls hP hS hl) (fun h => kf h H locs ls hP hS hl)
end
section
def vp_bool (v : Int32) : Prop := v = 0 ∨ v = 1
def P_X4_shorten (t : Nat) (S : Mem) (a1 : Int32) (K : Mem → Prop) : Prop := (a1 < 0 → K S) ∧ (¬ a1 < 0 → ((S t 3) ≤ a1 → K S) ∧ (¬ (S t 3) ≤ a1 → (∀ S1 : Mem, S1 = mput S t 3 a1 → K S1)))
def P_X4_length (t : Nat) (S : Mem) (K : Int32 → Mem → Prop) : Prop := K (S t 3) S
def P_X4_at (t : Nat) (S : Mem) (a1 : Int32) (a2 : Int32) (K : Int32 → Mem → Prop) : Prop := (a1 < 0 → K (0 : Int32) S) ∧ (¬ a1 < 0 → ((S t 3) ≤ a1 → K (0 : Int32) S) ∧ (¬ (S t 3) ≤ a1 → (a2 < 0 → K (0 : Int32) S) ∧ (¬ a2 < 0 → (a2 < (nI (tWn t)) → (vp_in ((a1 * (nI (tWn t))) + a2) (tRn t * tWn t) ∧ K (S (t + 1) (Int32.toNatClampNeg ((a1 * (nI (tWn t))) + a2))) S)) ∧ (¬ a2 < (nI (tWn t)) → K (0 : Int32) S))))
def P_X3_keyOf (s : Nat) (S : Mem) (a1 : Int32) (K : Int32 → Mem → Prop) : Prop := (P_X4_at (s + 1) S a1 (0 : Int32) (fun r2 S1 => K r2 S1))
def P_X3_valueOf (s : Nat) (S : Mem) (a1 : Int32) (K : Int32 → Mem → Prop) : Prop := (P_X4_at (s + 1) S a1 (1 : Int32) (fun r2 S1 => K r2 S1))
def P_X3_setting (s : Nat) (S : Mem) (a1 : Int32) (K : Int32 → Mem → Prop) : Prop := (P_X4_at (s + 3) S a1 (0 : Int32) (fun r2 S1 => K r2 S1))
def P_X3_hashOf (s : Nat) (S : Mem) (a1 : Int32) (K : Int32 → Mem → Prop) : Prop := (P_X3_keyOf s S a1 (fun r2 S1 => (P_X3_setting s S1 (2 : Int32) (fun r4 S3 => K (((r2 * r4) + (7919 : Int32)) &&& (65535 : Int32)) S3))))
def B_X4_placeOf_42 (t : Nat) (R5 : Mem → Int32 → Int32 → Int32 → Prop) (K : Int32 → Mem → Prop) (S : Mem) (x1 : Int32) (x2 : Int32) (x3 : Int32) : Prop := R5 S x1 x2 (x3 / (2 : Int32))
def B_X4_placeOf_5 (t : Nat) (K : Int32 → Mem → Prop) : Nat → Mem → Int32 → Int32 → Int32 → Prop
  | 0, _, _, _, _ => False
  | n + 1, S, x1, x2, x3 => (x3 ≤ 0 → K x2 S) ∧ (¬ x3 ≤ 0 → ((S t 3) < (x2 + x3) → B_X4_placeOf_42 t (fun S x1 x2 x3 => B_X4_placeOf_5 t K n S x1 x2 x3) K S x1 x2 x3) ∧ (¬ (S t 3) < (x2 + x3) → (vp_in (((x2 + x3) - (1 : Int32)) * (nI (tWn t))) (tRn t * tWn t) ∧ (x1 ≤ (S (t + 1) (Int32.toNatClampNeg (((x2 + x3) - (1 : Int32)) * (nI (tWn t))))) → B_X4_placeOf_42 t (fun S x1 x2 x3 => B_X4_placeOf_5 t K n S x1 x2 x3) K S x1 x2 x3) ∧ (¬ x1 ≤ (S (t + 1) (Int32.toNatClampNeg (((x2 + x3) - (1 : Int32)) * (nI (tWn t))))) → B_X4_placeOf_42 t (fun S x1 x2 x3 => B_X4_placeOf_5 t K n S x1 x2 x3) K S x1 (x2 + x3) x3))))
def P_X4_placeOf (t : Nat) (S : Mem) (a1 : Int32) (K : Int32 → Mem → Prop) : Prop := ∃ n1, B_X4_placeOf_5 t K n1 S a1 (0 : Int32) (64 : Int32)
def P_J7_rangeCheck_23922 (S : Mem) (a0 : Int32) (a1 : Int32) (a2 : Int32) (K : Mem → Prop) : Prop := (a1 ≤ a2 → (0 ≤ a1 → (a2 ≤ a0 → K S) ∧ (¬ a2 ≤ a0 → False)) ∧ (¬ 0 ≤ a1 → False)) ∧ (¬ a1 ≤ a2 → False)
def B_J7_fill_fda19_10 (t0 : Nat) (K : Mem → Prop) : Nat → Mem → Int32 → Int32 → Int32 → Prop
  | 0, _, _, _, _ => False
  | n + 1, S, x2, x3, x4 => (x2 ≤ x4 → K S) ∧ (¬ x2 ≤ x4 → (vp_in x4 (tRn t0 * tWn t0) ∧ ∀ S3 : Mem, S3 = mput S (t0 + 1) (Int32.toNatClampNeg x4) x3 → B_J7_fill_fda19_10 t0 K n S3 x2 x3 (x4 + (1 : Int32))))
def P_J7_fill_fda19 (t0 : Nat) (S : Mem) (a1 : Int32) (a2 : Int32) (a3 : Int32) (K : Mem → Prop) : Prop := (P_J7_rangeCheck_23922 S (nI (tRn t0 * tWn t0)) a1 a2 (fun S1 => ∃ n4, B_J7_fill_fda19_10 t0 K n4 S1 a2 a3 a1))
def P_X4_insert (t : Nat) (S : Mem) (a1 : Int32) (a2 : Int32) (K : Mem → Prop) : Prop := (a1 < 0 → K S) ∧ (¬ a1 < 0 → ((S t 3) < a1 → K S) ∧ (¬ (S t 3) < a1 → ((S t 3) < (nI (tRn t)) → (¬ (a1 * (nI (tWn t))) < 0 ∧ ¬ ((a1 * (nI (tWn t))) + (nI (tWn t))) < 0 ∧ ¬ (((S t 3) - a1) * (nI (tWn t))) < 0 ∧ Int32.toNatClampNeg (a1 * (nI (tWn t))) + Int32.toNatClampNeg (((S t 3) - a1) * (nI (tWn t))) ≤ (tRn t * tWn t) ∧ Int32.toNatClampNeg ((a1 * (nI (tWn t))) + (nI (tWn t))) + Int32.toNatClampNeg (((S t 3) - a1) * (nI (tWn t))) ≤ (tRn t * tWn t) ∧ ∀ S1 : Mem, S1 = mset S (t + 1) (va_cpy (S (t + 1)) (S (t + 1)) (Int32.toNatClampNeg (a1 * (nI (tWn t)))) (Int32.toNatClampNeg ((a1 * (nI (tWn t))) + (nI (tWn t)))) (Int32.toNatClampNeg (((S t 3) - a1) * (nI (tWn t))))) → (P_J7_fill_fda19 t S1 (a1 * (nI (tWn t))) ((a1 * (nI (tWn t))) + (nI (tWn t))) (0 : Int32) (fun S2 => (vp_in (a1 * (nI (tWn t))) (tRn t * tWn t) ∧ ∀ S4 : Mem, S4 = mput S2 (t + 1) (Int32.toNatClampNeg (a1 * (nI (tWn t)))) a2 → (∀ S5 : Mem, S5 = mput S4 t 3 ((S4 t 3) + (1 : Int32)) → K S5)))))) ∧ (¬ (S t 3) < (nI (tRn t)) → K S)))
def P_X4_put (t : Nat) (S : Mem) (a1 : Int32) (a2 : Int32) (a3 : Int32) (K : Mem → Prop) : Prop := (a1 < 0 → K S) ∧ (¬ a1 < 0 → ((S t 3) ≤ a1 → K S) ∧ (¬ (S t 3) ≤ a1 → (a2 < 0 → K S) ∧ (¬ a2 < 0 → ((nI (tWn t)) ≤ a2 → K S) ∧ (¬ (nI (tWn t)) ≤ a2 → (vp_in ((a1 * (nI (tWn t))) + a2) (tRn t * tWn t) ∧ ∀ S1 : Mem, S1 = mput S (t + 1) (Int32.toNatClampNeg ((a1 * (nI (tWn t))) + a2)) a3 → K S1)))))
def P_X4_raise (t : Nat) (S : Mem) (a1 : Int32) (a2 : Int32) (a3 : Int32) (K : Mem → Prop) : Prop := (a1 < 0 → K S) ∧ (¬ a1 < 0 → ((S t 3) ≤ a1 → K S) ∧ (¬ (S t 3) ≤ a1 → (a2 < 0 → K S) ∧ (¬ a2 < 0 → ((nI (tWn t)) ≤ a2 → K S) ∧ (¬ (nI (tWn t)) ≤ a2 → (vp_in ((a1 * (nI (tWn t))) + a2) (tRn t * tWn t) ∧ (vp_in ((a1 * (nI (tWn t))) + a2) (tRn t * tWn t) ∧ ∀ S1 : Mem, S1 = mput S (t + 1) (Int32.toNatClampNeg ((a1 * (nI (tWn t))) + a2)) ((S (t + 1) (Int32.toNatClampNeg ((a1 * (nI (tWn t))) + a2))) + a3) → K S1))))))
def B_X0_addRow_79 (K : Mem → Prop) (S : Mem) (x2 : Int32) (x4 : Int32) : Prop := (P_X4_raise 29 S x4 (1 : Int32) (1 : Int32) (fun S13 => (P_X4_raise 29 S13 x4 (2 : Int32) x2 (fun S15 => (P_X4_at 29 S15 x4 (3 : Int32) (fun r18 S17 => (P_X4_put 29 S17 x4 (3 : Int32) (if x2 < r18 then x2 else r18) (fun S19 => (P_X4_at 29 S19 x4 (4 : Int32) (fun r22 S21 => (P_X4_put 29 S21 x4 (4 : Int32) (if r22 < x2 then x2 else r22) (fun S23 => K S23))))))))))))
def B_X0_addRow_36 (K : Mem → Prop) (S : Mem) (x1 : Int32) (x2 : Int32) (x3 : Int32) (x4 : Int32) : Prop := (P_X4_insert 29 S x4 x1 (fun S5 => (P_X4_put 29 S5 x4 (5 : Int32) x3 (fun S7 => (P_X4_put 29 S7 x4 (3 : Int32) x2 (fun S9 => (P_X4_put 29 S9 x4 (4 : Int32) x2 (fun S11 => B_X0_addRow_79 K S11 x2 x4))))))))
def P_X0_addRow (S : Mem) (a1 : Int32) (a2 : Int32) (a3 : Int32) (K : Mem → Prop) : Prop := (P_X4_placeOf 29 S a1 (fun r2 S1 => (P_X4_length 29 S1 (fun r4 S3 => (r4 ≤ r2 → B_X0_addRow_36 K S3 a1 a2 a3 r2) ∧ (¬ r4 ≤ r2 → (P_X4_at 29 S3 r2 (0 : Int32) (fun r26 S25 => (r26 = a1 → B_X0_addRow_79 K S25 a2 r2) ∧ (¬ r26 = a1 → B_X0_addRow_36 K S25 a1 a2 a3 r2))))))))
def P_X4_append (t : Nat) (S : Mem) (a1 : Int32) (K : Int32 → Mem → Prop) : Prop := ((S t 3) < (nI (tRn t)) → (P_J7_fill_fda19 t S ((S t 3) * (nI (tWn t))) (((S t 3) * (nI (tWn t))) + (nI (tWn t))) (0 : Int32) (fun S1 => (vp_in ((S t 3) * (nI (tWn t))) (tRn t * tWn t) ∧ ∀ S3 : Mem, S3 = mput S1 (t + 1) (Int32.toNatClampNeg ((S t 3) * (nI (tWn t)))) a1 → (∀ S4 : Mem, S4 = mput S3 t 3 ((S3 t 3) + (1 : Int32)) → K ((S4 t 3) - (1 : Int32)) S4))))) ∧ (¬ (S t 3) < (nI (tRn t)) → K (-1 : Int32) S)
def B_X0_gather_56 (s1 : Nat) (K : Mem → Prop) : Nat → Mem → Int32 → Prop
  | 0, _, _ => False
  | n + 1, S, x2 => (P_X4_length (s1 + 1) S (fun r8 S7 => (r8 ≤ x2 → K S7) ∧ (¬ r8 ≤ x2 → (P_X3_keyOf s1 S7 x2 (fun r10 S9 => (P_X4_placeOf 29 S9 r10 (fun r12 S11 => (P_X4_append 31 S11 r12 (fun r14 S13 => B_X0_gather_56 s1 K n S13 (x2 + (1 : Int32)))))))))))
def B_X0_gather_46 (s1 : Nat) (K : Mem → Prop) (S : Mem) : Prop := (P_X4_shorten 31 S (0 : Int32) (fun S5 => ∃ n15, B_X0_gather_56 s1 K n15 S5 (0 : Int32)))
def B_X0_gather_10 (s1 : Nat) (K : Mem → Prop) : Nat → Mem → Int32 → Prop
  | 0, _, _ => False
  | n + 1, S, x2 => (P_X4_length (s1 + 1) S (fun r4 S3 => (r4 ≤ x2 → B_X0_gather_46 s1 K S3) ∧ (¬ r4 ≤ x2 → (P_X3_keyOf s1 S3 x2 (fun r17 S16 => (P_X3_valueOf s1 S16 x2 (fun r19 S18 => (P_X3_hashOf s1 S18 x2 (fun r21 S20 => (P_X0_addRow S20 r17 r19 r21 (fun S22 => B_X0_gather_10 s1 K n S22 (x2 + (1 : Int32)))))))))))))
def P_X0_gather (s1 : Nat) (S : Mem) (K : Mem → Prop) : Prop := (P_X4_shorten 29 S (0 : Int32) (fun S1 => ∃ n24, B_X0_gather_10 s1 K n24 S1 (0 : Int32)))
def P_X1_length (S : Mem) (K : Int32 → Mem → Prop) : Prop := K (S 6 2) S
def P_X1_stateAt (S : Mem) (a1 : Int32) (K : Option Nat → Mem → Prop) : Prop := (a1 < 0 → K none S) ∧ (¬ a1 < 0 → (a1 < (4 : Int32) → ((((S 6 1) + a1) - ((S 6 1) + a1) / (4 : Int32) * (4 : Int32)) < 0 → K none S) ∧ (¬ (((S 6 1) + a1) - ((S 6 1) + a1) / (4 : Int32) * (4 : Int32)) < 0 → ((((S 6 1) + a1) - ((S 6 1) + a1) / (4 : Int32) * (4 : Int32)) < (4 : Int32) → (vp_in (((S 6 1) + a1) - ((S 6 1) + a1) / (4 : Int32) * (4 : Int32)) 4 ∧ K (some (8 + 5 * Int32.toNatClampNeg (((S 6 1) + a1) - ((S 6 1) + a1) / (4 : Int32) * (4 : Int32)))) S)) ∧ (¬ (((S 6 1) + a1) - ((S 6 1) + a1) / (4 : Int32) * (4 : Int32)) < (4 : Int32) → K none S))) ∧ (¬ a1 < (4 : Int32) → K none S))
def P_X4_copyFrom (t : Nat) (t1 : Nat) (S : Mem) (K : Mem → Prop) : Prop := (¬ (nI (tWn t1)) = (nI (tWn t)) → K S) ∧ ((nI (tWn t1)) = (nI (tWn t)) → ((S t1 3) ≤ (nI (tRn t)) → (¬ (0 : Int32) < 0 ∧ ¬ (0 : Int32) < 0 ∧ ¬ ((S t1 3) * (nI (tWn t))) < 0 ∧ Int32.toNatClampNeg (0 : Int32) + Int32.toNatClampNeg ((S t1 3) * (nI (tWn t))) ≤ (tRn t1 * tWn t1) ∧ Int32.toNatClampNeg (0 : Int32) + Int32.toNatClampNeg ((S t1 3) * (nI (tWn t))) ≤ (tRn t * tWn t) ∧ ∀ S1 : Mem, S1 = mset S (t + 1) (va_cpy (S (t1 + 1)) (S (t + 1)) (Int32.toNatClampNeg (0 : Int32)) (Int32.toNatClampNeg (0 : Int32)) (Int32.toNatClampNeg ((S t1 3) * (nI (tWn t))))) → (∀ S2 : Mem, S2 = mput S1 t 3 (S1 t1 3) → K S2))) ∧ (¬ (S t1 3) ≤ (nI (tRn t)) → K S))
def P_X3_copyFrom (s : Nat) (s1 : Nat) (S : Mem) (K : Mem → Prop) : Prop := (P_X4_copyFrom (s + 1) (s1 + 1) S (fun S1 => (P_X4_copyFrom (s + 3) (s1 + 3) S1 (fun S3 => K S3))))
def B_X1_keep_30 (s1 : Nat) (K : Mem → Prop) (S : Mem) : Prop := (P_X1_stateAt S (S 6 2) (fun r2 S1 => (r2 = none → K S1) ∧ (∀ o3, r2 = some o3 → o3 ∈ sts ∧ (P_X3_copyFrom o3 s1 S1 (fun S4 => (∀ S6 : Mem, S6 = mput S4 6 2 ((S4 6 2) + (1 : Int32)) → K S6))))))
def P_X1_keep (s1 : Nat) (S : Mem) (K : Mem → Prop) : Prop := (¬ (S 6 2) = (4 : Int32) → B_X1_keep_30 s1 K S) ∧ ((S 6 2) = (4 : Int32) → (∀ S7 : Mem, S7 = mput S 6 1 (((S 6 1) + (1 : Int32)) - ((S 6 1) + (1 : Int32)) / (4 : Int32) * (4 : Int32)) → (∀ S8 : Mem, S8 = mput S7 6 2 ((S7 6 2) - (1 : Int32)) → B_X1_keep_30 s1 K S8)))
def P_X1_restore (s1 : Nat) (S : Mem) (K : Mem → Prop) : Prop := (P_X1_stateAt S ((S 6 2) - (1 : Int32)) (fun r2 S1 => (r2 = none → K S1) ∧ (∀ o3, r2 = some o3 → o3 ∈ sts ∧ (P_X3_copyFrom s1 o3 S1 (fun S4 => (∀ S6 : Mem, S6 = mput S4 6 2 ((S4 6 2) - (1 : Int32)) → K S6))))))
def P_X2_forget (S : Mem) (K : Mem → Prop) : Prop := (∀ S1 : Mem, S1 = mput S 33 9 (0 : Int32) → K S1)
def P_X4_reset (t : Nat) (S : Mem) (a1 : Int32) (K : Mem → Prop) : Prop := (∀ S1 : Mem, S1 = mput S t 3 (if (0 : Int32) < (if (nI (tRn t)) < a1 then (nI (tRn t)) else a1) then (if (nI (tRn t)) < a1 then (nI (tRn t)) else a1) else (0 : Int32)) → (P_J7_fill_fda19 t S1 (0 : Int32) ((S1 t 3) * (nI (tWn t))) (0 : Int32) (fun S2 => K S2)))
def P_X2_prefixOf (S : Mem) (a1 : Int32) (a2 : Int32) (K : Int32 → Mem → Prop) : Prop := (P_X4_at 29 S a1 (5 : Int32) (fun r2 S1 => K (r2 >>> (((16 : Int32) - (a2 * (S1 33 10))) &&& 31)) S1))
def P_X2_partOf (S : Mem) (a1 : Int32) (a2 : Int32) (K : Int32 → Mem → Prop) : Prop := (P_X4_at 29 S a1 (5 : Int32) (fun r2 S1 => K ((r2 >>> (((16 : Int32) - ((a2 + (1 : Int32)) * (S1 33 10))) &&& 31)) &&& (((1 : Int32) <<< ((S1 33 10) &&& 31)) - (1 : Int32))) S1))
def P_X2_isSpilled (S : Mem) (a1 : Int32) (a2 : Int32) (K : Int32 → Mem → Prop) : Prop := (P_X4_at 34 S a1 (2 : Int32) (fun r2 S1 => (¬ ((r2 >>> (a2 &&& 31)) &&& (1 : Int32)) = (1 : Int32) → K (0 : Int32) S1) ∧ (((r2 >>> (a2 &&& 31)) &&& (1 : Int32)) = (1 : Int32) → K (1 : Int32) S1)))
def P_X2_isHeld (S : Mem) (a1 : Int32) (K : Int32 → Mem → Prop) : Prop := (P_X4_placeOf 42 S a1 (fun r2 S1 => (P_X4_length 42 S1 (fun r4 S3 => (r4 ≤ r2 → K (0 : Int32) S3) ∧ (¬ r4 ≤ r2 → (P_X4_at 42 S3 r2 (0 : Int32) (fun r6 S5 => (¬ r6 = a1 → K (0 : Int32) S5) ∧ (r6 = a1 → K (1 : Int32) S5))))))))
def P_X2_needsSpill (S : Mem) (a1 : Int32) (a2 : Int32) (a3 : Int32) (K : Int32 → Mem → Prop) : Prop := (P_X4_length 42 S (fun r2 S1 => (r2 < (S1 33 9) → K (0 : Int32) S1) ∧ (¬ r2 < (S1 33 9) → ((S1 33 11) ≤ a2 → K (0 : Int32) S1) ∧ (¬ (S1 33 11) ≤ a2 → (P_X2_partOf S1 a3 a2 (fun r4 S3 => (P_X2_isSpilled S3 a1 r4 (fun r6 S5 => (¬ r6 = 0 → K (0 : Int32) S5) ∧ (r6 = 0 → (P_X2_isHeld S5 a3 (fun r8 S7 => (¬ r8 = 0 → K (0 : Int32) S7) ∧ (r8 = 0 → K (1 : Int32) S7))))))))))))
def B_X2_fullestPart_38 (R4 : Mem → Int32 → Int32 → Prop) (K : Int32 → Mem → Prop) (S : Mem) (x1 : Int32) (x2 : Int32) : Prop := R4 S x1 (x2 + (1 : Int32))
def B_X2_fullestPart_4 (K : Int32 → Mem → Prop) : Nat → Mem → Int32 → Int32 → Prop
  | 0, _, _, _ => False
  | n + 1, S, x1, x2 => (P_X4_length 44 S (fun r2 S1 => (r2 ≤ x2 → K x1 S1) ∧ (¬ r2 ≤ x2 → (P_X4_at 44 S1 x2 (0 : Int32) (fun r4 S3 => (P_X4_at 44 S3 x1 (0 : Int32) (fun r6 S5 => (r4 ≤ r6 → B_X2_fullestPart_38 (fun S x1 x2 => B_X2_fullestPart_4 K n S x1 x2) K S5 x1 x2) ∧ (¬ r4 ≤ r6 → B_X2_fullestPart_38 (fun S x1 x2 => B_X2_fullestPart_4 K n S x1 x2) K S5 x2 x2))))))))
def P_X2_fullestPart (S : Mem) (K : Int32 → Mem → Prop) : Prop := ∃ n7, B_X2_fullestPart_4 K n7 S (0 : Int32) (1 : Int32)
def B_X2_spillPart_86 (K : Mem → Prop) (S : Mem) (x1 : Int32) (x2 : Int32) (x3 : Int32) (x4 : Int32) : Prop := (P_X4_length 42 S (fun r6 S5 => (P_X4_shorten 42 S5 x4 (fun S7 => (P_X4_append 36 S7 x3 (fun r10 S9 => (P_X4_at 34 S9 x1 (7 : Int32) (fun r12 S11 => (P_X4_put 36 S11 r10 (1 : Int32) r12 (fun S13 => (P_X4_put 36 S13 r10 (2 : Int32) x2 (fun S15 => (P_X4_put 36 S15 r10 (3 : Int32) (r6 - x4) (fun S17 => (P_X4_put 36 S17 r10 (4 : Int32) (r6 - x4) (fun S19 => (P_X4_put 44 S19 x2 (0 : Int32) (0 : Int32) (fun S21 => (P_X4_put 44 S21 x2 (1 : Int32) r10 (fun S23 => (P_X4_raise 34 S23 x1 (2 : Int32) ((1 : Int32) <<< (x2 &&& 31)) (fun S25 => (P_X4_raise 34 S25 x1 (3 : Int32) (r6 - x4) (fun S27 => K S27))))))))))))))))))))))))
def B_X2_spillPart_80 (R17 : Mem → Int32 → Int32 → Int32 → Int32 → Int32 → Prop) (K : Mem → Prop) (S : Mem) (x1 : Int32) (x2 : Int32) (x3 : Int32) (x4 : Int32) (x5 : Int32) : Prop := R17 S x1 x2 x3 x4 (x5 + (1 : Int32))
def B_X2_spillPart_17 (K : Mem → Prop) : Nat → Mem → Int32 → Int32 → Int32 → Int32 → Int32 → Prop
  | 0, _, _, _, _, _, _ => False
  | n + 1, S, x1, x2, x3, x4, x5 => (P_X4_length 42 S (fun r4 S3 => (r4 ≤ x5 → B_X2_spillPart_86 K S3 x1 x2 x3 x4) ∧ (¬ r4 ≤ x5 → (P_X4_at 42 S3 x5 (0 : Int32) (fun r30 S29 => (P_X2_partOf S29 r30 x3 (fun r32 S31 => (¬ r32 = x2 → (P_X4_put 42 S31 x4 (0 : Int32) r30 (fun S33 => B_X2_spillPart_80 (fun S x1 x2 x3 x4 x5 => B_X2_spillPart_17 K n S x1 x2 x3 x4 x5) K S33 x1 x2 x3 (x4 + (1 : Int32)) x5))) ∧ (r32 = x2 → (P_X4_append 46 S31 r30 (fun r36 S35 => B_X2_spillPart_80 (fun S x1 x2 x3 x4 x5 => B_X2_spillPart_17 K n S x1 x2 x3 x4 x5) K S35 x1 x2 x3 x4 x5))))))))))
def P_X2_spillPart (S : Mem) (a1 : Int32) (a2 : Int32) (K : Mem → Prop) : Prop := (P_X4_at 34 S a1 (6 : Int32) (fun r2 S1 => ∃ n37, B_X2_spillPart_17 K n37 S1 a1 a2 r2 (0 : Int32) (0 : Int32)))
def B_X2_layGroup_24 (K : Mem → Prop) (S : Mem) (x1 : Int32) (x2 : Int32) (x3 : Int32) : Prop := (P_X4_placeOf 42 S x3 (fun r4 S3 => (P_X4_insert 42 S3 r4 x3 (fun S5 => (P_X4_raise 44 S5 x2 (0 : Int32) (1 : Int32) (fun S7 => (P_X4_at 34 S7 x1 (4 : Int32) (fun r10 S9 => (P_X4_length 42 S9 (fun r12 S11 => (P_X4_put 34 S11 x1 (4 : Int32) (if r10 < r12 then r12 else r10) (fun S13 => K S13))))))))))))
def P_X2_layGroup (S : Mem) (a1 : Int32) (a2 : Int32) (a3 : Int32) (K : Mem → Prop) : Prop := (P_X4_length 42 S (fun r2 S1 => (r2 < (S1 33 9) → B_X2_layGroup_24 K S1 a1 a2 a3) ∧ (¬ r2 < (S1 33 9) → (∀ S15 : Mem, S15 = mput S1 33 8 ((S1 33 8) + (1 : Int32)) → B_X2_layGroup_24 K S15 a1 a2 a3))))
def P_X2_takeItem (S : Mem) (a1 : Int32) (a2 : Int32) (a3 : Int32) (K : Mem → Prop) : Prop := (P_X4_raise 34 S a1 (0 : Int32) (1 : Int32) (fun S1 => (P_X2_partOf S1 a3 a2 (fun r4 S3 => (P_X2_isSpilled S3 a1 r4 (fun r6 S5 => (r6 = 0 → (P_X2_isHeld S5 a3 (fun r8 S7 => (¬ r8 = 0 → K S7) ∧ (r8 = 0 → (P_X2_layGroup S7 a1 r4 a3 (fun S9 => K S9)))))) ∧ (¬ r6 = 0 → (P_X4_append 46 S5 a3 (fun r12 S11 => (P_X4_raise 34 S11 a1 (3 : Int32) (1 : Int32) (fun S13 => (P_X4_at 44 S13 r4 (1 : Int32) (fun r16 S15 => (P_X4_raise 36 S15 r16 (4 : Int32) (1 : Int32) (fun S17 => K S17)))))))))))))))
def B_X2_finishMemory_90 (K : Mem → Prop) (S : Mem) : Prop := (P_X4_shorten 42 S (0 : Int32) (fun S7 => K S7))
def B_X2_finishMemory_19 (K : Mem → Prop) : Nat → Mem → Int32 → Int32 → Int32 → Prop
  | 0, _, _, _, _ => False
  | n + 1, S, x2, x3, x4 => (P_X4_length 42 S (fun r6 S5 => (r6 ≤ x4 → B_X2_finishMemory_90 K S5) ∧ (¬ r6 ≤ x4 → (P_X4_at 42 S5 x4 (0 : Int32) (fun r10 S9 => (P_X4_put 38 S9 r10 (0 : Int32) x2 (fun S11 => (P_X4_put 38 S11 r10 (1 : Int32) x3 (fun S13 => (P_X4_append 40 S13 r10 (fun r16 S15 => (P_X4_put 38 S15 r10 (2 : Int32) r16 (fun S17 => B_X2_finishMemory_19 K n S17 x2 x3 (x4 + (1 : Int32)))))))))))))))
def P_X2_finishMemory (S : Mem) (a1 : Int32) (a2 : Int32) (a3 : Int32) (K : Mem → Prop) : Prop := (P_X4_length 42 S (fun r2 S1 => (P_X4_put 34 S1 a1 (1 : Int32) r2 (fun S3 => ∃ n19, B_X2_finishMemory_19 K n19 S3 a2 a3 (0 : Int32)))))
def B_X2_runFiles_42 (RP : Mem → Int32 → Int32 → Int32 → (Mem → Prop) → Prop) (R3 : Mem → Int32 → Int32 → Int32 → Int32 → Int32 → Prop) (K : Mem → Prop) (S : Mem) (x1 : Int32) (x2 : Int32) (x3 : Int32) (x4 : Int32) (x5 : Int32) : Prop := R3 S x1 x2 x3 x4 (x5 + (1 : Int32))
def B_X2_runFiles_3 (RP : Mem → Int32 → Int32 → Int32 → (Mem → Prop) → Prop) (K : Mem → Prop) : Nat → Mem → Int32 → Int32 → Int32 → Int32 → Int32 → Prop
  | 0, _, _, _, _, _, _ => False
  | n + 1, S, x1, x2, x3, x4, x5 => (((1 : Int32) <<< ((S 33 10) &&& 31)) ≤ x5 → K S) ∧ (¬ ((1 : Int32) <<< ((S 33 10) &&& 31)) ≤ x5 → (¬ ((x3 >>> (x5 &&& 31)) &&& (1 : Int32)) = (1 : Int32) → B_X2_runFiles_42 RP (fun S x1 x2 x3 x4 x5 => B_X2_runFiles_3 RP K n S x1 x2 x3 x4 x5) K S x1 x2 x3 x4 x5) ∧ (((x3 >>> (x5 &&& 31)) &&& (1 : Int32)) = (1 : Int32) → (RP S (x1 + (1 : Int32)) ((x2 <<< ((S 33 10) &&& 31)) ||| x5) x4 (fun S1 => B_X2_runFiles_42 RP (fun S x1 x2 x3 x4 x5 => B_X2_runFiles_3 RP K n S x1 x2 x3 x4 x5) K S1 x1 x2 x3 x4 x5))))
def P_X2_runFiles (RP : Mem → Int32 → Int32 → Int32 → (Mem → Prop) → Prop) (S : Mem) (a1 : Int32) (a2 : Int32) (a3 : Int32) (a4 : Int32) (K : Mem → Prop) : Prop := ∃ n3, B_X2_runFiles_3 RP K n3 S a1 a2 a3 a4 (0 : Int32)
def B_X2_runPass_147 (RP : Mem → Int32 → Int32 → Int32 → (Mem → Prop) → Prop) (K : Mem → Prop) (S : Mem) (x1 : Int32) (x2 : Int32) (x4 : Int32) (x5 : Int32) : Prop := (P_X2_finishMemory S x4 x1 x2 (fun S13 => (P_X4_at 34 S13 x4 (2 : Int32) (fun r16 S15 => (P_X2_runFiles RP S15 x1 x2 r16 x5 (fun S17 => (P_X4_shorten 46 S17 x5 (fun S19 => K S19))))))))
def B_X2_runPass_141 (RP : Mem → Int32 → Int32 → Int32 → (Mem → Prop) → Prop) (R80 : Mem → Int32 → Int32 → Int32 → Int32 → Int32 → Prop) (K : Mem → Prop) (S : Mem) (x1 : Int32) (x2 : Int32) (x4 : Int32) (x5 : Int32) (x6 : Int32) : Prop := R80 S x1 x2 x4 x5 (x6 + (1 : Int32))
def B_X2_runPass_132 (RP : Mem → Int32 → Int32 → Int32 → (Mem → Prop) → Prop) (R80 : Mem → Int32 → Int32 → Int32 → Int32 → Int32 → Prop) (K : Mem → Prop) (S : Mem) (x1 : Int32) (x2 : Int32) (x4 : Int32) (x5 : Int32) (x6 : Int32) (x7 : Int32) : Prop := (P_X2_takeItem S x4 x1 x7 (fun S27 => B_X2_runPass_141 RP R80 K S27 x1 x2 x4 x5 x6))
def B_X2_runPass_80 (RP : Mem → Int32 → Int32 → Int32 → (Mem → Prop) → Prop) (K : Mem → Prop) : Nat → Mem → Int32 → Int32 → Int32 → Int32 → Int32 → Prop
  | 0, _, _, _, _, _, _ => False
  | n + 1, S, x1, x2, x4, x5, x6 => (x5 ≤ x6 → B_X2_runPass_147 RP K S x1 x2 x4 x5) ∧ (¬ x5 ≤ x6 → (P_X4_at 46 S x6 (0 : Int32) (fun r22 S21 => (P_X2_prefixOf S21 r22 x1 (fun r24 S23 => (¬ r24 = x2 → B_X2_runPass_141 RP (fun S x1 x2 x4 x5 x6 => B_X2_runPass_80 RP K n S x1 x2 x4 x5 x6) K S23 x1 x2 x4 x5 x6) ∧ (r24 = x2 → (P_X2_needsSpill S23 x4 x1 r22 (fun r26 S25 => (r26 = 0 → B_X2_runPass_132 RP (fun S x1 x2 x4 x5 x6 => B_X2_runPass_80 RP K n S x1 x2 x4 x5 x6) K S25 x1 x2 x4 x5 x6 r22) ∧ (¬ r26 = 0 → (P_X2_fullestPart S25 (fun r30 S29 => (P_X2_spillPart S29 x4 r30 (fun S31 => B_X2_runPass_132 RP (fun S x1 x2 x4 x5 x6 => B_X2_runPass_80 RP K n S x1 x2 x4 x5 x6) K S31 x1 x2 x4 x5 x6 r22)))))))))))))
def P_X2_runPassF (RP : Mem → Int32 → Int32 → Int32 → (Mem → Prop) → Prop) (S : Mem) (a1 : Int32) (a2 : Int32) (a3 : Int32) (K : Mem → Prop) : Prop := (a1 ≤ (S 33 11) → (P_X4_append 34 S (0 : Int32) (fun r2 S1 => (P_X4_put 34 S1 r2 (5 : Int32) r2 (fun S3 => (P_X4_put 34 S3 r2 (6 : Int32) a1 (fun S5 => (P_X4_put 34 S5 r2 (7 : Int32) a2 (fun S7 => (P_X4_reset 44 S7 ((1 : Int32) <<< ((S7 33 10) &&& 31)) (fun S9 => (P_X4_length 46 S9 (fun r12 S11 => ∃ n33, B_X2_runPass_80 RP K n33 S11 a1 a2 r2 r12 a3))))))))))))) ∧ (¬ a1 ≤ (S 33 11) → K S)
def P_X2_runPass : Nat → Mem → Int32 → Int32 → Int32 → (Mem → Prop) → Prop
  | 0, _, _, _, _, _ => False
  | d + 1, S, a1, a2, a3, K => P_X2_runPassF (fun S a b c K => P_X2_runPass d S a b c K) S a1 a2 a3 K
def B_X2_run_22 (K : Mem → Prop) (S : Mem) (x1 : Int32) (x2 : Int32) : Prop := (∀ S1 : Mem, S1 = mput S 33 9 x1 → (∀ S2 : Mem, S2 = mput S1 33 10 x2 → (¬ x2 = 0 ∧ (∀ S3 : Mem, S3 = mput S2 33 11 (((16 : Int32) / x2) - (1 : Int32)) → (∀ S4 : Mem, S4 = mput S3 33 8 (0 : Int32) → (P_X4_shorten 34 S4 (0 : Int32) (fun S5 => (P_X4_shorten 36 S5 (0 : Int32) (fun S7 => (P_X4_shorten 40 S7 (0 : Int32) (fun S9 => (P_X4_length 29 S9 (fun r12 S11 => (P_X4_reset 38 S11 r12 (fun S13 => (P_X4_copyFrom 46 31 S13 (fun S15 => (P_X2_runPass 17 S15 (0 : Int32) (0 : Int32) (0 : Int32) (fun S17 => K S17)))))))))))))))))))
def P_X2_run (S : Mem) (a1 : Int32) (a2 : Int32) (K : Mem → Prop) : Prop := (a2 < (1 : Int32) → K S) ∧ (¬ a2 < (1 : Int32) → (¬ (S 33 9) = a1 → B_X2_run_22 K S a1 a2) ∧ ((S 33 9) = a1 → (¬ (S 33 10) = a2 → B_X2_run_22 K S a1 a2) ∧ ((S 33 10) = a2 → K S)))
def B_X2_find_43 (R2 : Mem → Int32 → Int32 → Int32 → Prop) (K : Int32 → Mem → Prop) (S : Mem) (x1 : Int32) (x2 : Int32) (x3 : Int32) : Prop := R2 S x1 x2 (x3 + (1 : Int32))
def B_X2_find_2 (K : Int32 → Mem → Prop) : Nat → Mem → Int32 → Int32 → Int32 → Prop
  | 0, _, _, _, _ => False
  | n + 1, S, x1, x2, x3 => (P_X4_length 34 S (fun r2 S1 => (r2 ≤ x3 → K (-1 : Int32) S1) ∧ (¬ r2 ≤ x3 → (P_X4_at 34 S1 x3 (6 : Int32) (fun r4 S3 => (¬ r4 = x1 → B_X2_find_43 (fun S x1 x2 x3 => B_X2_find_2 K n S x1 x2 x3) K S3 x1 x2 x3) ∧ (r4 = x1 → (P_X4_at 34 S3 x3 (7 : Int32) (fun r6 S5 => (¬ r6 = x2 → B_X2_find_43 (fun S x1 x2 x3 => B_X2_find_2 K n S x1 x2 x3) K S5 x1 x2 x3) ∧ (r6 = x2 → K x3 S5)))))))))
def P_X2_find (S : Mem) (a1 : Int32) (a2 : Int32) (K : Int32 → Mem → Prop) : Prop := ∃ n7, B_X2_find_2 K n7 S a1 a2 (0 : Int32)
def B_X4_sumOf_4 (t : Nat) (K : Int32 → Mem → Prop) : Nat → Mem → Int32 → Int32 → Int32 → Prop
  | 0, _, _, _, _ => False
  | n + 1, S, x1, x2, x3 => ((S t 3) ≤ x3 → K x2 S) ∧ (¬ (S t 3) ≤ x3 → (P_X4_at t S x3 x1 (fun r2 S1 => B_X4_sumOf_4 t K n S1 x1 (x2 + r2) (x3 + (1 : Int32)))))
def P_X4_sumOf (t : Nat) (S : Mem) (a1 : Int32) (K : Int32 → Mem → Prop) : Prop := ∃ n3, B_X4_sumOf_4 t K n3 S a1 (0 : Int32) (0 : Int32)
def P_X2_itemsFiled (S : Mem) (K : Int32 → Mem → Prop) : Prop := (P_X4_sumOf 34 S (3 : Int32) (fun r2 S1 => K r2 S1))
def P_X2_itemsRead (S : Mem) (K : Int32 → Mem → Prop) : Prop := (P_X4_sumOf 34 S (0 : Int32) (fun r2 S1 => (P_X4_at 34 S1 (0 : Int32) (0 : Int32) (fun r4 S3 => K (r2 - r4) S3))))
def P_X3_addRow (s : Nat) (S : Mem) (a1 : Int32) (a2 : Int32) (K : Mem → Prop) : Prop := (P_X4_append (s + 1) S a1 (fun r2 S1 => (P_X4_put (s + 1) S1 r2 (1 : Int32) a2 (fun S3 => K S3))))
def P_X4_remove (t : Nat) (S : Mem) (a1 : Int32) (K : Mem → Prop) : Prop := (a1 < 0 → K S) ∧ (¬ a1 < 0 → (a1 < (S t 3) → (¬ ((a1 * (nI (tWn t))) + (nI (tWn t))) < 0 ∧ ¬ (a1 * (nI (tWn t))) < 0 ∧ ¬ ((((S t 3) - a1) - (1 : Int32)) * (nI (tWn t))) < 0 ∧ Int32.toNatClampNeg ((a1 * (nI (tWn t))) + (nI (tWn t))) + Int32.toNatClampNeg ((((S t 3) - a1) - (1 : Int32)) * (nI (tWn t))) ≤ (tRn t * tWn t) ∧ Int32.toNatClampNeg (a1 * (nI (tWn t))) + Int32.toNatClampNeg ((((S t 3) - a1) - (1 : Int32)) * (nI (tWn t))) ≤ (tRn t * tWn t) ∧ ∀ S1 : Mem, S1 = mset S (t + 1) (va_cpy (S (t + 1)) (S (t + 1)) (Int32.toNatClampNeg ((a1 * (nI (tWn t))) + (nI (tWn t)))) (Int32.toNatClampNeg (a1 * (nI (tWn t)))) (Int32.toNatClampNeg ((((S t 3) - a1) - (1 : Int32)) * (nI (tWn t))))) → (∀ S2 : Mem, S2 = mput S1 t 3 ((S1 t 3) - (1 : Int32)) → K S2))) ∧ (¬ a1 < (S t 3) → K S))
def B_X4_greatestOf_4 (t : Nat) (K : Int32 → Mem → Prop) : Nat → Mem → Int32 → Int32 → Int32 → Prop
  | 0, _, _, _, _ => False
  | n + 1, S, x1, x2, x3 => ((S t 3) ≤ x3 → K x2 S) ∧ (¬ (S t 3) ≤ x3 → (P_X4_at t S x3 x1 (fun r2 S1 => B_X4_greatestOf_4 t K n S1 x1 (if x2 < r2 then r2 else x2) (x3 + (1 : Int32)))))
def P_X4_greatestOf (t : Nat) (S : Mem) (a1 : Int32) (K : Int32 → Mem → Prop) : Prop := ∃ n3, B_X4_greatestOf_4 t K n3 S a1 (0 : Int32) (0 : Int32)
def P_X6_isOutside (S : Mem) (a0 : Int32) (a1 : Int32) (a2 : Int32) (K : Int32 → Mem → Prop) : Prop := (a0 < a1 → K (1 : Int32) S) ∧ (¬ a0 < a1 → (a0 ≤ a2 → K (0 : Int32) S) ∧ (¬ a0 ≤ a2 → K (1 : Int32) S))
def B_X5_readNumber_4 (K : Int32 → Mem → Prop) : Nat → Mem → Int32 → Int32 → Int32 → Prop
  | 0, _, _, _, _ => False
  | n + 1, S, x1, x2, x3 => (x1 ≤ x3 → K x2 S) ∧ (¬ x1 ≤ x3 → (P_X4_at 49 S (S 48 5) (0 : Int32) (fun r2 S1 => (P_X6_isOutside S1 (r2 - (48 : Int32)) (0 : Int32) (9 : Int32) (fun r4 S3 => (r4 = 0 → (∀ S5 : Mem, S5 = mput S3 48 5 ((S3 48 5) + (1 : Int32)) → B_X5_readNumber_4 K n S5 x1 (((if x2 < (0 : Int32) then (0 : Int32) else x2) * (10 : Int32)) + (r2 - (48 : Int32))) (x3 + (1 : Int32)))) ∧ (¬ r4 = 0 → K x2 S3))))))
def P_X5_readNumber (S : Mem) (a1 : Int32) (K : Int32 → Mem → Prop) : Prop := ∃ n6, B_X5_readNumber_4 K n6 S a1 (-1 : Int32) (0 : Int32)
def P_X5_readSign (S : Mem) (a1 : Int32) (K : Int32 → Mem → Prop) : Prop := (P_X4_at 49 S (S 48 5) (0 : Int32) (fun r2 S1 => (r2 = a1 → (∀ S3 : Mem, S3 = mput S1 48 5 ((S1 48 5) + (1 : Int32)) → K (1 : Int32) S3)) ∧ (¬ r2 = a1 → K (0 : Int32) S1)))
def B_X5_readRow_74 (K : Int32 → Mem → Prop) (S : Mem) (y0 : Int32) (y1 : Int32) (y2 : Int32) : Prop := (P_X4_put 51 S y2 y1 y0 (fun S13 => K (1 : Int32) S13))
def P_X5_readRow (S : Mem) (K : Int32 → Mem → Prop) : Prop := (P_X5_readNumber S (4 : Int32) (fun r2 S1 => (r2 = (-1 : Int32) → K (0 : Int32) S1) ∧ (¬ r2 = (-1 : Int32) → (P_X5_readSign S1 (61 : Int32) (fun r4 S3 => (¬ r4 = 0 → (P_X5_readSign S3 (45 : Int32) (fun r6 S5 => (P_X5_readNumber S5 (3 : Int32) (fun r8 S7 => (r8 = (-1 : Int32) → K (0 : Int32) S7) ∧ (¬ r8 = (-1 : Int32) → (P_X5_readSign S7 (59 : Int32) (fun r10 S9 => (¬ r10 = 0 → (P_X4_append 51 S9 r2 (fun r12 S11 => (r6 = 0 → B_X5_readRow_74 K S11 r8 (1 : Int32) r12) ∧ (¬ r6 = 0 → B_X5_readRow_74 K S11 (-r8) (1 : Int32) r12)))) ∧ (r10 = 0 → K (0 : Int32) S9))))))))) ∧ (r4 = 0 → K (0 : Int32) S3))))))
def B_X5_read_88 (K : Mem → Prop) (S : Mem) (x1 : Int32) : Prop := (∀ S12 : Mem, S12 = mput S 48 3 (2 : Int32) → (∀ S13 : Mem, S13 = mput S12 48 4 ((100 : Int32) - x1) → K S13))
def B_X5_read_55 (K : Mem → Prop) (S : Mem) : Prop := (∀ S14 : Mem, S14 = mput S 48 3 (1 : Int32) → (∀ S15 : Mem, S15 = mput S14 48 4 ((S14 48 5) - (S14 48 2)) → K S15))
def B_X5_read_20 (K : Mem → Prop) : Nat → Mem → Int32 → Int32 → Prop
  | 0, _, _, _ => False
  | n + 1, S, x1, x2 => ((60 : Int32) ≤ x2 → K S) ∧ (¬ (60 : Int32) ≤ x2 → (P_X4_length 49 S (fun r6 S5 => (r6 ≤ (S 48 5) → K S5) ∧ (¬ r6 ≤ (S 48 5) → (∀ S7 : Mem, S7 = mput S5 48 2 (S5 48 5) → (P_X5_readRow S7 (fun r9 S8 => (¬ r9 = 0 → (P_X4_length 51 S8 (fun r11 S10 => ((x1 + r11) ≤ (100 : Int32) → B_X5_read_20 K n S10 x1 (x2 + (1 : Int32))) ∧ (¬ (x1 + r11) ≤ (100 : Int32) → B_X5_read_88 K S10 x1)))) ∧ (r9 = 0 → B_X5_read_55 K S8))))))))
def P_X5_read (S : Mem) (a1 : Int32) (K : Mem → Prop) : Prop := (∀ S1 : Mem, S1 = mput S 48 3 (0 : Int32) → (P_X4_shorten 51 S1 (0 : Int32) (fun S2 => (∀ S4 : Mem, S4 = mput S2 48 5 (0 : Int32) → ∃ n16, B_X5_read_20 K n16 S4 a1 (0 : Int32)))))
def P_X6_beginChange (S : Mem) (K : Mem → Prop) : Prop := (P_X1_keep 1 S (fun S1 => (∀ S3 : Mem, S3 = mput S1 0 5 (1 : Int32) → K S3)))
def P_X6_row (S : Mem) (a1 : Int32) (a2 : Int32) (K : Int32 → Mem → Prop) : Prop := (P_X6_isOutside S a1 (0 : Int32) (9999 : Int32) (fun r2 S1 => (¬ r2 = 0 → K (-1000001 : Int32) S1) ∧ (r2 = 0 → (P_X6_isOutside S1 a2 (-999 : Int32) (999 : Int32) (fun r4 S3 => (r4 = 0 → (P_X4_length 2 S3 (fun r6 S5 => (r6 < (100 : Int32) → (P_X6_beginChange S5 (fun S7 => (P_X3_addRow 1 S7 a1 a2 (fun S9 => (P_X4_length 2 S9 (fun r12 S11 => K (r12 - (1 : Int32)) S11))))))) ∧ (¬ r6 < (100 : Int32) → K (-1000003 : Int32) S5)))) ∧ (¬ r4 = 0 → K (-1000001 : Int32) S3))))))
def P_X6_drop (S : Mem) (a1 : Int32) (K : Int32 → Mem → Prop) : Prop := (0 ≤ a1 → (P_X4_length 2 S (fun r2 S1 => (a1 < r2 → (P_X6_beginChange S1 (fun S3 => (P_X4_remove 2 S3 a1 (fun S5 => (P_X4_length 2 S5 (fun r8 S7 => K r8 S7))))))) ∧ (¬ a1 < r2 → K (-1000002 : Int32) S1)))) ∧ (¬ 0 ≤ a1 → K (-1000001 : Int32) S)
def P_X6_clear (S : Mem) (K : Int32 → Mem → Prop) : Prop := (P_X4_length 2 S (fun r2 S1 => (P_X6_beginChange S1 (fun S3 => (P_X4_shorten 2 S3 (0 : Int32) (fun S5 => K r2 S5))))))
def P_X6_isSettingValue (S : Mem) (a0 : Int32) (a1 : Int32) (K : Int32 → Mem → Prop) : Prop := (a0 = (0 : Int32) → (P_X6_isOutside S a1 (1 : Int32) (12 : Int32) (fun r2 S1 => (¬ r2 = 0 → K (0 : Int32) S1) ∧ (r2 = 0 → K (1 : Int32) S1)))) ∧ (a0 = (1 : Int32) → (P_X6_isOutside S a1 (1 : Int32) (4 : Int32) (fun r4 S3 => (¬ r4 = 0 → K (0 : Int32) S3) ∧ (r4 = 0 → K (1 : Int32) S3)))) ∧ (a0 = (2 : Int32) → (P_X6_isOutside S a1 (1 : Int32) (65535 : Int32) (fun r6 S5 => (¬ r6 = 0 → K (0 : Int32) S5) ∧ (r6 = 0 → (¬ (a1 &&& (1 : Int32)) = (1 : Int32) → K (0 : Int32) S5) ∧ ((a1 &&& (1 : Int32)) = (1 : Int32) → K (1 : Int32) S5))))) ∧ (¬ a0 = (0 : Int32) ∧ ¬ a0 = (1 : Int32) ∧ ¬ a0 = (2 : Int32) → K (0 : Int32) S)
def P_X6_set (S : Mem) (a1 : Int32) (a2 : Int32) (K : Int32 → Mem → Prop) : Prop := (P_X6_isSettingValue S a1 a2 (fun r2 S1 => (¬ r2 = 0 → (P_X6_beginChange S1 (fun S3 => (P_X3_setting 1 S3 a1 (fun r6 S5 => (P_X4_put 4 S5 a1 (0 : Int32) a2 (fun S7 => K r6 S7))))))) ∧ (r2 = 0 → K (-1000001 : Int32) S1)))
def P_X6_firstPart (S : Mem) (a1 : Int32) (K : Int32 → Mem → Prop) : Prop := (P_X3_setting 1 S (1 : Int32) (fun r2 S1 => K (a1 >>> (((16 : Int32) - r2) &&& 31)) S1))
def P_X6_rowOf (S : Mem) (a1 : Int32) (a2 : Int32) (K : Int32 → Mem → Prop) : Prop := (a1 < 0 → K (-1000001 : Int32) S) ∧ (¬ a1 < 0 → (P_X6_isOutside S a2 (0 : Int32) (3 : Int32) (fun r2 S1 => (r2 = 0 → (P_X4_length 2 S1 (fun r4 S3 => (a1 < r4 → (a2 = (0 : Int32) → (P_X3_keyOf 1 S3 a1 (fun r6 S5 => K r6 S5))) ∧ (a2 = (1 : Int32) → (P_X3_valueOf 1 S3 a1 (fun r8 S7 => K r8 S7))) ∧ (a2 = (2 : Int32) → (P_X3_hashOf 1 S3 a1 (fun r10 S9 => K r10 S9))) ∧ (¬ a2 = (0 : Int32) ∧ ¬ a2 = (1 : Int32) ∧ ¬ a2 = (2 : Int32) → (P_X3_hashOf 1 S3 a1 (fun r12 S11 => (P_X6_firstPart S11 r12 (fun r14 S13 => K r14 S13)))))) ∧ (¬ a1 < r4 → K (-1000004 : Int32) S3)))) ∧ (¬ r2 = 0 → K (-1000001 : Int32) S1))))
def P_X6_groupsNow (S : Mem) (K : Option Nat → Mem → Prop) : Prop := ((S 0 5) = 0 → K (some 28) S) ∧ (¬ (S 0 5) = 0 → (P_X0_gather 1 S (fun S1 => (P_X2_forget S1 (fun S3 => (∀ S5 : Mem, S5 = mput S3 0 5 (0 : Int32) → K (some 28) S5))))))
def P_X6_passesNow (S : Mem) (K : Option Nat → Mem → Prop) : Prop := (P_X6_groupsNow S (fun r2 S1 => (r2 = some 28 ∧ (P_X3_setting 1 S1 (0 : Int32) (fun r4 S3 => (P_X3_setting 1 S3 (1 : Int32) (fun r6 S5 => (P_X2_run S5 r4 r6 (fun S7 => K (some 33) S7)))))))))
def P_X6_groupOf (S : Mem) (a1 : Int32) (a2 : Int32) (K : Int32 → Mem → Prop) : Prop := (a1 < 0 → K (-1000001 : Int32) S) ∧ (¬ a1 < 0 → (P_X6_isOutside S a2 (0 : Int32) (7 : Int32) (fun r2 S1 => (r2 = 0 → (P_X6_groupsNow S1 (fun r4 S3 => (r4 = some 28 ∧ (P_X4_length 29 S3 (fun r6 S5 => (a1 < r6 → ((4 : Int32) < a2 → (P_X6_passesNow S5 (fun r8 S7 => (r8 = some 33 ∧ (P_X4_at 38 S7 a1 ((a2 - (4 : Int32)) - (1 : Int32)) (fun r10 S9 => K r10 S9)))))) ∧ (¬ (4 : Int32) < a2 → (P_X4_at 29 S5 a1 a2 (fun r12 S11 => K r12 S11)))) ∧ (¬ a1 < r6 → K (-1000004 : Int32) S5))))))) ∧ (¬ r2 = 0 → K (-1000001 : Int32) S1))))
def P_X6_finished (S : Mem) (a1 : Int32) (K : Int32 → Mem → Prop) : Prop := (0 ≤ a1 → (P_X6_passesNow S (fun r2 S1 => (r2 = some 33 ∧ (P_X4_length 40 S1 (fun r4 S3 => (a1 < r4 → (P_X4_at 40 S3 a1 (0 : Int32) (fun r6 S5 => (P_X4_at 29 S5 r6 (0 : Int32) (fun r8 S7 => K r8 S7))))) ∧ (¬ a1 < r4 → K (-1000004 : Int32) S3))))))) ∧ (¬ 0 ≤ a1 → K (-1000001 : Int32) S)
def P_X6_passOf (S : Mem) (a1 : Int32) (a2 : Int32) (a3 : Int32) (K : Int32 → Mem → Prop) : Prop := (P_X6_isOutside S a1 (0 : Int32) (15 : Int32) (fun r2 S1 => (¬ r2 = 0 → K (-1000001 : Int32) S1) ∧ (r2 = 0 → (P_X6_isOutside S1 a2 (0 : Int32) (65535 : Int32) (fun r4 S3 => (¬ r4 = 0 → K (-1000001 : Int32) S3) ∧ (r4 = 0 → (P_X6_isOutside S3 a3 (0 : Int32) (5 : Int32) (fun r6 S5 => (r6 = 0 → (P_X6_passesNow S5 (fun r8 S7 => (r8 = some 33 ∧ (P_X2_find S7 a1 a2 (fun r10 S9 => (0 ≤ r10 → (P_X4_at 34 S9 r10 a3 (fun r12 S11 => K r12 S11))) ∧ (¬ 0 ≤ r10 → K (-1000004 : Int32) S9))))))) ∧ (¬ r6 = 0 → K (-1000001 : Int32) S5)))))))))
def P_X6_spillOf (S : Mem) (a1 : Int32) (a2 : Int32) (K : Int32 → Mem → Prop) : Prop := (a1 < 0 → K (-1000001 : Int32) S) ∧ (¬ a1 < 0 → (P_X6_isOutside S a2 (0 : Int32) (4 : Int32) (fun r2 S1 => (r2 = 0 → (P_X6_passesNow S1 (fun r4 S3 => (r4 = some 33 ∧ (P_X4_length 36 S3 (fun r6 S5 => (a1 < r6 → (P_X4_at 36 S5 a1 a2 (fun r8 S7 => K r8 S7))) ∧ (¬ a1 < r6 → K (-1000004 : Int32) S5))))))) ∧ (¬ r2 = 0 → K (-1000001 : Int32) S1))))
def P_X6_total (S : Mem) (a1 : Int32) (K : Int32 → Mem → Prop) : Prop := (P_X6_passesNow S (fun r2 S1 => (r2 = some 33 ∧ (a1 = (0 : Int32) → (P_X4_length 40 S1 (fun r4 S3 => K r4 S3))) ∧ (a1 = (1 : Int32) → (P_X4_length 34 S1 (fun r6 S5 => K r6 S5))) ∧ (a1 = (2 : Int32) → (P_X4_length 36 S1 (fun r8 S7 => K r8 S7))) ∧ (a1 = (3 : Int32) → (P_X2_itemsFiled S1 (fun r10 S9 => K r10 S9))) ∧ (a1 = (4 : Int32) → (P_X2_itemsRead S1 (fun r12 S11 => K r12 S11))) ∧ (a1 = (5 : Int32) → (P_X4_greatestOf 34 S1 (6 : Int32) (fun r14 S13 => K r14 S13))) ∧ (a1 = (6 : Int32) → (P_X4_greatestOf 34 S1 (4 : Int32) (fun r16 S15 => K r16 S15))) ∧ (a1 = (7 : Int32) → K (S1 33 8) S1) ∧ (¬ a1 = (0 : Int32) ∧ ¬ a1 = (1 : Int32) ∧ ¬ a1 = (2 : Int32) ∧ ¬ a1 = (3 : Int32) ∧ ¬ a1 = (4 : Int32) ∧ ¬ a1 = (5 : Int32) ∧ ¬ a1 = (6 : Int32) ∧ ¬ a1 = (7 : Int32) → K (-1000001 : Int32) S1))))
def P_X6_passesBy (S : Mem) (a1 : Int32) (a2 : Int32) (K : Option Nat → Mem → Prop) : Prop := (P_X6_groupsNow S (fun r2 S1 => (r2 = some 28 ∧ (P_X2_run S1 a1 a2 (fun S3 => K (some 33) S3)))))
def P_X6_written (S : Mem) (a1 : Int32) (a2 : Int32) (K : Int32 → Mem → Prop) : Prop := (P_X6_isOutside S a1 (1 : Int32) (12 : Int32) (fun r2 S1 => (¬ r2 = 0 → K (-1000001 : Int32) S1) ∧ (r2 = 0 → (P_X6_isOutside S1 a2 (1 : Int32) (4 : Int32) (fun r4 S3 => (r4 = 0 → (P_X6_passesBy S3 a1 a2 (fun r6 S5 => (r6 = some 33 ∧ (P_X2_itemsFiled S5 (fun r8 S7 => K r8 S7)))))) ∧ (¬ r4 = 0 → K (-1000001 : Int32) S3))))))
def B_X6_bestBits_76 (K : Int32 → Mem → Prop) (S : Mem) (x2 : Int32) (x3 : Int32) (x4 : Int32) : Prop := (¬ x2 = 0 → K x4 S) ∧ (x2 = 0 → K x3 S)
def B_X6_bestBits_70 (R38 : Mem → Int32 → Int32 → Int32 → Int32 → Int32 → Prop) (K : Int32 → Mem → Prop) (S : Mem) (x1 : Int32) (x2 : Int32) (x3 : Int32) (x4 : Int32) (x5 : Int32) : Prop := R38 S x1 x2 x3 x4 (x5 + (1 : Int32))
def B_X6_bestBits_38 (K : Int32 → Mem → Prop) : Nat → Mem → Int32 → Int32 → Int32 → Int32 → Int32 → Prop
  | 0, _, _, _, _, _, _ => False
  | n + 1, S, x1, x2, x3, x4, x5 => ((4 : Int32) < x5 → B_X6_bestBits_76 K S x2 x3 x4) ∧ (¬ (4 : Int32) < x5 → (P_X6_passesBy S x1 x5 (fun r10 S9 => (r10 = some 33 ∧ (P_X2_itemsFiled S9 (fun r12 S11 => (x4 ≤ r12 → B_X6_bestBits_70 (fun S x1 x2 x3 x4 x5 => B_X6_bestBits_38 K n S x1 x2 x3 x4 x5) K S11 x1 x2 x3 x4 x5) ∧ (¬ x4 ≤ r12 → B_X6_bestBits_70 (fun S x1 x2 x3 x4 x5 => B_X6_bestBits_38 K n S x1 x2 x3 x4 x5) K S11 x1 x2 x5 r12 x5)))))))
def P_X6_bestBits (S : Mem) (a1 : Int32) (a2 : Int32) (K : Int32 → Mem → Prop) : Prop := (P_X6_isOutside S a1 (1 : Int32) (12 : Int32) (fun r2 S1 => (¬ r2 = 0 → K (-1000001 : Int32) S1) ∧ (r2 = 0 → (P_X6_isOutside S1 a2 (0 : Int32) (1 : Int32) (fun r4 S3 => (r4 = 0 → (P_X6_passesBy S3 a1 (1 : Int32) (fun r6 S5 => (r6 = some 33 ∧ (P_X2_itemsFiled S5 (fun r8 S7 => ∃ n13, B_X6_bestBits_38 K n13 S7 a1 a2 (1 : Int32) r8 (2 : Int32))))))) ∧ (¬ r4 = 0 → K (-1000001 : Int32) S3))))))
def P_X6_enough (S : Mem) (K : Int32 → Mem → Prop) : Prop := (P_X6_groupsNow S (fun r2 S1 => (r2 = some 28 ∧ (P_X4_length 29 S1 (fun r4 S3 => ((if r4 < (1 : Int32) then (1 : Int32) else r4) ≤ (12 : Int32) → K (if r4 < (1 : Int32) then (1 : Int32) else r4) S3) ∧ (¬ (if r4 < (1 : Int32) then (1 : Int32) else r4) ≤ (12 : Int32) → K (-1000004 : Int32) S3))))))
def B_X6_rowsInPart_37 (R4 : Mem → Int32 → Int32 → Int32 → Prop) (K : Int32 → Mem → Prop) (S : Mem) (x1 : Int32) (x2 : Int32) (x3 : Int32) : Prop := R4 S x1 x2 (x3 + (1 : Int32))
def B_X6_rowsInPart_4 (K : Int32 → Mem → Prop) : Nat → Mem → Int32 → Int32 → Int32 → Prop
  | 0, _, _, _, _ => False
  | n + 1, S, x1, x2, x3 => (P_X4_length 2 S (fun r2 S1 => (r2 ≤ x3 → K x2 S1) ∧ (¬ r2 ≤ x3 → (P_X3_hashOf 1 S1 x3 (fun r4 S3 => (P_X6_firstPart S3 r4 (fun r6 S5 => (¬ r6 = x1 → B_X6_rowsInPart_37 (fun S x1 x2 x3 => B_X6_rowsInPart_4 K n S x1 x2 x3) K S5 x1 x2 x3) ∧ (r6 = x1 → B_X6_rowsInPart_37 (fun S x1 x2 x3 => B_X6_rowsInPart_4 K n S x1 x2 x3) K S5 x1 (x2 + (1 : Int32)) x3))))))))
def P_X6_rowsInPart (S : Mem) (a1 : Int32) (K : Int32 → Mem → Prop) : Prop := ∃ n7, B_X6_rowsInPart_4 K n7 S a1 (0 : Int32) (0 : Int32)
def B_X6_groupsInPart_40 (R13 : Mem → Int32 → Int32 → Int32 → Prop) (K : Int32 → Mem → Prop) (S : Mem) (x1 : Int32) (x3 : Int32) (x4 : Int32) : Prop := R13 S x1 x3 (x4 + (1 : Int32))
def B_X6_groupsInPart_13 (K : Int32 → Mem → Prop) : Nat → Mem → Int32 → Int32 → Int32 → Prop
  | 0, _, _, _, _ => False
  | n + 1, S, x1, x3, x4 => (P_X4_length 29 S (fun r4 S3 => (r4 ≤ x4 → K x3 S3) ∧ (¬ r4 ≤ x4 → (P_X4_at 29 S3 x4 (5 : Int32) (fun r6 S5 => (P_X6_firstPart S5 r6 (fun r8 S7 => (¬ r8 = x1 → B_X6_groupsInPart_40 (fun S x1 x3 x4 => B_X6_groupsInPart_13 K n S x1 x3 x4) K S7 x1 x3 x4) ∧ (r8 = x1 → B_X6_groupsInPart_40 (fun S x1 x3 x4 => B_X6_groupsInPart_13 K n S x1 x3 x4) K S7 x1 (x3 + (1 : Int32)) x4))))))))
def P_X6_groupsInPart (S : Mem) (a1 : Int32) (K : Int32 → Mem → Prop) : Prop := (P_X6_groupsNow S (fun r2 S1 => (r2 = some 28 ∧ ∃ n9, B_X6_groupsInPart_13 K n9 S1 a1 (0 : Int32) (0 : Int32))))
def B_X6_skewed_76 (K : Int32 → Mem → Prop) (S : Mem) (x1 : Int32) (x2 : Int32) (x3 : Int32) : Prop := (¬ x1 = 0 → (¬ x1 = (1 : Int32) → (P_X6_groupsInPart S x2 (fun r8 S7 => K r8 S7))) ∧ (x1 = (1 : Int32) → K x3 S)) ∧ (x1 = 0 → K x2 S)
def B_X6_skewed_70 (R35 : Mem → Int32 → Int32 → Int32 → Int32 → Prop) (K : Int32 → Mem → Prop) (S : Mem) (x1 : Int32) (x2 : Int32) (x3 : Int32) (x4 : Int32) : Prop := R35 S x1 x2 x3 (x4 + (1 : Int32))
def B_X6_skewed_35 (K : Int32 → Mem → Prop) : Nat → Mem → Int32 → Int32 → Int32 → Int32 → Prop
  | 0, _, _, _, _, _ => False
  | n + 1, S, x1, x2, x3, x4 => (P_X3_setting 1 S (1 : Int32) (fun r6 S5 => (((1 : Int32) <<< (r6 &&& 31)) ≤ x4 → B_X6_skewed_76 K S5 x1 x2 x3) ∧ (¬ ((1 : Int32) <<< (r6 &&& 31)) ≤ x4 → (P_X6_rowsInPart S5 x4 (fun r10 S9 => (r10 ≤ x3 → B_X6_skewed_70 (fun S x1 x2 x3 x4 => B_X6_skewed_35 K n S x1 x2 x3 x4) K S9 x1 x2 x3 x4) ∧ (¬ r10 ≤ x3 → B_X6_skewed_70 (fun S x1 x2 x3 x4 => B_X6_skewed_35 K n S x1 x2 x3 x4) K S9 x1 x4 r10 x4))))))
def P_X6_skewed (S : Mem) (a1 : Int32) (K : Int32 → Mem → Prop) : Prop := (P_X6_isOutside S a1 (0 : Int32) (2 : Int32) (fun r2 S1 => (r2 = 0 → (P_X4_length 2 S1 (fun r4 S3 => (¬ r4 = 0 → ∃ n11, B_X6_skewed_35 K n11 S3 a1 (0 : Int32) (0 : Int32) (0 : Int32)) ∧ (r4 = 0 → K (-1000004 : Int32) S3)))) ∧ (¬ r2 = 0 → K (-1000001 : Int32) S1)))
def P_X6_count (S : Mem) (a1 : Int32) (K : Int32 → Mem → Prop) : Prop := (a1 = (0 : Int32) → (P_X4_length 2 S (fun r2 S1 => K r2 S1))) ∧ (a1 = (1 : Int32) → (P_X4_sumOf 2 S (1 : Int32) (fun r4 S3 => K r4 S3))) ∧ (a1 = (2 : Int32) → (P_X6_groupsNow S (fun r6 S5 => (r6 = some 28 ∧ (P_X4_length 29 S5 (fun r8 S7 => K r8 S7)))))) ∧ (a1 = (3 : Int32) → (P_X1_length S (fun r10 S9 => K r10 S9))) ∧ (a1 = (4 : Int32) → (P_X4_length 49 S (fun r12 S11 => K r12 S11))) ∧ (a1 = (20 : Int32) → (P_X3_setting 1 S (a1 - (20 : Int32)) (fun r14 S13 => K r14 S13))) ∧ (a1 = (21 : Int32) → (P_X3_setting 1 S (a1 - (20 : Int32)) (fun r16 S15 => K r16 S15))) ∧ (a1 = (22 : Int32) → (P_X3_setting 1 S (a1 - (20 : Int32)) (fun r18 S17 => K r18 S17))) ∧ (¬ a1 = (0 : Int32) ∧ ¬ a1 = (1 : Int32) ∧ ¬ a1 = (2 : Int32) ∧ ¬ a1 = (3 : Int32) ∧ ¬ a1 = (4 : Int32) ∧ ¬ a1 = (20 : Int32) ∧ ¬ a1 = (21 : Int32) ∧ ¬ a1 = (22 : Int32) → K (-1000001 : Int32) S)
def P_X6_undo (S : Mem) (K : Int32 → Mem → Prop) : Prop := (P_X1_length S (fun r2 S1 => (¬ r2 = 0 → (P_X1_restore 1 S1 (fun S3 => (∀ S5 : Mem, S5 = mput S3 0 5 (1 : Int32) → (P_X1_length S5 (fun r7 S6 => K r7 S6)))))) ∧ (r2 = 0 → K (-1000002 : Int32) S1)))
def P_X6_type (S : Mem) (a1 : Int32) (K : Int32 → Mem → Prop) : Prop := (P_X6_isOutside S a1 (32 : Int32) (126 : Int32) (fun r2 S1 => (r2 = 0 → (P_X4_length 49 S1 (fun r4 S3 => (r4 < (60 : Int32) → (P_X4_append 49 S3 a1 (fun r6 S5 => (P_X4_length 49 S5 (fun r8 S7 => K r8 S7))))) ∧ (¬ r4 < (60 : Int32) → K (-1000003 : Int32) S3)))) ∧ (¬ r2 = 0 → K (-1000001 : Int32) S1)))
def P_X6_clearText (S : Mem) (K : Int32 → Mem → Prop) : Prop := (P_X4_length 49 S (fun r2 S1 => (P_X4_shorten 49 S1 (0 : Int32) (fun S3 => K r2 S3))))
def P_X6_fault (S : Mem) (a1 : Int32) (K : Int32 → Mem → Prop) : Prop := (P_X6_isOutside S a1 (0 : Int32) (2 : Int32) (fun r2 S1 => (r2 = 0 → (P_X4_length 2 S1 (fun r4 S3 => (P_X5_read S3 r4 (fun S5 => (¬ (S5 48 3) = 0 → (¬ a1 = 0 → (¬ a1 = (1 : Int32) → K (S5 48 4) S5) ∧ (a1 = (1 : Int32) → K (S5 48 3) S5)) ∧ (a1 = 0 → K (S5 48 2) S5)) ∧ ((S5 48 3) = 0 → K (-1000004 : Int32) S5)))))) ∧ (¬ r2 = 0 → K (-1000001 : Int32) S1)))
def B_X6_play_87 (K : Int32 → Mem → Prop) (S : Mem) : Prop := (P_X4_length 2 S (fun r10 S9 => K r10 S9))
def B_X6_play_36 (K : Int32 → Mem → Prop) : Nat → Mem → Int32 → Prop
  | 0, _, _ => False
  | n + 1, S, x1 => (P_X4_length 51 S (fun r8 S7 => (r8 ≤ x1 → B_X6_play_87 K S7) ∧ (¬ r8 ≤ x1 → (P_X4_at 51 S7 x1 (0 : Int32) (fun r12 S11 => (P_X4_at 51 S11 x1 (1 : Int32) (fun r14 S13 => (P_X3_addRow 1 S13 r12 r14 (fun S15 => B_X6_play_36 K n S15 (x1 + (1 : Int32)))))))))))
def P_X6_play (S : Mem) (K : Int32 → Mem → Prop) : Prop := (P_X4_length 2 S (fun r2 S1 => (P_X5_read S1 r2 (fun S3 => ((S3 48 3) = 0 → (P_X6_beginChange S3 (fun S5 => ∃ n17, B_X6_play_36 K n17 S5 (0 : Int32)))) ∧ (¬ (S3 48 3) = 0 → K (-1000002 : Int32) S3)))))
def P_X7_in (S : Mem) (a0 : Int64) (a2 : Int64) (a4 : Int64) (K : Int32 → Mem → Prop) : Prop := ((lg_cmp a0 a2) < 0 → K (0 : Int32) S) ∧ (¬ (lg_cmp a0 a2) < 0 → (0 < (lg_cmp a0 a4) → K (0 : Int32) S) ∧ (¬ 0 < (lg_cmp a0 a4) → K (1 : Int32) S))
def B_X7_record_85 (K : Mem → Prop) (S : Mem) : Prop := (∀ S1 : Mem, S1 = mput S 53 2 ((S 53 2) + (1 : Int32)) → K S1)
def B_X7_record_51 (K : Mem → Prop) : Nat → Mem → Int32 → Prop
  | 0, _, _ => False
  | n + 1, S, x1 => ((204 : Int32) ≤ x1 → B_X7_record_85 K S) ∧ (¬ (204 : Int32) ≤ x1 → (vp_in x1 204 ∧ (vp_in (((204 : Int32) * (S 53 2)) + x1) 816 ∧ ∀ S2 : Mem, S2 = mput S 55 (Int32.toNatClampNeg (((204 : Int32) * (S 53 2)) + x1)) (S 54 (Int32.toNatClampNeg x1)) → B_X7_record_51 K n S2 (x1 + (1 : Int32)))))
def B_X7_record_49 (K : Mem → Prop) (S : Mem) : Prop := ∃ n3, B_X7_record_51 K n3 S (0 : Int32)
def B_X7_record_39 (K : Mem → Prop) (S : Mem) : Prop := (∀ S4 : Mem, S4 = mput S 53 2 ((S 53 2) - (1 : Int32)) → B_X7_record_49 K S4)
def B_X7_record_10 (K : Mem → Prop) : Nat → Mem → Int32 → Prop
  | 0, _, _ => False
  | n + 1, S, x1 => ((612 : Int32) ≤ x1 → B_X7_record_39 K S) ∧ (¬ (612 : Int32) ≤ x1 → (vp_in (x1 + (204 : Int32)) 816 ∧ (vp_in x1 816 ∧ ∀ S5 : Mem, S5 = mput S 55 (Int32.toNatClampNeg x1) (S 55 (Int32.toNatClampNeg (x1 + (204 : Int32)))) → B_X7_record_10 K n S5 (x1 + (1 : Int32)))))
def P_X7_record (S : Mem) (K : Mem → Prop) : Prop := (¬ (S 53 2) = (4 : Int32) → B_X7_record_49 K S) ∧ ((S 53 2) = (4 : Int32) → ∃ n6, B_X7_record_10 K n6 S (0 : Int32))
def P_X7_isRow (S : Mem) (a0 : Int32) (a1 : Int32) (K : Int32 → Mem → Prop) : Prop := (P_X7_in S (Int32.toInt64 a0) (0 : Int64) (9999 : Int64) (fun r2 S1 => (r2 = 0 → K (0 : Int32) S1) ∧ (¬ r2 = 0 → (P_X7_in S1 (Int32.toInt64 a1) (-999 : Int64) (999 : Int64) (fun r4 S3 => (r4 = 0 → K (0 : Int32) S3) ∧ (¬ r4 = 0 → K (1 : Int32) S3))))))
def P_X7_adds (S : Mem) (a1 : Int32) (a2 : Int32) (K : Mem → Prop) : Prop := (vp_in (0 : Int32) 204 ∧ (vp_in ((4 : Int32) + (S 54 (Int32.toNatClampNeg (0 : Int32)))) 204 ∧ ∀ S1 : Mem, S1 = mput S 54 (Int32.toNatClampNeg ((4 : Int32) + (S 54 (Int32.toNatClampNeg (0 : Int32))))) a1 → (vp_in (0 : Int32) 204 ∧ (vp_in ((104 : Int32) + (S1 54 (Int32.toNatClampNeg (0 : Int32)))) 204 ∧ ∀ S2 : Mem, S2 = mput S1 54 (Int32.toNatClampNeg ((104 : Int32) + (S1 54 (Int32.toNatClampNeg (0 : Int32))))) a2 → (vp_in (0 : Int32) 204 ∧ (vp_in (0 : Int32) 204 ∧ ∀ S3 : Mem, S3 = mput S2 54 (Int32.toNatClampNeg (0 : Int32)) ((S2 54 (Int32.toNatClampNeg (0 : Int32))) + (1 : Int32)) → K S3))))))
def P_X7_row (S : Mem) (a1 : Int32) (a2 : Int32) (K : Int32 → Mem → Prop) : Prop := (P_X7_isRow S a1 a2 (fun r2 S1 => (¬ r2 = 0 → (vp_in (0 : Int32) 204 ∧ (¬ (S1 54 (Int32.toNatClampNeg (0 : Int32))) = (100 : Int32) → (P_X7_record S1 (fun S3 => (P_X7_adds S3 a1 a2 (fun S5 => (vp_in (0 : Int32) 204 ∧ K ((S5 54 (Int32.toNatClampNeg (0 : Int32))) - (1 : Int32)) S5)))))) ∧ ((S1 54 (Int32.toNatClampNeg (0 : Int32))) = (100 : Int32) → K (-1000003 : Int32) S1))) ∧ (r2 = 0 → K (-1000001 : Int32) S1)))
def B_X7_drop_90 (K : Int32 → Mem → Prop) (S : Mem) : Prop := (vp_in (0 : Int32) 204 ∧ K (S 54 (Int32.toNatClampNeg (0 : Int32))) S)
def B_X7_drop_36 (K : Int32 → Mem → Prop) : Nat → Mem → Int32 → Prop
  | 0, _, _ => False
  | n + 1, S, x2 => (vp_in (0 : Int32) 204 ∧ ((S 54 (Int32.toNatClampNeg (0 : Int32))) ≤ x2 → B_X7_drop_90 K S) ∧ (¬ (S 54 (Int32.toNatClampNeg (0 : Int32))) ≤ x2 → (vp_in (((4 : Int32) + x2) + (1 : Int32)) 204 ∧ (vp_in ((4 : Int32) + x2) 204 ∧ ∀ S4 : Mem, S4 = mput S 54 (Int32.toNatClampNeg ((4 : Int32) + x2)) (S 54 (Int32.toNatClampNeg (((4 : Int32) + x2) + (1 : Int32)))) → (vp_in (((104 : Int32) + x2) + (1 : Int32)) 204 ∧ (vp_in ((104 : Int32) + x2) 204 ∧ ∀ S5 : Mem, S5 = mput S4 54 (Int32.toNatClampNeg ((104 : Int32) + x2)) (S4 54 (Int32.toNatClampNeg (((104 : Int32) + x2) + (1 : Int32)))) → B_X7_drop_36 K n S5 (x2 + (1 : Int32))))))))
def P_X7_drop (S : Mem) (a1 : Int32) (K : Int32 → Mem → Prop) : Prop := (0 ≤ a1 → (vp_in (0 : Int32) 204 ∧ (a1 < (S 54 (Int32.toNatClampNeg (0 : Int32))) → (P_X7_record S (fun S1 => (vp_in (0 : Int32) 204 ∧ (vp_in (0 : Int32) 204 ∧ ∀ S3 : Mem, S3 = mput S1 54 (Int32.toNatClampNeg (0 : Int32)) ((S1 54 (Int32.toNatClampNeg (0 : Int32))) - (1 : Int32)) → ∃ n6, B_X7_drop_36 K n6 S3 a1))))) ∧ (¬ a1 < (S 54 (Int32.toNatClampNeg (0 : Int32))) → K (-1000002 : Int32) S))) ∧ (¬ 0 ≤ a1 → K (-1000001 : Int32) S)
def P_X7_clear (S : Mem) (K : Int32 → Mem → Prop) : Prop := (P_X7_record S (fun S1 => (vp_in (0 : Int32) 204 ∧ (vp_in (0 : Int32) 204 ∧ ∀ S3 : Mem, S3 = mput S1 54 (Int32.toNatClampNeg (0 : Int32)) (0 : Int32) → K (S1 54 (Int32.toNatClampNeg (0 : Int32))) S3))))
def B_X7_set_62 (K : Int32 → Mem → Prop) (S : Mem) (x1 : Int32) (x2 : Int32) (y0 : Int32) : Prop := (¬ y0 = 0 → (P_X7_record S (fun S1 => (vp_in ((1 : Int32) + x1) 204 ∧ (vp_in ((1 : Int32) + x1) 204 ∧ ∀ S3 : Mem, S3 = mput S1 54 (Int32.toNatClampNeg ((1 : Int32) + x1)) x2 → K (S1 54 (Int32.toNatClampNeg ((1 : Int32) + x1))) S3))))) ∧ (y0 = 0 → K (-1000001 : Int32) S)
def B_X7_set_61 (K : Int32 → Mem → Prop) (S : Mem) (x1 : Int32) (x2 : Int32) : Prop := B_X7_set_62 K S x1 x2 (0 : Int32)
def P_X7_set (S : Mem) (a1 : Int32) (a2 : Int32) (K : Int32 → Mem → Prop) : Prop := (¬ a1 = 0 → (¬ a1 = (1 : Int32) → (¬ a1 = (2 : Int32) → B_X7_set_61 K S a1 a2) ∧ (a1 = (2 : Int32) → (P_X7_in S (Int32.toInt64 a2) (1 : Int64) (65535 : Int64) (fun r5 S4 => (r5 = 0 → B_X7_set_61 K S4 a1 a2) ∧ (¬ r5 = 0 → (¬ (a2 - a2 / (2 : Int32) * (2 : Int32)) = (1 : Int32) → B_X7_set_61 K S4 a1 a2) ∧ ((a2 - a2 / (2 : Int32) * (2 : Int32)) = (1 : Int32) → B_X7_set_62 K S4 a1 a2 (1 : Int32))))))) ∧ (a1 = (1 : Int32) → (P_X7_in S (Int32.toInt64 a2) (1 : Int64) (4 : Int64) (fun r7 S6 => B_X7_set_62 K S6 a1 a2 r7)))) ∧ (a1 = 0 → (P_X7_in S (Int32.toInt64 a2) (1 : Int64) (12 : Int64) (fun r9 S8 => B_X7_set_62 K S8 a1 a2 r9)))
def P_X7_hashOf (S : Mem) (a1 : Int32) (K : Int32 → Mem → Prop) : Prop := (vp_in (3 : Int32) 204 ∧ K (((a1 * (S 54 (Int32.toNatClampNeg (3 : Int32)))) + (7919 : Int32)) - ((a1 * (S 54 (Int32.toNatClampNeg (3 : Int32)))) + (7919 : Int32)) / (65536 : Int32) * (65536 : Int32)) S)
def P_X7_partOf (S : Mem) (a1 : Int32) (a2 : Int32) (a3 : Int32) (K : Int32 → Mem → Prop) : Prop := (P_X7_hashOf S a1 (fun r2 S1 => K ((r2 >>> (((16 : Int32) - ((a2 + (1 : Int32)) * a3)) &&& 31)) &&& (((1 : Int32) <<< (a3 &&& 31)) - (1 : Int32))) S1))
def P_X7_rowOf (S : Mem) (a1 : Int32) (a2 : Int32) (K : Int32 → Mem → Prop) : Prop := (a1 < 0 → K (-1000001 : Int32) S) ∧ (¬ a1 < 0 → (P_X7_in S (Int32.toInt64 a2) (0 : Int64) (3 : Int64) (fun r2 S1 => (¬ r2 = 0 → (vp_in (0 : Int32) 204 ∧ (a1 < (S1 54 (Int32.toNatClampNeg (0 : Int32))) → (vp_in ((4 : Int32) + a1) 204 ∧ (¬ a2 = 0 → (¬ a2 = (1 : Int32) → (¬ a2 = (2 : Int32) → (vp_in (2 : Int32) 204 ∧ (P_X7_partOf S1 (S1 54 (Int32.toNatClampNeg ((4 : Int32) + a1))) (0 : Int32) (S1 54 (Int32.toNatClampNeg (2 : Int32))) (fun r4 S3 => K r4 S3)))) ∧ (a2 = (2 : Int32) → (P_X7_hashOf S1 (S1 54 (Int32.toNatClampNeg ((4 : Int32) + a1))) (fun r6 S5 => K r6 S5)))) ∧ (a2 = (1 : Int32) → (vp_in ((104 : Int32) + a1) 204 ∧ K (S1 54 (Int32.toNatClampNeg ((104 : Int32) + a1))) S1))) ∧ (a2 = 0 → K (S1 54 (Int32.toNatClampNeg ((4 : Int32) + a1))) S1))) ∧ (¬ a1 < (S1 54 (Int32.toNatClampNeg (0 : Int32))) → K (-1000004 : Int32) S1))) ∧ (r2 = 0 → K (-1000001 : Int32) S1))))
def P_X7_makes (S : Mem) (a1 : Int32) (a2 : Int32) (a3 : Int32) (a4 : Int32) (a5 : Int32) (K : Int32 → Mem → Prop) : Prop := (vp_in ((6 : Int32) * (S 53 4)) 11400 ∧ ∀ S1 : Mem, S1 = mput S 56 (Int32.toNatClampNeg ((6 : Int32) * (S 53 4))) a1 → (vp_in (((6 : Int32) * (S 53 4)) + (1 : Int32)) 11400 ∧ ∀ S2 : Mem, S2 = mput S1 56 (Int32.toNatClampNeg (((6 : Int32) * (S 53 4)) + (1 : Int32))) a2 → (vp_in (((6 : Int32) * (S 53 4)) + (2 : Int32)) 11400 ∧ ∀ S3 : Mem, S3 = mput S2 56 (Int32.toNatClampNeg (((6 : Int32) * (S 53 4)) + (2 : Int32))) a3 → (vp_in (((6 : Int32) * (S 53 4)) + (3 : Int32)) 11400 ∧ ∀ S4 : Mem, S4 = mput S3 56 (Int32.toNatClampNeg (((6 : Int32) * (S 53 4)) + (3 : Int32))) a4 → (vp_in (((6 : Int32) * (S 53 4)) + (4 : Int32)) 11400 ∧ ∀ S5 : Mem, S5 = mput S4 56 (Int32.toNatClampNeg (((6 : Int32) * (S 53 4)) + (4 : Int32))) a5 → (vp_in (((6 : Int32) * (S 53 4)) + (5 : Int32)) 11400 ∧ ∀ S6 : Mem, S6 = mput S5 56 (Int32.toNatClampNeg (((6 : Int32) * (S 53 4)) + (5 : Int32))) (-1 : Int32) → (∀ S7 : Mem, S7 = mput S6 53 4 ((S6 53 4) + (1 : Int32)) → K ((S7 53 4) - (1 : Int32)) S7)))))))
def P_X7_of (S : Mem) (a1 : Int32) (a2 : Int32) (K : Int32 → Mem → Prop) : Prop := (vp_in (((6 : Int32) * a1) + a2) 11400 ∧ K (S 56 (Int32.toNatClampNeg (((6 : Int32) * a1) + a2))) S)
def B_X7_inMemory_28 (K : Int32 → Mem → Prop) (S : Mem) (x2 : Int32) : Prop := ((S 53 6) ≤ x2 → K (-1 : Int32) S) ∧ (¬ (S 53 6) ≤ x2 → K x2 S)
def B_X7_inMemory_2 (K : Int32 → Mem → Prop) : Nat → Mem → Int32 → Int32 → Prop
  | 0, _, _, _ => False
  | n + 1, S, x1, x2 => ((S 53 6) ≤ x2 → B_X7_inMemory_28 K S x2) ∧ (¬ (S 53 6) ≤ x2 → (vp_in ((5 : Int32) * x2) 500 ∧ ((S 57 (Int32.toNatClampNeg ((5 : Int32) * x2))) = x1 → B_X7_inMemory_28 K S x2) ∧ (¬ (S 57 (Int32.toNatClampNeg ((5 : Int32) * x2))) = x1 → B_X7_inMemory_2 K n S x1 (x2 + (1 : Int32)))))
def P_X7_inMemory (S : Mem) (a1 : Int32) (K : Int32 → Mem → Prop) : Prop := ∃ n1, B_X7_inMemory_2 K n1 S a1 (0 : Int32)
def B_X7_addsTo_133 (K : Mem → Prop) (S : Mem) (y0 : Int32) (y1 : Int32) : Prop := (vp_in y1 500 ∧ ∀ S12 : Mem, S12 = mput S 57 (Int32.toNatClampNeg y1) y0 → K S12)
def B_X7_addsTo_85 (K : Mem → Prop) (S : Mem) (x1 : Int32) (x2 : Int32) (y0 : Int32) (y1 : Int32) : Prop := (vp_in y1 500 ∧ ∀ S9 : Mem, S9 = mput S 57 (Int32.toNatClampNeg y1) y0 → (P_X7_of S9 x2 (4 : Int32) (fun r11 S10 => (vp_in (((5 : Int32) * x1) + (4 : Int32)) 500 ∧ (r11 ≤ (S10 57 (Int32.toNatClampNeg (((5 : Int32) * x1) + (4 : Int32)))) → (vp_in (((5 : Int32) * x1) + (4 : Int32)) 500 ∧ B_X7_addsTo_133 K S10 (S10 57 (Int32.toNatClampNeg (((5 : Int32) * x1) + (4 : Int32)))) (((5 : Int32) * x1) + (4 : Int32)))) ∧ (¬ r11 ≤ (S10 57 (Int32.toNatClampNeg (((5 : Int32) * x1) + (4 : Int32)))) → (P_X7_of S10 x2 (4 : Int32) (fun r14 S13 => B_X7_addsTo_133 K S13 r14 (((5 : Int32) * x1) + (4 : Int32)))))))))
def P_X7_addsTo (S : Mem) (a1 : Int32) (a2 : Int32) (K : Mem → Prop) : Prop := (vp_in (((5 : Int32) * a1) + (1 : Int32)) 500 ∧ (P_X7_of S a2 (1 : Int32) (fun r2 S1 => (vp_in (((5 : Int32) * a1) + (1 : Int32)) 500 ∧ ∀ S3 : Mem, S3 = mput S1 57 (Int32.toNatClampNeg (((5 : Int32) * a1) + (1 : Int32))) ((S 57 (Int32.toNatClampNeg (((5 : Int32) * a1) + (1 : Int32)))) + r2) → (vp_in (((5 : Int32) * a1) + (2 : Int32)) 500 ∧ (P_X7_of S3 a2 (2 : Int32) (fun r5 S4 => (vp_in (((5 : Int32) * a1) + (2 : Int32)) 500 ∧ ∀ S6 : Mem, S6 = mput S4 57 (Int32.toNatClampNeg (((5 : Int32) * a1) + (2 : Int32))) ((S3 57 (Int32.toNatClampNeg (((5 : Int32) * a1) + (2 : Int32)))) + r5) → (P_X7_of S6 a2 (3 : Int32) (fun r8 S7 => (vp_in (((5 : Int32) * a1) + (3 : Int32)) 500 ∧ ((S7 57 (Int32.toNatClampNeg (((5 : Int32) * a1) + (3 : Int32)))) ≤ r8 → (vp_in (((5 : Int32) * a1) + (3 : Int32)) 500 ∧ B_X7_addsTo_85 K S7 a1 a2 (S7 57 (Int32.toNatClampNeg (((5 : Int32) * a1) + (3 : Int32)))) (((5 : Int32) * a1) + (3 : Int32)))) ∧ (¬ (S7 57 (Int32.toNatClampNeg (((5 : Int32) * a1) + (3 : Int32)))) ≤ r8 → (P_X7_of S7 a2 (3 : Int32) (fun r16 S15 => B_X7_addsTo_85 K S15 a1 a2 r16 (((5 : Int32) * a1) + (3 : Int32))))))))))))))))
def B_X7_laysGroup_98 (K : Mem → Prop) (S : Mem) : Prop := (∀ S1 : Mem, S1 = mput S 53 6 ((S 53 6) + (1 : Int32)) → K S1)
def B_X7_laysGroup_71 (K : Mem → Prop) : Nat → Mem → Int32 → Int32 → Int32 → Prop
  | 0, _, _, _, _ => False
  | n + 1, S, x1, x2, x3 => ((5 : Int32) ≤ x3 → B_X7_laysGroup_98 K S) ∧ (¬ (5 : Int32) ≤ x3 → (P_X7_of S x1 x3 (fun r3 S2 => (vp_in (((5 : Int32) * x2) + x3) 500 ∧ ∀ S4 : Mem, S4 = mput S2 57 (Int32.toNatClampNeg (((5 : Int32) * x2) + x3)) r3 → B_X7_laysGroup_71 K n S4 x1 x2 (x3 + (1 : Int32))))))
def B_X7_laysGroup_69 (K : Mem → Prop) (S : Mem) (x1 : Int32) (x2 : Int32) : Prop := ∃ n5, B_X7_laysGroup_71 K n5 S x1 x2 (0 : Int32)
def B_X7_laysGroup_63 (R5 : Mem → Int32 → Int32 → Prop) (K : Mem → Prop) (S : Mem) (x1 : Int32) (x2 : Int32) : Prop := R5 S x1 (x2 + (-1 : Int32))
def B_X7_laysGroup_30 (R5 : Mem → Int32 → Int32 → Prop) (K : Mem → Prop) : Nat → Mem → Int32 → Int32 → Int32 → Prop
  | 0, _, _, _, _ => False
  | n + 1, S, x1, x2, x3 => ((5 : Int32) ≤ x3 → B_X7_laysGroup_63 R5 K S x1 x2) ∧ (¬ (5 : Int32) ≤ x3 → (vp_in ((((5 : Int32) * x2) - (5 : Int32)) + x3) 500 ∧ (vp_in (((5 : Int32) * x2) + x3) 500 ∧ ∀ S8 : Mem, S8 = mput S 57 (Int32.toNatClampNeg (((5 : Int32) * x2) + x3)) (S 57 (Int32.toNatClampNeg ((((5 : Int32) * x2) - (5 : Int32)) + x3))) → B_X7_laysGroup_30 R5 K n S8 x1 x2 (x3 + (1 : Int32)))))
def B_X7_laysGroup_5 (K : Mem → Prop) : Nat → Mem → Int32 → Int32 → Prop
  | 0, _, _, _ => False
  | n + 1, S, x1, x2 => (x2 ≤ 0 → B_X7_laysGroup_69 K S x1 x2) ∧ (¬ x2 ≤ 0 → (vp_in (((5 : Int32) * x2) - (5 : Int32)) 500 ∧ (P_X7_of S x1 (0 : Int32) (fun r7 S6 => ((S 57 (Int32.toNatClampNeg (((5 : Int32) * x2) - (5 : Int32)))) ≤ r7 → B_X7_laysGroup_69 K S6 x1 x2) ∧ (¬ (S 57 (Int32.toNatClampNeg (((5 : Int32) * x2) - (5 : Int32)))) ≤ r7 → ∃ n9, B_X7_laysGroup_30 (fun S x1 x2 => B_X7_laysGroup_5 K n S x1 x2) K n9 S6 x1 x2 (0 : Int32))))))
def P_X7_laysGroup (S : Mem) (a1 : Int32) (K : Mem → Prop) : Prop := ∃ n10, B_X7_laysGroup_5 K n10 S a1 (S 53 6)
def B_X7_takesOut_14 (K : Mem → Prop) : Nat → Mem → Int32 → Prop
  | 0, _, _ => False
  | n + 1, S, x2 => (((5 : Int32) * (S 53 6)) ≤ x2 → K S) ∧ (¬ ((5 : Int32) * (S 53 6)) ≤ x2 → (vp_in (x2 + (5 : Int32)) 500 ∧ (vp_in x2 500 ∧ ∀ S2 : Mem, S2 = mput S 57 (Int32.toNatClampNeg x2) (S 57 (Int32.toNatClampNeg (x2 + (5 : Int32)))) → B_X7_takesOut_14 K n S2 (x2 + (1 : Int32)))))
def P_X7_takesOut (S : Mem) (a1 : Int32) (K : Mem → Prop) : Prop := (∀ S1 : Mem, S1 = mput S 53 6 ((S 53 6) - (1 : Int32)) → ∃ n3, B_X7_takesOut_14 K n3 S1 ((5 : Int32) * a1))
def P_X7_last (S : Mem) (a1 : Int32) (K : Int32 → Mem → Prop) : Prop := (vp_in (((7 : Int32) * ((S 53 8) - (1 : Int32))) + a1) 13300 ∧ K (S 58 (Int32.toNatClampNeg (((7 : Int32) * ((S 53 8) - (1 : Int32))) + a1))) S)
def P_X7_counts (S : Mem) (a1 : Int32) (K : Mem → Prop) : Prop := (vp_in (((7 : Int32) * ((S 53 8) - (1 : Int32))) + a1) 13300 ∧ (vp_in (((7 : Int32) * ((S 53 8) - (1 : Int32))) + a1) 13300 ∧ ∀ S1 : Mem, S1 = mput S 58 (Int32.toNatClampNeg (((7 : Int32) * ((S 53 8) - (1 : Int32))) + a1)) ((S 58 (Int32.toNatClampNeg (((7 : Int32) * ((S 53 8) - (1 : Int32))) + a1))) + (1 : Int32)) → K S1))
def B_X7_writes_48 (K : Mem → Prop) (S : Mem) (x1 : Int32) (x2 : Int32) : Prop := (vp_in x2 16 ∧ ∀ S3 : Mem, S3 = mput S 63 (Int32.toNatClampNeg x2) x1 → (vp_in x2 16 ∧ (vp_in x2 16 ∧ ∀ S4 : Mem, S4 = mput S3 64 (Int32.toNatClampNeg x2) ((S3 64 (Int32.toNatClampNeg x2)) + (1 : Int32)) → (P_X7_counts S4 (5 : Int32) (fun S5 => K S5)))))
def P_X7_writes (S : Mem) (a1 : Int32) (a2 : Int32) (K : Mem → Prop) : Prop := (vp_in (((6 : Int32) * a1) + (5 : Int32)) 11400 ∧ ∀ S1 : Mem, S1 = mput S 56 (Int32.toNatClampNeg (((6 : Int32) * a1) + (5 : Int32))) (-1 : Int32) → (vp_in a2 16 ∧ (¬ (S1 64 (Int32.toNatClampNeg a2)) = 0 → (vp_in a2 16 ∧ (vp_in (((6 : Int32) * (S1 63 (Int32.toNatClampNeg a2))) + (5 : Int32)) 11400 ∧ ∀ S2 : Mem, S2 = mput S1 56 (Int32.toNatClampNeg (((6 : Int32) * (S1 63 (Int32.toNatClampNeg a2))) + (5 : Int32))) a1 → B_X7_writes_48 K S2 a1 a2))) ∧ ((S1 64 (Int32.toNatClampNeg a2)) = 0 → (vp_in a2 16 ∧ ∀ S7 : Mem, S7 = mput S1 62 (Int32.toNatClampNeg a2) a1 → B_X7_writes_48 K S7 a1 a2))))
def B_X7_manyOf_43 (R4 : Mem → Int32 → Int32 → Int32 → Prop) (K : Int32 → Mem → Prop) (S : Mem) (x1 : Int32) (x3 : Int32) (y0 : Int32) (y1 : Int32) : Prop := R4 S x1 (y1 + y0) (x3 + (1 : Int32))
def B_X7_manyOf_4 (K : Int32 → Mem → Prop) : Nat → Mem → Int32 → Int32 → Int32 → Prop
  | 0, _, _, _, _ => False
  | n + 1, S, x1, x2, x3 => ((S 53 6) ≤ x3 → K x2 S) ∧ (¬ (S 53 6) ≤ x3 → (vp_in ((5 : Int32) * x3) 500 ∧ (P_X7_last S (0 : Int32) (fun r2 S1 => (P_X7_partOf S1 (S 57 (Int32.toNatClampNeg ((5 : Int32) * x3))) r2 (S1 53 14) (fun r4 S3 => (¬ r4 = x1 → B_X7_manyOf_43 (fun S x1 x2 x3 => B_X7_manyOf_4 K n S x1 x2 x3) K S3 x1 x3 (0 : Int32) x2) ∧ (r4 = x1 → B_X7_manyOf_43 (fun S x1 x2 x3 => B_X7_manyOf_4 K n S x1 x2 x3) K S3 x1 x3 (1 : Int32) x2)))))))
def P_X7_manyOf (S : Mem) (a1 : Int32) (K : Int32 → Mem → Prop) : Prop := ∃ n5, B_X7_manyOf_4 K n5 S a1 (0 : Int32) (0 : Int32)
def B_X7_spillsOne_150 (K : Mem → Prop) (S : Mem) (x1 : Int32) (x2 : Int32) : Prop := (vp_in (((7 : Int32) * ((S 53 8) - (1 : Int32))) + (4 : Int32)) 13300 ∧ (vp_in (((7 : Int32) * ((S 53 8) - (1 : Int32))) + (4 : Int32)) 13300 ∧ ∀ S1 : Mem, S1 = mput S 58 (Int32.toNatClampNeg (((7 : Int32) * ((S 53 8) - (1 : Int32))) + (4 : Int32))) ((S 58 (Int32.toNatClampNeg (((7 : Int32) * ((S 53 8) - (1 : Int32))) + (4 : Int32)))) ||| ((1 : Int32) <<< (x1 &&& 31))) → (P_X7_last S1 (0 : Int32) (fun r3 S2 => (vp_in ((5 : Int32) * (S1 53 10)) 9500 ∧ ∀ S4 : Mem, S4 = mput S2 59 (Int32.toNatClampNeg ((5 : Int32) * (S1 53 10))) r3 → (P_X7_last S4 (1 : Int32) (fun r6 S5 => (vp_in (((5 : Int32) * (S1 53 10)) + (1 : Int32)) 9500 ∧ ∀ S7 : Mem, S7 = mput S5 59 (Int32.toNatClampNeg (((5 : Int32) * (S1 53 10)) + (1 : Int32))) r6 → (vp_in (((5 : Int32) * (S1 53 10)) + (2 : Int32)) 9500 ∧ ∀ S8 : Mem, S8 = mput S7 59 (Int32.toNatClampNeg (((5 : Int32) * (S1 53 10)) + (2 : Int32))) x1 → (vp_in (((5 : Int32) * (S1 53 10)) + (3 : Int32)) 9500 ∧ ∀ S9 : Mem, S9 = mput S8 59 (Int32.toNatClampNeg (((5 : Int32) * (S1 53 10)) + (3 : Int32))) x2 → (∀ S10 : Mem, S10 = mput S9 53 10 ((S9 53 10) + (1 : Int32)) → K S10)))))))))))
def B_X7_spillsOne_144 (R43 : Mem → Int32 → Int32 → Int32 → Prop) (K : Mem → Prop) (S : Mem) (x1 : Int32) (x2 : Int32) (x3 : Int32) : Prop := R43 S x1 x2 (x3 + (1 : Int32))
def B_X7_spillsOne_43 (K : Mem → Prop) : Nat → Mem → Int32 → Int32 → Int32 → Prop
  | 0, _, _, _, _ => False
  | n + 1, S, x1, x2, x3 => ((S 53 6) ≤ x3 → B_X7_spillsOne_150 K S x1 x2) ∧ (¬ (S 53 6) ≤ x3 → (vp_in ((5 : Int32) * x3) 500 ∧ (P_X7_last S (0 : Int32) (fun r12 S11 => (P_X7_partOf S11 (S 57 (Int32.toNatClampNeg ((5 : Int32) * x3))) r12 (S11 53 14) (fun r14 S13 => (¬ r14 = x1 → B_X7_spillsOne_144 (fun S x1 x2 x3 => B_X7_spillsOne_43 K n S x1 x2 x3) K S13 x1 x2 x3) ∧ (r14 = x1 → (vp_in ((5 : Int32) * x3) 500 ∧ (vp_in (((5 : Int32) * x3) + (1 : Int32)) 500 ∧ (vp_in (((5 : Int32) * x3) + (2 : Int32)) 500 ∧ (vp_in (((5 : Int32) * x3) + (3 : Int32)) 500 ∧ (vp_in (((5 : Int32) * x3) + (4 : Int32)) 500 ∧ (P_X7_makes S13 (S13 57 (Int32.toNatClampNeg ((5 : Int32) * x3))) (S13 57 (Int32.toNatClampNeg (((5 : Int32) * x3) + (1 : Int32)))) (S13 57 (Int32.toNatClampNeg (((5 : Int32) * x3) + (2 : Int32)))) (S13 57 (Int32.toNatClampNeg (((5 : Int32) * x3) + (3 : Int32)))) (S13 57 (Int32.toNatClampNeg (((5 : Int32) * x3) + (4 : Int32)))) (fun r16 S15 => (P_X7_writes S15 r16 x1 (fun S17 => (P_X7_takesOut S17 x3 (fun S19 => B_X7_spillsOne_144 (fun S x1 x2 x3 => B_X7_spillsOne_43 K n S x1 x2 x3) K S19 x1 (x2 + (1 : Int32)) (x3 + (-1 : Int32))))))))))))))))))))
def B_X7_spillsOne_39 (K : Mem → Prop) (S : Mem) (x1 : Int32) : Prop := ∃ n21, B_X7_spillsOne_43 K n21 S x1 (0 : Int32) (0 : Int32)
def B_X7_spillsOne_32 (R4 : Mem → Int32 → Int32 → Prop) (K : Mem → Prop) (S : Mem) (x2 : Int32) (y0 : Int32) : Prop := R4 S y0 (x2 + (1 : Int32))
def B_X7_spillsOne_4 (K : Mem → Prop) : Nat → Mem → Int32 → Int32 → Prop
  | 0, _, _, _ => False
  | n + 1, S, x1, x2 => (((1 : Int32) <<< ((S 53 14) &&& 31)) ≤ x2 → B_X7_spillsOne_39 K S x1) ∧ (¬ ((1 : Int32) <<< ((S 53 14) &&& 31)) ≤ x2 → (P_X7_manyOf S x2 (fun r23 S22 => (P_X7_manyOf S22 x1 (fun r25 S24 => (r23 ≤ r25 → B_X7_spillsOne_32 (fun S x1 x2 => B_X7_spillsOne_4 K n S x1 x2) K S24 x2 x1) ∧ (¬ r23 ≤ r25 → B_X7_spillsOne_32 (fun S x1 x2 => B_X7_spillsOne_4 K n S x1 x2) K S24 x2 x2))))))
def P_X7_spillsOne (S : Mem) (K : Mem → Prop) : Prop := ∃ n26, B_X7_spillsOne_4 K n26 S (0 : Int32) (1 : Int32)
def B_X7_takes_183 (K : Int32 → Mem → Prop) (S : Mem) (y0 : Int32) (y1 : Int32) : Prop := (vp_in y1 13300 ∧ ∀ S16 : Mem, S16 = mput S 58 (Int32.toNatClampNeg y1) y0 → K (1 : Int32) S16)
def B_X7_takes_126 (K : Int32 → Mem → Prop) (S : Mem) (x1 : Int32) (y0 : Int32) (y1 : Int32) : Prop := (∀ S13 : Mem, S13 = mput S 53 13 (y1 + y0) → (P_X7_laysGroup S13 x1 (fun S14 => (vp_in (((7 : Int32) * ((S14 53 8) - (1 : Int32))) + (6 : Int32)) 13300 ∧ ((S14 53 6) ≤ (S14 58 (Int32.toNatClampNeg (((7 : Int32) * ((S14 53 8) - (1 : Int32))) + (6 : Int32)))) → (vp_in (((7 : Int32) * ((S14 53 8) - (1 : Int32))) + (6 : Int32)) 13300 ∧ B_X7_takes_183 K S14 (S14 58 (Int32.toNatClampNeg (((7 : Int32) * ((S14 53 8) - (1 : Int32))) + (6 : Int32)))) (((7 : Int32) * ((S14 53 8) - (1 : Int32))) + (6 : Int32)))) ∧ (¬ (S14 53 6) ≤ (S14 58 (Int32.toNatClampNeg (((7 : Int32) * ((S14 53 8) - (1 : Int32))) + (6 : Int32)))) → B_X7_takes_183 K S14 (S14 53 6) (((7 : Int32) * ((S14 53 8) - (1 : Int32))) + (6 : Int32)))))))
def B_X7_takes_111 (K : Int32 → Mem → Prop) (S : Mem) (x1 : Int32) (x4 : Int32) : Prop := (x4 = 0 → B_X7_takes_126 K S x1 (0 : Int32) (S 53 13)) ∧ (¬ x4 = 0 → B_X7_takes_126 K S x1 (1 : Int32) (S 53 13))
def B_X7_takes_81 (K : Int32 → Mem → Prop) (S : Mem) (x1 : Int32) (y0 : Int32) : Prop := (y0 = 0 → B_X7_takes_111 K S x1 y0) ∧ (¬ y0 = 0 → (P_X7_last S (0 : Int32) (fun r18 S17 => (¬ (S17 53 14) = 0 ∧ ((((16 : Int32) / (S17 53 14)) - (1 : Int32)) ≤ r18 → B_X7_takes_111 K S17 x1 y0) ∧ (¬ (((16 : Int32) / (S17 53 14)) - (1 : Int32)) ≤ r18 → (P_X7_spillsOne S17 (fun S19 => K (0 : Int32) S19)))))))
def P_X7_takes (S : Mem) (a1 : Int32) (K : Int32 → Mem → Prop) : Prop := (P_X7_of S a1 (0 : Int32) (fun r2 S1 => (P_X7_last S1 (0 : Int32) (fun r4 S3 => (P_X7_partOf S3 r2 r4 (S3 53 14) (fun r6 S5 => (P_X7_last S5 (4 : Int32) (fun r8 S7 => (¬ ((r8 >>> (r6 &&& 31)) &&& (1 : Int32)) = (1 : Int32) → (P_X7_of S7 a1 (0 : Int32) (fun r10 S9 => (P_X7_inMemory S9 r10 (fun r12 S11 => (r12 = (-1 : Int32) → ((S11 53 6) < (S11 53 15) → B_X7_takes_81 K S11 a1 (0 : Int32)) ∧ (¬ (S11 53 6) < (S11 53 15) → B_X7_takes_81 K S11 a1 (1 : Int32))) ∧ (¬ r12 = (-1 : Int32) → (P_X7_addsTo S11 r12 a1 (fun S21 => K (1 : Int32) S21)))))))) ∧ (((r8 >>> (r6 &&& 31)) &&& (1 : Int32)) = (1 : Int32) → (P_X7_writes S7 a1 r6 (fun S23 => K (1 : Int32) S23)))))))))))
def B_X7_finishes_107 (K : Mem → Prop) (S : Mem) : Prop := (∀ S1 : Mem, S1 = mput S 53 6 (0 : Int32) → K S1)
def B_X7_finishes_47 (R2 : Mem → Int32 → Prop) (K : Mem → Prop) (S : Mem) (x1 : Int32) : Prop := (P_X7_last S (0 : Int32) (fun r3 S2 => (vp_in (((7 : Int32) * (S 53 12)) + (5 : Int32)) 700 ∧ ∀ S4 : Mem, S4 = mput S2 60 (Int32.toNatClampNeg (((7 : Int32) * (S 53 12)) + (5 : Int32))) r3 → (P_X7_last S4 (1 : Int32) (fun r6 S5 => (vp_in (((7 : Int32) * (S4 53 12)) + (6 : Int32)) 700 ∧ ∀ S7 : Mem, S7 = mput S5 60 (Int32.toNatClampNeg (((7 : Int32) * (S4 53 12)) + (6 : Int32))) r6 → (∀ S8 : Mem, S8 = mput S7 53 12 ((S7 53 12) + (1 : Int32)) → (P_X7_counts S8 (3 : Int32) (fun S9 => R2 S9 (x1 + (1 : Int32)))))))))))
def B_X7_finishes_12 (R2 : Mem → Int32 → Prop) (K : Mem → Prop) : Nat → Mem → Int32 → Int32 → Prop
  | 0, _, _, _ => False
  | n + 1, S, x1, x2 => ((5 : Int32) ≤ x2 → B_X7_finishes_47 R2 K S x1) ∧ (¬ (5 : Int32) ≤ x2 → (vp_in (((5 : Int32) * x1) + x2) 500 ∧ (vp_in (((7 : Int32) * (S 53 12)) + x2) 700 ∧ ∀ S11 : Mem, S11 = mput S 60 (Int32.toNatClampNeg (((7 : Int32) * (S 53 12)) + x2)) (S 57 (Int32.toNatClampNeg (((5 : Int32) * x1) + x2))) → B_X7_finishes_12 R2 K n S11 x1 (x2 + (1 : Int32)))))
def B_X7_finishes_2 (K : Mem → Prop) : Nat → Mem → Int32 → Prop
  | 0, _, _ => False
  | n + 1, S, x1 => ((S 53 6) ≤ x1 → B_X7_finishes_107 K S) ∧ (¬ (S 53 6) ≤ x1 → ∃ n12, B_X7_finishes_12 (fun S x1 => B_X7_finishes_2 K n S x1) K n12 S x1 (0 : Int32))
def P_X7_finishes (S : Mem) (K : Mem → Prop) : Prop := ∃ n13, B_X7_finishes_2 K n13 S (0 : Int32)
def B_X7_leavesFiles_139 (R50 : Mem → Int32 → Prop) (K : Mem → Prop) (S : Mem) (x2 : Int32) : Prop := R50 S (x2 + (-1 : Int32))
def B_X7_leavesFiles_50 (K : Mem → Prop) : Nat → Mem → Int32 → Prop
  | 0, _, _ => False
  | n + 1, S, x2 => (x2 < 0 → K S) ∧ (¬ x2 < 0 → (P_X7_last S (4 : Int32) (fun r2 S1 => (¬ ((r2 >>> (x2 &&& 31)) &&& (1 : Int32)) = (1 : Int32) → B_X7_leavesFiles_139 (fun S x2 => B_X7_leavesFiles_50 K n S x2) K S1 x2) ∧ (((r2 >>> (x2 &&& 31)) &&& (1 : Int32)) = (1 : Int32) → (P_X7_last S1 (0 : Int32) (fun r4 S3 => (vp_in ((3 : Int32) * (S1 53 17)) 900 ∧ ∀ S5 : Mem, S5 = mput S3 61 (Int32.toNatClampNeg ((3 : Int32) * (S1 53 17))) (r4 + (1 : Int32)) → (P_X7_last S5 (1 : Int32) (fun r7 S6 => (vp_in (((3 : Int32) * (S5 53 17)) + (1 : Int32)) 900 ∧ ∀ S8 : Mem, S8 = mput S6 61 (Int32.toNatClampNeg (((3 : Int32) * (S5 53 17)) + (1 : Int32))) ((r7 <<< ((S6 53 14) &&& 31)) + x2) → (vp_in x2 16 ∧ (vp_in (((3 : Int32) * (S8 53 17)) + (2 : Int32)) 900 ∧ ∀ S9 : Mem, S9 = mput S8 61 (Int32.toNatClampNeg (((3 : Int32) * (S8 53 17)) + (2 : Int32))) (S8 62 (Int32.toNatClampNeg x2)) → (∀ S10 : Mem, S10 = mput S9 53 17 ((S9 53 17) + (1 : Int32)) → B_X7_leavesFiles_139 (fun S x2 => B_X7_leavesFiles_50 K n S x2) K S10 x2)))))))))))))
def B_X7_leavesFiles_41 (K : Mem → Prop) (S : Mem) : Prop := ∃ n11, B_X7_leavesFiles_50 K n11 S (((1 : Int32) <<< ((S 53 14) &&& 31)) - (1 : Int32))
def B_X7_leavesFiles_2 (K : Mem → Prop) : Nat → Mem → Int32 → Prop
  | 0, _, _ => False
  | n + 1, S, x2 => ((S 53 10) ≤ x2 → B_X7_leavesFiles_41 K S) ∧ (¬ (S 53 10) ≤ x2 → (vp_in (((5 : Int32) * x2) + (2 : Int32)) 9500 ∧ (vp_in (S 59 (Int32.toNatClampNeg (((5 : Int32) * x2) + (2 : Int32)))) 16 ∧ (vp_in (((5 : Int32) * x2) + (4 : Int32)) 9500 ∧ ∀ S12 : Mem, S12 = mput S 59 (Int32.toNatClampNeg (((5 : Int32) * x2) + (4 : Int32))) (S 64 (Int32.toNatClampNeg (S 59 (Int32.toNatClampNeg (((5 : Int32) * x2) + (2 : Int32)))))) → B_X7_leavesFiles_2 K n S12 (x2 + (1 : Int32))))))
def P_X7_leavesFiles (S : Mem) (a1 : Int32) (K : Mem → Prop) : Prop := ∃ n13, B_X7_leavesFiles_2 K n13 S a1
def B_X7_doPass_154 (K : Mem → Prop) (S : Mem) (x4 : Int32) : Prop := (P_X7_finishes S (fun S4 => (P_X7_leavesFiles S4 x4 (fun S6 => K S6))))
def B_X7_doPass_147 (R103 : Mem → Int32 → Int32 → Prop) (K : Mem → Prop) (S : Mem) (x4 : Int32) (x6 : Int32) : Prop := R103 S x4 x6
def B_X7_doPass_131 (R103 : Mem → Int32 → Int32 → Prop) (K : Mem → Prop) : Nat → Mem → Int32 → Int32 → Int32 → Int32 → Prop
  | 0, _, _, _, _, _ => False
  | n + 1, S, x4, x5, x6, x7 => (¬ x7 = 0 → B_X7_doPass_147 R103 K S x4 x6) ∧ (x7 = 0 → (P_X7_takes S x5 (fun r15 S14 => B_X7_doPass_131 R103 K n S14 x4 x5 x6 r15)))
def B_X7_doPass_103 (K : Mem → Prop) : Nat → Mem → Int32 → Int32 → Prop
  | 0, _, _, _ => False
  | n + 1, S, x4, x5 => (x5 = (-1 : Int32) → B_X7_doPass_154 K S x4) ∧ (¬ x5 = (-1 : Int32) → (P_X7_of S x5 (5 : Int32) (fun r9 S8 => (P_X7_counts S8 (2 : Int32) (fun S10 => (P_X7_takes S10 x5 (fun r13 S12 => ∃ n16, B_X7_doPass_131 (fun S x4 x5 => B_X7_doPass_103 K n S x4 x5) K n16 S12 x4 x5 r9 r13)))))))
def B_X7_doPass_56 (K : Mem → Prop) (S : Mem) (x1 : Int32) (x2 : Int32) (x3 : Int32) : Prop := (vp_in ((7 : Int32) * (S 53 8)) 13300 ∧ ∀ S1 : Mem, S1 = mput S 58 (Int32.toNatClampNeg ((7 : Int32) * (S 53 8))) x1 → (vp_in (((7 : Int32) * (S1 53 8)) + (1 : Int32)) 13300 ∧ ∀ S2 : Mem, S2 = mput S1 58 (Int32.toNatClampNeg (((7 : Int32) * (S1 53 8)) + (1 : Int32))) x2 → (∀ S3 : Mem, S3 = mput S2 53 8 ((S2 53 8) + (1 : Int32)) → ∃ n17, B_X7_doPass_103 K n17 S3 (S3 53 10) x3)))
def B_X7_doPass_27 (K : Mem → Prop) : Nat → Mem → Int32 → Int32 → Int32 → Int32 → Prop
  | 0, _, _, _, _, _ => False
  | n + 1, S, x1, x2, x3, x4 => ((7 : Int32) ≤ x4 → B_X7_doPass_56 K S x1 x2 x3) ∧ (¬ (7 : Int32) ≤ x4 → (vp_in (((7 : Int32) * (S 53 8)) + x4) 13300 ∧ ∀ S18 : Mem, S18 = mput S 58 (Int32.toNatClampNeg (((7 : Int32) * (S 53 8)) + x4)) (0 : Int32) → B_X7_doPass_27 K n S18 x1 x2 x3 (x4 + (1 : Int32))))
def B_X7_doPass_24 (K : Mem → Prop) (S : Mem) (x1 : Int32) (x2 : Int32) (x3 : Int32) : Prop := ∃ n19, B_X7_doPass_27 K n19 S x1 x2 x3 (0 : Int32)
def B_X7_doPass_3 (K : Mem → Prop) : Nat → Mem → Int32 → Int32 → Int32 → Int32 → Prop
  | 0, _, _, _, _, _ => False
  | n + 1, S, x1, x2, x3, x4 => ((16 : Int32) ≤ x4 → B_X7_doPass_24 K S x1 x2 x3) ∧ (¬ (16 : Int32) ≤ x4 → (vp_in x4 16 ∧ ∀ S20 : Mem, S20 = mput S 64 (Int32.toNatClampNeg x4) (0 : Int32) → B_X7_doPass_3 K n S20 x1 x2 x3 (x4 + (1 : Int32))))
def P_X7_doPass (S : Mem) (a1 : Int32) (a2 : Int32) (a3 : Int32) (K : Mem → Prop) : Prop := ∃ n21, B_X7_doPass_3 K n21 S a1 a2 a3 (0 : Int32)
def B_X7_run_165 (K : Mem → Prop) : Nat → Mem → Prop
  | 0, _ => False
  | n + 1, S => ((S 53 17) ≤ 0 → K S) ∧ (¬ (S 53 17) ≤ 0 → (∀ S12 : Mem, S12 = mput S 53 17 ((S 53 17) - (1 : Int32)) → (vp_in ((3 : Int32) * (S12 53 17)) 900 ∧ (vp_in (((3 : Int32) * (S12 53 17)) + (1 : Int32)) 900 ∧ (vp_in (((3 : Int32) * (S12 53 17)) + (2 : Int32)) 900 ∧ (P_X7_doPass S12 (S12 61 (Int32.toNatClampNeg ((3 : Int32) * (S12 53 17)))) (S12 61 (Int32.toNatClampNeg (((3 : Int32) * (S12 53 17)) + (1 : Int32)))) (S12 61 (Int32.toNatClampNeg (((3 : Int32) * (S12 53 17)) + (2 : Int32)))) (fun S13 => B_X7_run_165 K n S13)))))))
def B_X7_run_164 (K : Mem → Prop) (S : Mem) (y0 : Int32) (y1 : Int32) : Prop := (vp_in y1 900 ∧ ∀ S11 : Mem, S11 = mput S 61 (Int32.toNatClampNeg y1) y0 → ∃ n15, B_X7_run_165 K n15 S11)
def B_X7_run_126 (K : Mem → Prop) (S : Mem) : Prop := (∀ S8 : Mem, S8 = mput S 53 17 (1 : Int32) → (vp_in (0 : Int32) 900 ∧ ∀ S9 : Mem, S9 = mput S8 61 (Int32.toNatClampNeg (0 : Int32)) (0 : Int32) → (vp_in (1 : Int32) 900 ∧ ∀ S10 : Mem, S10 = mput S9 61 (Int32.toNatClampNeg (1 : Int32)) (0 : Int32) → (vp_in (0 : Int32) 204 ∧ ((S10 54 (Int32.toNatClampNeg (0 : Int32))) ≤ 0 → B_X7_run_164 K S10 (-1 : Int32) (2 : Int32)) ∧ (¬ (S10 54 (Int32.toNatClampNeg (0 : Int32))) ≤ 0 → B_X7_run_164 K S10 (0 : Int32) (2 : Int32))))))
def B_X7_run_119 (R37 : Mem → Int32 → Prop) (K : Mem → Prop) (S : Mem) (x3 : Int32) (y0 : Int32) (y1 : Int32) : Prop := (vp_in y1 11400 ∧ ∀ S18 : Mem, S18 = mput S 56 (Int32.toNatClampNeg y1) y0 → R37 S18 (x3 + (1 : Int32)))
def B_X7_run_37 (K : Mem → Prop) : Nat → Mem → Int32 → Prop
  | 0, _, _ => False
  | n + 1, S, x3 => (vp_in (0 : Int32) 204 ∧ ((S 54 (Int32.toNatClampNeg (0 : Int32))) ≤ x3 → B_X7_run_126 K S) ∧ (¬ (S 54 (Int32.toNatClampNeg (0 : Int32))) ≤ x3 → (vp_in ((4 : Int32) + x3) 204 ∧ (vp_in ((104 : Int32) + x3) 204 ∧ (vp_in ((104 : Int32) + x3) 204 ∧ (vp_in ((104 : Int32) + x3) 204 ∧ (P_X7_makes S (S 54 (Int32.toNatClampNeg ((4 : Int32) + x3))) (1 : Int32) (S 54 (Int32.toNatClampNeg ((104 : Int32) + x3))) (S 54 (Int32.toNatClampNeg ((104 : Int32) + x3))) (S 54 (Int32.toNatClampNeg ((104 : Int32) + x3))) (fun r17 S16 => (vp_in (0 : Int32) 204 ∧ ((S16 54 (Int32.toNatClampNeg (0 : Int32))) ≤ (x3 + (1 : Int32)) → B_X7_run_119 (fun S x3 => B_X7_run_37 K n S x3) K S16 x3 (-1 : Int32) (((6 : Int32) * r17) + (5 : Int32))) ∧ (¬ (S16 54 (Int32.toNatClampNeg (0 : Int32))) ≤ (x3 + (1 : Int32)) → B_X7_run_119 (fun S x3 => B_X7_run_37 K n S x3) K S16 x3 (x3 + (1 : Int32)) (((6 : Int32) * r17) + (5 : Int32))))))))))))
def P_X7_run (S : Mem) (a1 : Int32) (a2 : Int32) (K : Mem → Prop) : Prop := (∀ S1 : Mem, S1 = mput S 53 15 a1 → (∀ S2 : Mem, S2 = mput S1 53 14 a2 → (∀ S3 : Mem, S3 = mput S2 53 4 (0 : Int32) → (∀ S4 : Mem, S4 = mput S3 53 8 (0 : Int32) → (∀ S5 : Mem, S5 = mput S4 53 10 (0 : Int32) → (∀ S6 : Mem, S6 = mput S5 53 12 (0 : Int32) → (∀ S7 : Mem, S7 = mput S6 53 13 (0 : Int32) → ∃ n19, B_X7_run_37 K n19 S7 (0 : Int32))))))))
def P_X7_runNow (S : Mem) (K : Mem → Prop) : Prop := (vp_in (1 : Int32) 204 ∧ (vp_in (2 : Int32) 204 ∧ (P_X7_run S (S 54 (Int32.toNatClampNeg (1 : Int32))) (S 54 (Int32.toNatClampNeg (2 : Int32))) (fun S1 => K S1))))
def B_X7_groupOf_92 (K : Int32 → Mem → Prop) (S : Mem) (x2 : Int32) (x3 : Int32) : Prop := (¬ x2 = (7 : Int32) → (vp_in (((7 : Int32) * x3) + x2) 700 ∧ K (S 60 (Int32.toNatClampNeg (((7 : Int32) * x3) + x2))) S)) ∧ (x2 = (7 : Int32) → K x3 S)
def B_X7_groupOf_86 (R25 : Mem → Int32 → Int32 → Int32 → Prop) (K : Int32 → Mem → Prop) (S : Mem) (x1 : Int32) (x2 : Int32) (x3 : Int32) (x4 : Int32) : Prop := (¬ x4 = x1 → R25 S x1 x2 (x3 + (1 : Int32))) ∧ (x4 = x1 → B_X7_groupOf_92 K S x2 x3)
def B_X7_groupOf_77 (R25 : Mem → Int32 → Int32 → Int32 → Prop) (R39 : Mem → Int32 → Int32 → Int32 → Int32 → Int32 → Prop) (K : Int32 → Mem → Prop) (S : Mem) (x1 : Int32) (x2 : Int32) (x3 : Int32) (x5 : Int32) (y0 : Int32) (y1 : Int32) : Prop := R39 S x1 x2 x3 (y1 + y0) (x5 + (1 : Int32))
def B_X7_groupOf_39 (R25 : Mem → Int32 → Int32 → Int32 → Prop) (K : Int32 → Mem → Prop) : Nat → Mem → Int32 → Int32 → Int32 → Int32 → Int32 → Prop
  | 0, _, _, _, _, _, _ => False
  | n + 1, S, x1, x2, x3, x4, x5 => ((S 53 12) ≤ x5 → B_X7_groupOf_86 R25 K S x1 x2 x3 x4) ∧ (¬ (S 53 12) ≤ x5 → (vp_in ((7 : Int32) * x5) 700 ∧ (vp_in ((7 : Int32) * x3) 700 ∧ ((S 60 (Int32.toNatClampNeg ((7 : Int32) * x3))) ≤ (S 60 (Int32.toNatClampNeg ((7 : Int32) * x5))) → B_X7_groupOf_77 R25 (fun S x1 x2 x3 x4 x5 => B_X7_groupOf_39 R25 K n S x1 x2 x3 x4 x5) K S x1 x2 x3 x5 (0 : Int32) x4) ∧ (¬ (S 60 (Int32.toNatClampNeg ((7 : Int32) * x3))) ≤ (S 60 (Int32.toNatClampNeg ((7 : Int32) * x5))) → B_X7_groupOf_77 R25 (fun S x1 x2 x3 x4 x5 => B_X7_groupOf_39 R25 K n S x1 x2 x3 x4 x5) K S x1 x2 x3 x5 (1 : Int32) x4))))
def B_X7_groupOf_25 (K : Int32 → Mem → Prop) : Nat → Mem → Int32 → Int32 → Int32 → Prop
  | 0, _, _, _, _ => False
  | n + 1, S, x1, x2, x3 => ((S 53 12) ≤ x3 → K (-1000004 : Int32) S) ∧ (¬ (S 53 12) ≤ x3 → ∃ n5, B_X7_groupOf_39 (fun S x1 x2 x3 => B_X7_groupOf_25 K n S x1 x2 x3) K n5 S x1 x2 x3 (0 : Int32) (0 : Int32))
def P_X7_groupOf (S : Mem) (a1 : Int32) (a2 : Int32) (K : Int32 → Mem → Prop) : Prop := (a1 < 0 → K (-1000001 : Int32) S) ∧ (¬ a1 < 0 → (P_X7_in S (Int32.toInt64 a2) (0 : Int64) (7 : Int64) (fun r2 S1 => (¬ r2 = 0 → (P_X7_runNow S1 (fun S3 => ∃ n6, B_X7_groupOf_25 K n6 S3 a1 a2 (0 : Int32)))) ∧ (r2 = 0 → K (-1000001 : Int32) S1))))
def P_X7_finished (S : Mem) (a1 : Int32) (K : Int32 → Mem → Prop) : Prop := (0 ≤ a1 → (P_X7_runNow S (fun S1 => ((S1 53 12) ≤ a1 → K (-1000004 : Int32) S1) ∧ (¬ (S1 53 12) ≤ a1 → (vp_in ((7 : Int32) * a1) 700 ∧ K (S1 60 (Int32.toNatClampNeg ((7 : Int32) * a1))) S1))))) ∧ (¬ 0 ≤ a1 → K (-1000001 : Int32) S)
def B_X7_passOf_110 (R46 : Mem → Int32 → Int32 → Int32 → Int32 → Prop) (K : Int32 → Mem → Prop) (S : Mem) (x1 : Int32) (x2 : Int32) (x3 : Int32) (x4 : Int32) : Prop := R46 S x1 x2 x3 (x4 + (1 : Int32))
def B_X7_passOf_85 (K : Int32 → Mem → Prop) (S : Mem) (x3 : Int32) (x4 : Int32) : Prop := (¬ x3 = (5 : Int32) → (vp_in ((((7 : Int32) * x4) + (2 : Int32)) + x3) 13300 ∧ K (S 58 (Int32.toNatClampNeg ((((7 : Int32) * x4) + (2 : Int32)) + x3))) S)) ∧ (x3 = (5 : Int32) → K x4 S)
def B_X7_passOf_46 (K : Int32 → Mem → Prop) : Nat → Mem → Int32 → Int32 → Int32 → Int32 → Prop
  | 0, _, _, _, _, _ => False
  | n + 1, S, x1, x2, x3, x4 => ((S 53 8) ≤ x4 → K (-1000004 : Int32) S) ∧ (¬ (S 53 8) ≤ x4 → (vp_in ((7 : Int32) * x4) 13300 ∧ (¬ (S 58 (Int32.toNatClampNeg ((7 : Int32) * x4))) = x1 → B_X7_passOf_110 (fun S x1 x2 x3 x4 => B_X7_passOf_46 K n S x1 x2 x3 x4) K S x1 x2 x3 x4) ∧ ((S 58 (Int32.toNatClampNeg ((7 : Int32) * x4))) = x1 → (vp_in (((7 : Int32) * x4) + (1 : Int32)) 13300 ∧ (¬ (S 58 (Int32.toNatClampNeg (((7 : Int32) * x4) + (1 : Int32)))) = x2 → B_X7_passOf_110 (fun S x1 x2 x3 x4 => B_X7_passOf_46 K n S x1 x2 x3 x4) K S x1 x2 x3 x4) ∧ ((S 58 (Int32.toNatClampNeg (((7 : Int32) * x4) + (1 : Int32)))) = x2 → B_X7_passOf_85 K S x3 x4)))))
def P_X7_passOf (S : Mem) (a1 : Int32) (a2 : Int32) (a3 : Int32) (K : Int32 → Mem → Prop) : Prop := (P_X7_in S (Int32.toInt64 a1) (0 : Int64) (15 : Int64) (fun r2 S1 => (r2 = 0 → K (-1000001 : Int32) S1) ∧ (¬ r2 = 0 → (P_X7_in S1 (Int32.toInt64 a2) (0 : Int64) (65535 : Int64) (fun r4 S3 => (r4 = 0 → K (-1000001 : Int32) S3) ∧ (¬ r4 = 0 → (P_X7_in S3 (Int32.toInt64 a3) (0 : Int64) (5 : Int64) (fun r6 S5 => (¬ r6 = 0 → (P_X7_runNow S5 (fun S7 => ∃ n9, B_X7_passOf_46 K n9 S7 a1 a2 a3 (0 : Int32)))) ∧ (r6 = 0 → K (-1000001 : Int32) S5)))))))))
def P_X7_spillOf (S : Mem) (a1 : Int32) (a2 : Int32) (K : Int32 → Mem → Prop) : Prop := (a1 < 0 → K (-1000001 : Int32) S) ∧ (¬ a1 < 0 → (P_X7_in S (Int32.toInt64 a2) (0 : Int64) (4 : Int64) (fun r2 S1 => (¬ r2 = 0 → (P_X7_runNow S1 (fun S3 => ((S3 53 10) ≤ a1 → K (-1000004 : Int32) S3) ∧ (¬ (S3 53 10) ≤ a1 → (vp_in (((5 : Int32) * a1) + a2) 9500 ∧ K (S3 59 (Int32.toNatClampNeg (((5 : Int32) * a1) + a2))) S3))))) ∧ (r2 = 0 → K (-1000001 : Int32) S1))))
def B_X7_writtenInAll_4 (K : Int32 → Mem → Prop) : Nat → Mem → Int32 → Int32 → Prop
  | 0, _, _, _ => False
  | n + 1, S, x1, x2 => ((S 53 8) ≤ x2 → K x1 S) ∧ (¬ (S 53 8) ≤ x2 → (vp_in (((7 : Int32) * x2) + (5 : Int32)) 13300 ∧ B_X7_writtenInAll_4 K n S (x1 + (S 58 (Int32.toNatClampNeg (((7 : Int32) * x2) + (5 : Int32))))) (x2 + (1 : Int32))))
def P_X7_writtenInAll (S : Mem) (K : Int32 → Mem → Prop) : Prop := ∃ n1, B_X7_writtenInAll_4 K n1 S (0 : Int32) (0 : Int32)
def B_X7_readAgain_4 (K : Int32 → Mem → Prop) : Nat → Mem → Int32 → Int32 → Prop
  | 0, _, _, _ => False
  | n + 1, S, x1, x2 => ((S 53 8) ≤ x2 → K x1 S) ∧ (¬ (S 53 8) ≤ x2 → (vp_in (((7 : Int32) * x2) + (2 : Int32)) 13300 ∧ B_X7_readAgain_4 K n S (x1 + (S 58 (Int32.toNatClampNeg (((7 : Int32) * x2) + (2 : Int32))))) (x2 + (1 : Int32))))
def P_X7_readAgain (S : Mem) (K : Int32 → Mem → Prop) : Prop := ∃ n1, B_X7_readAgain_4 K n1 S (0 : Int32) (1 : Int32)
def B_X7_greatest_42 (R4 : Mem → Int32 → Int32 → Int32 → Prop) (K : Int32 → Mem → Prop) (S : Mem) (x1 : Int32) (x3 : Int32) (y0 : Int32) : Prop := R4 S x1 y0 (x3 + (1 : Int32))
def B_X7_greatest_4 (K : Int32 → Mem → Prop) : Nat → Mem → Int32 → Int32 → Int32 → Prop
  | 0, _, _, _, _ => False
  | n + 1, S, x1, x2, x3 => ((S 53 8) ≤ x3 → K x2 S) ∧ (¬ (S 53 8) ≤ x3 → (vp_in (((7 : Int32) * x3) + x1) 13300 ∧ ((S 58 (Int32.toNatClampNeg (((7 : Int32) * x3) + x1))) ≤ x2 → B_X7_greatest_42 (fun S x1 x2 x3 => B_X7_greatest_4 K n S x1 x2 x3) K S x1 x3 x2) ∧ (¬ (S 58 (Int32.toNatClampNeg (((7 : Int32) * x3) + x1))) ≤ x2 → (vp_in (((7 : Int32) * x3) + x1) 13300 ∧ B_X7_greatest_42 (fun S x1 x2 x3 => B_X7_greatest_4 K n S x1 x2 x3) K S x1 x3 (S 58 (Int32.toNatClampNeg (((7 : Int32) * x3) + x1)))))))
def P_X7_greatest (S : Mem) (a1 : Int32) (K : Int32 → Mem → Prop) : Prop := ∃ n1, B_X7_greatest_4 K n1 S a1 (0 : Int32) (0 : Int32)
def P_X7_total (S : Mem) (a1 : Int32) (K : Int32 → Mem → Prop) : Prop := (P_X7_runNow S (fun S1 => (a1 = (0 : Int32) → K (S1 53 12) S1) ∧ (a1 = (1 : Int32) → K (S1 53 8) S1) ∧ (a1 = (2 : Int32) → K (S1 53 10) S1) ∧ (a1 = (3 : Int32) → (P_X7_writtenInAll S1 (fun r4 S3 => K r4 S3))) ∧ (a1 = (4 : Int32) → (P_X7_readAgain S1 (fun r6 S5 => K r6 S5))) ∧ (a1 = (5 : Int32) → (P_X7_greatest S1 (0 : Int32) (fun r8 S7 => K r8 S7))) ∧ (a1 = (6 : Int32) → (P_X7_greatest S1 (6 : Int32) (fun r10 S9 => K r10 S9))) ∧ (a1 = (7 : Int32) → K (S1 53 13) S1) ∧ (¬ a1 = (0 : Int32) ∧ ¬ a1 = (1 : Int32) ∧ ¬ a1 = (2 : Int32) ∧ ¬ a1 = (3 : Int32) ∧ ¬ a1 = (4 : Int32) ∧ ¬ a1 = (5 : Int32) ∧ ¬ a1 = (6 : Int32) ∧ ¬ a1 = (7 : Int32) → K (-1000001 : Int32) S1)))
def P_X7_writtenBy (S : Mem) (a1 : Int32) (a2 : Int32) (K : Int32 → Mem → Prop) : Prop := (P_X7_run S a1 a2 (fun S1 => (P_X7_writtenInAll S1 (fun r4 S3 => K r4 S3))))
def P_X7_written (S : Mem) (a1 : Int32) (a2 : Int32) (K : Int32 → Mem → Prop) : Prop := (P_X7_in S (Int32.toInt64 a1) (1 : Int64) (12 : Int64) (fun r2 S1 => (r2 = 0 → K (-1000001 : Int32) S1) ∧ (¬ r2 = 0 → (P_X7_in S1 (Int32.toInt64 a2) (1 : Int64) (4 : Int64) (fun r4 S3 => (r4 = 0 → K (-1000001 : Int32) S3) ∧ (¬ r4 = 0 → (P_X7_writtenBy S3 a1 a2 (fun r6 S5 => K r6 S5))))))))
def B_X7_bestBits_89 (K : Int32 → Mem → Prop) (S : Mem) (x2 : Int32) (x3 : Int32) (x4 : Int32) : Prop := (¬ x2 = 0 → K x4 S) ∧ (x2 = 0 → K x3 S)
def B_X7_bestBits_81 (R38 : Mem → Int32 → Int32 → Int32 → Int32 → Int32 → Prop) (K : Int32 → Mem → Prop) (S : Mem) (x1 : Int32) (x2 : Int32) (x3 : Int32) (x5 : Int32) (y0 : Int32) : Prop := R38 S x1 x2 x3 y0 (x5 + (1 : Int32))
def B_X7_bestBits_66 (R38 : Mem → Int32 → Int32 → Int32 → Int32 → Int32 → Prop) (K : Int32 → Mem → Prop) (S : Mem) (x1 : Int32) (x2 : Int32) (x4 : Int32) (x5 : Int32) (x6 : Int32) (y0 : Int32) : Prop := (x4 ≤ x6 → B_X7_bestBits_81 R38 K S x1 x2 y0 x5 x4) ∧ (¬ x4 ≤ x6 → B_X7_bestBits_81 R38 K S x1 x2 y0 x5 x6)
def B_X7_bestBits_38 (K : Int32 → Mem → Prop) : Nat → Mem → Int32 → Int32 → Int32 → Int32 → Int32 → Prop
  | 0, _, _, _, _, _, _ => False
  | n + 1, S, x1, x2, x3, x4, x5 => ((4 : Int32) < x5 → B_X7_bestBits_89 K S x2 x3 x4) ∧ (¬ (4 : Int32) < x5 → (P_X7_writtenBy S x1 x5 (fun r8 S7 => (x4 ≤ r8 → B_X7_bestBits_66 (fun S x1 x2 x3 x4 x5 => B_X7_bestBits_38 K n S x1 x2 x3 x4 x5) K S7 x1 x2 x4 x5 r8 x3) ∧ (¬ x4 ≤ r8 → B_X7_bestBits_66 (fun S x1 x2 x3 x4 x5 => B_X7_bestBits_38 K n S x1 x2 x3 x4 x5) K S7 x1 x2 x4 x5 r8 x5))))
def P_X7_bestBits (S : Mem) (a1 : Int32) (a2 : Int32) (K : Int32 → Mem → Prop) : Prop := (P_X7_in S (Int32.toInt64 a1) (1 : Int64) (12 : Int64) (fun r2 S1 => (r2 = 0 → K (-1000001 : Int32) S1) ∧ (¬ r2 = 0 → (P_X7_in S1 (Int32.toInt64 a2) (0 : Int64) (1 : Int64) (fun r4 S3 => (¬ r4 = 0 → (P_X7_writtenBy S3 a1 (1 : Int32) (fun r6 S5 => ∃ n9, B_X7_bestBits_38 K n9 S5 a1 a2 (1 : Int32) r6 (2 : Int32)))) ∧ (r4 = 0 → K (-1000001 : Int32) S3))))))
def B_X7_enough_2 (K : Int32 → Mem → Prop) : Nat → Mem → Int32 → Prop
  | 0, _, _ => False
  | n + 1, S, x1 => ((12 : Int32) < x1 → K (-1000004 : Int32) S) ∧ (¬ (12 : Int32) < x1 → (vp_in (2 : Int32) 204 ∧ (P_X7_run S x1 (S 54 (Int32.toNatClampNeg (2 : Int32))) (fun S1 => (¬ (S1 53 10) = 0 → B_X7_enough_2 K n S1 (x1 + (1 : Int32))) ∧ ((S1 53 10) = 0 → K x1 S1)))))
def P_X7_enough (S : Mem) (K : Int32 → Mem → Prop) : Prop := ∃ n3, B_X7_enough_2 K n3 S (1 : Int32)
def B_X7_rowsIn_43 (R4 : Mem → Int32 → Int32 → Int32 → Prop) (K : Int32 → Mem → Prop) (S : Mem) (x1 : Int32) (x3 : Int32) (y0 : Int32) (y1 : Int32) : Prop := R4 S x1 (y1 + y0) (x3 + (1 : Int32))
def B_X7_rowsIn_4 (K : Int32 → Mem → Prop) : Nat → Mem → Int32 → Int32 → Int32 → Prop
  | 0, _, _, _, _ => False
  | n + 1, S, x1, x2, x3 => (vp_in (0 : Int32) 204 ∧ ((S 54 (Int32.toNatClampNeg (0 : Int32))) ≤ x3 → K x2 S) ∧ (¬ (S 54 (Int32.toNatClampNeg (0 : Int32))) ≤ x3 → (vp_in ((4 : Int32) + x3) 204 ∧ (vp_in (2 : Int32) 204 ∧ (P_X7_partOf S (S 54 (Int32.toNatClampNeg ((4 : Int32) + x3))) (0 : Int32) (S 54 (Int32.toNatClampNeg (2 : Int32))) (fun r2 S1 => (¬ r2 = x1 → B_X7_rowsIn_43 (fun S x1 x2 x3 => B_X7_rowsIn_4 K n S x1 x2 x3) K S1 x1 x3 (0 : Int32) x2) ∧ (r2 = x1 → B_X7_rowsIn_43 (fun S x1 x2 x3 => B_X7_rowsIn_4 K n S x1 x2 x3) K S1 x1 x3 (1 : Int32) x2)))))))
def P_X7_rowsIn (S : Mem) (a1 : Int32) (K : Int32 → Mem → Prop) : Prop := ∃ n3, B_X7_rowsIn_4 K n3 S a1 (0 : Int32) (0 : Int32)
def B_X7_isFirst_37 (R4 : Mem → Int32 → Int32 → Int32 → Prop) (K : Int32 → Mem → Prop) (S : Mem) (x1 : Int32) (x3 : Int32) (y0 : Int32) : Prop := R4 S x1 y0 (x3 + (1 : Int32))
def B_X7_isFirst_36 (R4 : Mem → Int32 → Int32 → Int32 → Prop) (K : Int32 → Mem → Prop) (S : Mem) (x1 : Int32) (x3 : Int32) : Prop := B_X7_isFirst_37 R4 K S x1 x3 (0 : Int32)
def B_X7_isFirst_4 (K : Int32 → Mem → Prop) : Nat → Mem → Int32 → Int32 → Int32 → Prop
  | 0, _, _, _, _ => False
  | n + 1, S, x1, x2, x3 => (x1 ≤ x3 → (vp_bool x2 ∧ K x2 S)) ∧ (¬ x1 ≤ x3 → (x2 = 0 → B_X7_isFirst_36 (fun S x1 x2 x3 => B_X7_isFirst_4 K n S x1 x2 x3) K S x1 x3) ∧ (¬ x2 = 0 → (vp_in ((4 : Int32) + x3) 204 ∧ (vp_in ((4 : Int32) + x1) 204 ∧ ((S 54 (Int32.toNatClampNeg ((4 : Int32) + x3))) = (S 54 (Int32.toNatClampNeg ((4 : Int32) + x1))) → B_X7_isFirst_36 (fun S x1 x2 x3 => B_X7_isFirst_4 K n S x1 x2 x3) K S x1 x3) ∧ (¬ (S 54 (Int32.toNatClampNeg ((4 : Int32) + x3))) = (S 54 (Int32.toNatClampNeg ((4 : Int32) + x1))) → B_X7_isFirst_37 (fun S x1 x2 x3 => B_X7_isFirst_4 K n S x1 x2 x3) K S x1 x3 (1 : Int32))))))
def P_X7_isFirst (S : Mem) (a1 : Int32) (K : Int32 → Mem → Prop) : Prop := ∃ n1, B_X7_isFirst_4 K n1 S a1 (1 : Int32) (0 : Int32)
def B_X7_groupsIn_51 (R4 : Mem → Int32 → Int32 → Int32 → Prop) (K : Int32 → Mem → Prop) (S : Mem) (x1 : Int32) (x3 : Int32) (y0 : Int32) (y1 : Int32) : Prop := R4 S x1 (y1 + y0) (x3 + (1 : Int32))
def B_X7_groupsIn_50 (R4 : Mem → Int32 → Int32 → Int32 → Prop) (K : Int32 → Mem → Prop) (S : Mem) (x1 : Int32) (x3 : Int32) (y0 : Int32) : Prop := B_X7_groupsIn_51 R4 K S x1 x3 (0 : Int32) y0
def B_X7_groupsIn_4 (K : Int32 → Mem → Prop) : Nat → Mem → Int32 → Int32 → Int32 → Prop
  | 0, _, _, _, _ => False
  | n + 1, S, x1, x2, x3 => (vp_in (0 : Int32) 204 ∧ ((S 54 (Int32.toNatClampNeg (0 : Int32))) ≤ x3 → K x2 S) ∧ (¬ (S 54 (Int32.toNatClampNeg (0 : Int32))) ≤ x3 → (vp_in ((4 : Int32) + x3) 204 ∧ (vp_in (2 : Int32) 204 ∧ (P_X7_partOf S (S 54 (Int32.toNatClampNeg ((4 : Int32) + x3))) (0 : Int32) (S 54 (Int32.toNatClampNeg (2 : Int32))) (fun r2 S1 => (¬ r2 = x1 → B_X7_groupsIn_50 (fun S x1 x2 x3 => B_X7_groupsIn_4 K n S x1 x2 x3) K S1 x1 x3 x2) ∧ (r2 = x1 → (P_X7_isFirst S1 x3 (fun r4 S3 => (r4 = 0 → B_X7_groupsIn_50 (fun S x1 x2 x3 => B_X7_groupsIn_4 K n S x1 x2 x3) K S3 x1 x3 x2) ∧ (¬ r4 = 0 → B_X7_groupsIn_51 (fun S x1 x2 x3 => B_X7_groupsIn_4 K n S x1 x2 x3) K S3 x1 x3 (1 : Int32) x2))))))))))
def P_X7_groupsIn (S : Mem) (a1 : Int32) (K : Int32 → Mem → Prop) : Prop := ∃ n5, B_X7_groupsIn_4 K n5 S a1 (0 : Int32) (0 : Int32)
def B_X7_skewed_68 (K : Int32 → Mem → Prop) (S : Mem) (x1 : Int32) (x2 : Int32) : Prop := (¬ x1 = 0 → (¬ x1 = (1 : Int32) → (P_X7_groupsIn S x2 (fun r4 S3 => K r4 S3))) ∧ (x1 = (1 : Int32) → (P_X7_rowsIn S x2 (fun r6 S5 => K r6 S5)))) ∧ (x1 = 0 → K x2 S)
def B_X7_skewed_61 (R31 : Mem → Int32 → Int32 → Int32 → Prop) (K : Int32 → Mem → Prop) (S : Mem) (x1 : Int32) (x3 : Int32) (y0 : Int32) : Prop := R31 S x1 y0 (x3 + (1 : Int32))
def B_X7_skewed_31 (K : Int32 → Mem → Prop) : Nat → Mem → Int32 → Int32 → Int32 → Prop
  | 0, _, _, _, _ => False
  | n + 1, S, x1, x2, x3 => (vp_in (2 : Int32) 204 ∧ (((1 : Int32) <<< ((S 54 (Int32.toNatClampNeg (2 : Int32))) &&& 31)) ≤ x3 → B_X7_skewed_68 K S x1 x2) ∧ (¬ ((1 : Int32) <<< ((S 54 (Int32.toNatClampNeg (2 : Int32))) &&& 31)) ≤ x3 → (P_X7_rowsIn S x3 (fun r8 S7 => (P_X7_rowsIn S7 x2 (fun r10 S9 => (r8 ≤ r10 → B_X7_skewed_61 (fun S x1 x2 x3 => B_X7_skewed_31 K n S x1 x2 x3) K S9 x1 x3 x2) ∧ (¬ r8 ≤ r10 → B_X7_skewed_61 (fun S x1 x2 x3 => B_X7_skewed_31 K n S x1 x2 x3) K S9 x1 x3 x3)))))))
def P_X7_skewed (S : Mem) (a1 : Int32) (K : Int32 → Mem → Prop) : Prop := (P_X7_in S (Int32.toInt64 a1) (0 : Int64) (2 : Int64) (fun r2 S1 => (¬ r2 = 0 → (vp_in (0 : Int32) 204 ∧ (¬ (S1 54 (Int32.toNatClampNeg (0 : Int32))) = 0 → ∃ n11, B_X7_skewed_31 K n11 S1 a1 (0 : Int32) (1 : Int32)) ∧ ((S1 54 (Int32.toNatClampNeg (0 : Int32))) = 0 → K (-1000004 : Int32) S1))) ∧ (r2 = 0 → K (-1000001 : Int32) S1)))
def B_X7_count_54 (K : Int32 → Mem → Prop) (S : Mem) (x1 : Int32) (x2 : Int32) (x3 : Int32) : Prop := (x1 = (0 : Int32) → (vp_in (0 : Int32) 204 ∧ K (S 54 (Int32.toNatClampNeg (0 : Int32))) S)) ∧ (x1 = (1 : Int32) → K x2 S) ∧ (x1 = (2 : Int32) → K x3 S) ∧ (x1 = (3 : Int32) → K (S 53 2) S) ∧ (x1 = (4 : Int32) → K (S 53 22) S) ∧ (¬ x1 = (0 : Int32) ∧ ¬ x1 = (1 : Int32) ∧ ¬ x1 = (2 : Int32) ∧ ¬ x1 = (3 : Int32) ∧ ¬ x1 = (4 : Int32) → (P_X7_in S (Int32.toInt64 x1) (20 : Int64) (22 : Int64) (fun r2 S1 => (r2 = 0 → K (-1000001 : Int32) S1) ∧ (¬ r2 = 0 → (vp_in (((1 : Int32) + x1) - (20 : Int32)) 204 ∧ K (S1 54 (Int32.toNatClampNeg (((1 : Int32) + x1) - (20 : Int32)))) S1)))))
def B_X7_count_46 (R7 : Mem → Int32 → Int32 → Int32 → Int32 → Prop) (K : Int32 → Mem → Prop) (S : Mem) (x1 : Int32) (x2 : Int32) (x4 : Int32) (y0 : Int32) (y1 : Int32) : Prop := R7 S x1 x2 (y1 + y0) (x4 + (1 : Int32))
def B_X7_count_7 (K : Int32 → Mem → Prop) : Nat → Mem → Int32 → Int32 → Int32 → Int32 → Prop
  | 0, _, _, _, _, _ => False
  | n + 1, S, x1, x2, x3, x4 => (vp_in (0 : Int32) 204 ∧ ((S 54 (Int32.toNatClampNeg (0 : Int32))) ≤ x4 → B_X7_count_54 K S x1 x2 x3) ∧ (¬ (S 54 (Int32.toNatClampNeg (0 : Int32))) ≤ x4 → (vp_in ((104 : Int32) + x4) 204 ∧ (P_X7_isFirst S x4 (fun r4 S3 => (r4 = 0 → B_X7_count_46 (fun S x1 x2 x3 x4 => B_X7_count_7 K n S x1 x2 x3 x4) K S3 x1 (x2 + (S 54 (Int32.toNatClampNeg ((104 : Int32) + x4)))) x4 (0 : Int32) x3) ∧ (¬ r4 = 0 → B_X7_count_46 (fun S x1 x2 x3 x4 => B_X7_count_7 K n S x1 x2 x3 x4) K S3 x1 (x2 + (S 54 (Int32.toNatClampNeg ((104 : Int32) + x4)))) x4 (1 : Int32) x3))))))
def P_X7_count (S : Mem) (a1 : Int32) (K : Int32 → Mem → Prop) : Prop := ∃ n5, B_X7_count_7 K n5 S a1 (0 : Int32) (0 : Int32) (0 : Int32)
def B_X7_undo_22 (K : Int32 → Mem → Prop) : Nat → Mem → Int32 → Prop
  | 0, _, _ => False
  | n + 1, S, x1 => ((204 : Int32) ≤ x1 → K (S 53 2) S) ∧ (¬ (204 : Int32) ≤ x1 → (vp_in (((204 : Int32) * (S 53 2)) + x1) 816 ∧ (vp_in x1 204 ∧ ∀ S2 : Mem, S2 = mput S 54 (Int32.toNatClampNeg x1) (S 55 (Int32.toNatClampNeg (((204 : Int32) * (S 53 2)) + x1))) → B_X7_undo_22 K n S2 (x1 + (1 : Int32)))))
def P_X7_undo (S : Mem) (K : Int32 → Mem → Prop) : Prop := (¬ (S 53 2) = 0 → (∀ S1 : Mem, S1 = mput S 53 2 ((S 53 2) - (1 : Int32)) → ∃ n3, B_X7_undo_22 K n3 S1 (0 : Int32))) ∧ ((S 53 2) = 0 → K (-1000002 : Int32) S)
def P_X7_type (S : Mem) (a1 : Int32) (K : Int32 → Mem → Prop) : Prop := (P_X7_in S (Int32.toInt64 a1) (32 : Int64) (126 : Int64) (fun r2 S1 => (¬ r2 = 0 → (¬ (S1 53 22) = (60 : Int32) → (vp_in (S1 53 22) 60 ∧ ∀ S3 : Mem, S3 = mput S1 65 (Int32.toNatClampNeg (S1 53 22)) a1 → (∀ S4 : Mem, S4 = mput S3 53 22 ((S3 53 22) + (1 : Int32)) → K (S4 53 22) S4))) ∧ ((S1 53 22) = (60 : Int32) → K (-1000003 : Int32) S1)) ∧ (r2 = 0 → K (-1000001 : Int32) S1)))
def P_X7_clearText (S : Mem) (K : Int32 → Mem → Prop) : Prop := (∀ S1 : Mem, S1 = mput S 53 22 (0 : Int32) → K (S 53 22) S1)
def B_X7_takesOne_44 (K : Int32 → Mem → Prop) (S : Mem) (x2 : Int32) (y0 : Int32) (y1 : Int32) : Prop := (∀ S1 : Mem, S1 = mput S 53 24 (y1 + y0) → (vp_bool x2 ∧ K x2 S1))
def B_X7_takesOne_29 (K : Int32 → Mem → Prop) (S : Mem) (y0 : Int32) : Prop := (y0 = 0 → B_X7_takesOne_44 K S y0 (0 : Int32) (S 53 24)) ∧ (¬ y0 = 0 → B_X7_takesOne_44 K S y0 (1 : Int32) (S 53 24))
def B_X7_takesOne_28 (K : Int32 → Mem → Prop) (S : Mem) : Prop := B_X7_takesOne_29 K S (0 : Int32)
def P_X7_takesOne (S : Mem) (a1 : Int32) (K : Int32 → Mem → Prop) : Prop := ((S 53 22) ≤ (S 53 24) → B_X7_takesOne_28 K S) ∧ (¬ (S 53 22) ≤ (S 53 24) → (vp_in (S 53 24) 60 ∧ (¬ (S 65 (Int32.toNatClampNeg (S 53 24))) = a1 → B_X7_takesOne_28 K S) ∧ ((S 65 (Int32.toNatClampNeg (S 53 24))) = a1 → B_X7_takesOne_29 K S (1 : Int32))))
def B_X7_takesNumber_90 (K : Int32 → Mem → Prop) (S : Mem) (x2 : Int32) : Prop := ((S 53 24) ≤ x2 → K (0 : Int32) S) ∧ (¬ (S 53 24) ≤ x2 → K (1 : Int32) S)
def B_X7_takesNumber_10 (K : Int32 → Mem → Prop) : Nat → Mem → Int32 → Int32 → Prop
  | 0, _, _, _ => False
  | n + 1, S, x1, x2 => ((S 53 22) ≤ (S 53 24) → B_X7_takesNumber_90 K S x2) ∧ (¬ (S 53 22) ≤ (S 53 24) → ((x2 + x1) ≤ (S 53 24) → B_X7_takesNumber_90 K S x2) ∧ (¬ (x2 + x1) ≤ (S 53 24) → (vp_in (S 53 24) 60 ∧ (P_X7_in S (Int32.toInt64 (S 65 (Int32.toNatClampNeg (S 53 24)))) (48 : Int64) (57 : Int64) (fun r3 S2 => (r3 = 0 → B_X7_takesNumber_90 K S2 x2) ∧ (¬ r3 = 0 → (vp_in (S2 53 24) 60 ∧ (∀ S4 : Mem, S4 = mput S2 53 27 ((((10 : Int32) * (S2 53 27)) + (S2 65 (Int32.toNatClampNeg (S2 53 24)))) - (48 : Int32)) → (∀ S5 : Mem, S5 = mput S4 53 24 ((S4 53 24) + (1 : Int32)) → B_X7_takesNumber_10 K n S5 x1 x2)))))))))
def P_X7_takesNumber (S : Mem) (a1 : Int32) (K : Int32 → Mem → Prop) : Prop := (∀ S1 : Mem, S1 = mput S 53 27 (0 : Int32) → ∃ n6, B_X7_takesNumber_10 K n6 S1 a1 (S 53 24))
def B_X7_readsRow_71 (K : Int32 → Mem → Prop) (S : Mem) (y0 : Int32) : Prop := (∀ S11 : Mem, S11 = mput S 53 26 y0 → (P_X7_takesOne S11 (59 : Int32) (fun r13 S12 => (vp_bool r13 ∧ K r13 S12))))
def P_X7_readsRow (S : Mem) (K : Int32 → Mem → Prop) : Prop := (∀ S1 : Mem, S1 = mput S 53 24 (S 53 23) → (P_X7_takesNumber S1 (4 : Int32) (fun r3 S2 => (¬ r3 = 0 → (∀ S4 : Mem, S4 = mput S2 53 25 (S2 53 27) → (P_X7_takesOne S4 (61 : Int32) (fun r6 S5 => (¬ r6 = 0 → (P_X7_takesOne S5 (45 : Int32) (fun r8 S7 => (P_X7_takesNumber S7 (3 : Int32) (fun r10 S9 => (¬ r10 = 0 → (r8 = 0 → B_X7_readsRow_71 K S9 (S9 53 27)) ∧ (¬ r8 = 0 → B_X7_readsRow_71 K S9 (-(S9 53 27)))) ∧ (r10 = 0 → K (0 : Int32) S9)))))) ∧ (r6 = 0 → K (0 : Int32) S5))))) ∧ (r3 = 0 → K (0 : Int32) S2))))
def B_X7_hasFault_56 (K : Int32 → Mem → Prop) (S : Mem) : Prop := (∀ S5 : Mem, S5 = mput S 53 28 (2 : Int32) → (vp_in (0 : Int32) 204 ∧ (∀ S6 : Mem, S6 = mput S5 53 29 ((100 : Int32) - (S5 54 (Int32.toNatClampNeg (0 : Int32)))) → K (1 : Int32) S6)))
def B_X7_hasFault_30 (K : Int32 → Mem → Prop) (S : Mem) : Prop := (∀ S7 : Mem, S7 = mput S 53 28 (1 : Int32) → (∀ S8 : Mem, S8 = mput S7 53 29 ((S7 53 24) - (S7 53 23)) → K (1 : Int32) S8))
def B_X7_hasFault_12 (K : Int32 → Mem → Prop) : Nat → Mem → Int32 → Prop
  | 0, _, _ => False
  | n + 1, S, x1 => ((S 53 22) ≤ (S 53 23) → K (0 : Int32) S) ∧ (¬ (S 53 22) ≤ (S 53 23) → (P_X7_readsRow S (fun r3 S2 => (¬ r3 = 0 → (¬ x1 = (100 : Int32) → (∀ S4 : Mem, S4 = mput S2 53 23 (S2 53 24) → B_X7_hasFault_12 K n S4 (x1 + (1 : Int32)))) ∧ (x1 = (100 : Int32) → B_X7_hasFault_56 K S2)) ∧ (r3 = 0 → B_X7_hasFault_30 K S2))))
def P_X7_hasFault (S : Mem) (K : Int32 → Mem → Prop) : Prop := (vp_in (0 : Int32) 204 ∧ (∀ S1 : Mem, S1 = mput S 53 23 (0 : Int32) → ∃ n9, B_X7_hasFault_12 K n9 S1 (S 54 (Int32.toNatClampNeg (0 : Int32)))))
def P_X7_fault (S : Mem) (a1 : Int32) (K : Int32 → Mem → Prop) : Prop := (P_X7_in S (Int32.toInt64 a1) (0 : Int64) (2 : Int64) (fun r2 S1 => (¬ r2 = 0 → (P_X7_hasFault S1 (fun r4 S3 => (¬ r4 = 0 → (¬ a1 = 0 → (¬ a1 = (1 : Int32) → K (S3 53 29) S3) ∧ (a1 = (1 : Int32) → K (S3 53 28) S3)) ∧ (a1 = 0 → K (S3 53 23) S3)) ∧ (r4 = 0 → K (-1000004 : Int32) S3)))) ∧ (r2 = 0 → K (-1000001 : Int32) S1)))
def B_X7_play_60 (K : Int32 → Mem → Prop) (S : Mem) : Prop := (vp_in (0 : Int32) 204 ∧ K (S 54 (Int32.toNatClampNeg (0 : Int32))) S)
def B_X7_play_19 (K : Int32 → Mem → Prop) : Nat → Mem → Prop
  | 0, _ => False
  | n + 1, S => ((S 53 22) ≤ (S 53 23) → B_X7_play_60 K S) ∧ (¬ (S 53 22) ≤ (S 53 23) → (P_X7_readsRow S (fun r7 S6 => (r7 = 0 → B_X7_play_60 K S6) ∧ (¬ r7 = 0 → (P_X7_adds S6 (S6 53 25) (S6 53 26) (fun S8 => (∀ S10 : Mem, S10 = mput S8 53 23 (S8 53 24) → B_X7_play_19 K n S10)))))))
def P_X7_play (S : Mem) (K : Int32 → Mem → Prop) : Prop := (P_X7_hasFault S (fun r2 S1 => (r2 = 0 → (P_X7_record S1 (fun S3 => (∀ S5 : Mem, S5 = mput S3 53 23 (0 : Int32) → ∃ n11, B_X7_play_19 K n11 S5)))) ∧ (¬ r2 = 0 → K (-1000002 : Int32) S1)))
end
section
theorem inX7 : ∀ w ∈ u_ws RX7 TX7 30, w ∈ TB := by decide +kernel
theorem inX6 : ∀ w ∈ u_ws RX6 TX6 6, w ∈ TB := by decide +kernel
theorem inX5 : ∀ w ∈ u_ws RX5 TX5 6, w ∈ TB := by decide +kernel
theorem inX4 : ∀ w ∈ u_ws RX4 TX4 4, w ∈ TB := by decide +kernel
theorem inX3 : ∀ w ∈ u_ws RX3 TX3 2, w ∈ TB := by decide +kernel
theorem inX2 : ∀ w ∈ u_ws RX2 TX2 12, w ∈ TB := by decide +kernel
theorem inX1 : ∀ w ∈ u_ws RX1 TX1 3, w ∈ TB := by decide +kernel
theorem inX0 : ∀ w ∈ u_ws RX0 TX0 2, w ∈ TB := by decide +kernel
theorem eX4_shorten : XE yX4_shorten cX4_shorten 2 none 1 := ⟨q_268, q_266, q_267, q_3, by decide +kernel⟩
theorem eX4_length : XE yX4_length cX4_length 1 (some .int) 0 := ⟨q_219, q_217, q_218, q_3, by decide +kernel⟩
theorem eX4_at : XE yX4_at cX4_at 3 (some .int) 2 := ⟨q_284, q_282, q_283, q_3, by decide +kernel⟩
theorem eX3_keyOf : XE yX3_keyOf cX3_keyOf 2 (some .int) 1 := ⟨q_294, q_292, q_293, q_2, by decide +kernel⟩
theorem eX3_valueOf : XE yX3_valueOf cX3_valueOf 2 (some .int) 1 := ⟨q_298, q_296, q_297, q_2, by decide +kernel⟩
theorem eX3_setting : XE yX3_setting cX3_setting 2 (some .int) 1 := ⟨q_280, q_278, q_279, q_2, by decide +kernel⟩
theorem eX3_hashOf : XE yX3_hashOf cX3_hashOf 2 (some .int) 1 := ⟨q_302, q_300, q_301, q_2, by decide +kernel⟩
theorem eX4_placeOf : XE yX4_placeOf cX4_placeOf 4 (some .int) 1 := ⟨q_334, q_332, q_333, q_3, by decide +kernel⟩
theorem eJ7_rangeCheck_23922 : XEs yJ7_rangeCheck_23922 cJ7_rangeCheck_23922 3 none 3 := ⟨q_58, q_57, q_5, by decide +kernel⟩
theorem eJ7_fill_fda19 : XEs yJ7_fill_fda19 cJ7_fill_fda19 5 none 4 := ⟨q_55, q_54, q_5, by decide +kernel⟩
theorem eX4_insert : XE yX4_insert cX4_insert 4 none 2 := ⟨q_339, q_337, q_338, q_3, by decide +kernel⟩
theorem eX4_put : XE yX4_put cX4_put 4 none 3 := ⟨q_251, q_249, q_250, q_3, by decide +kernel⟩
theorem eX4_raise : XE yX4_raise cX4_raise 4 none 3 := ⟨q_344, q_342, q_343, q_3, by decide +kernel⟩
theorem eX0_addRow : XE yX0_addRow cX0_addRow 5 none 3 := ⟨q_330, q_329, List.mem_filter.mpr ⟨List.mem_append_left _ (List.mem_of_getElem? (i := 4) (by decide +kernel)), rfl⟩, q_7, by decide +kernel⟩
theorem eX4_append : XE yX4_append cX4_append 3 (some .int) 1 := ⟨q_52, q_50, q_51, q_3, by decide +kernel⟩
theorem eX0_gather : XE yX0_gather cX0_gather 3 none 1 := ⟨q_321, q_319, q_320, q_7, by decide +kernel⟩
theorem eX1_length : XE yX1_length cX1_length 1 (some .int) 0 := ⟨q_500, q_498, q_499, q_6, by decide +kernel⟩
theorem eX1_stateAt : XE yX1_stateAt cX1_stateAt 3 (some (.object "SpilledGroups$State")) 1 := ⟨q_232, q_231, List.mem_filter.mpr ⟨List.mem_append_left _ (List.mem_of_getElem? (i := 1) (by decide +kernel)), rfl⟩, q_6, by decide +kernel⟩
theorem eX4_copyFrom : XE yX4_copyFrom cX4_copyFrom 2 none 1 := ⟨q_240, q_238, q_239, q_3, by decide +kernel⟩
theorem eX3_copyFrom : XE yX3_copyFrom cX3_copyFrom 2 none 1 := ⟨q_236, q_234, q_235, q_2, by decide +kernel⟩
theorem eX1_keep : XE yX1_keep cX1_keep 3 none 1 := ⟨q_228, q_226, q_227, q_6, by decide +kernel⟩
theorem eX1_restore : XE yX1_restore cX1_restore 3 none 1 := ⟨q_508, q_506, q_507, q_6, by decide +kernel⟩
theorem eX2_forget : XE yX2_forget cX2_forget 1 none 0 := ⟨q_353, q_351, q_352, q_8, by decide +kernel⟩
theorem eX4_reset : XE yX4_reset cX4_reset 2 none 1 := ⟨q_368, q_366, q_367, q_3, by decide +kernel⟩
theorem eX2_prefixOf : XE yX2_prefixOf cX2_prefixOf 3 (some .int) 2 := ⟨q_381, q_380, List.mem_filter.mpr ⟨List.mem_append_left _ (List.mem_of_getElem? (i := 7) (by decide +kernel)), rfl⟩, q_8, by decide +kernel⟩
theorem eX2_partOf : XE yX2_partOf cX2_partOf 4 (some .int) 2 := ⟨q_389, q_388, List.mem_filter.mpr ⟨List.mem_append_left _ (List.mem_of_getElem? (i := 9) (by decide +kernel)), rfl⟩, q_8, by decide +kernel⟩
theorem eX2_isSpilled : XE yX2_isSpilled cX2_isSpilled 3 (some .boolean) 2 := ⟨q_393, q_392, List.mem_filter.mpr ⟨List.mem_append_left _ (List.mem_of_getElem? (i := 10) (by decide +kernel)), rfl⟩, q_8, by decide +kernel⟩
theorem eX2_isHeld : XE yX2_isHeld cX2_isHeld 3 (some .boolean) 1 := ⟨q_397, q_396, List.mem_filter.mpr ⟨List.mem_append_left _ (List.mem_of_getElem? (i := 11) (by decide +kernel)), rfl⟩, q_8, by decide +kernel⟩
theorem eX2_needsSpill : XE yX2_needsSpill cX2_needsSpill 4 (some .boolean) 3 := ⟨q_385, q_384, List.mem_filter.mpr ⟨List.mem_append_left _ (List.mem_of_getElem? (i := 8) (by decide +kernel)), rfl⟩, q_8, by decide +kernel⟩
theorem eX2_fullestPart : XE yX2_fullestPart cX2_fullestPart 3 (some .int) 0 := ⟨q_402, q_401, List.mem_filter.mpr ⟨List.mem_append_left _ (List.mem_of_getElem? (i := 12) (by decide +kernel)), rfl⟩, q_8, by decide +kernel⟩
theorem eX2_spillPart : XE yX2_spillPart cX2_spillPart 7 none 2 := ⟨q_406, q_405, List.mem_filter.mpr ⟨List.mem_append_left _ (List.mem_of_getElem? (i := 13) (by decide +kernel)), rfl⟩, q_8, by decide +kernel⟩
theorem eX2_layGroup : XE yX2_layGroup cX2_layGroup 4 none 3 := ⟨q_415, q_414, List.mem_filter.mpr ⟨List.mem_append_left _ (List.mem_of_getElem? (i := 15) (by decide +kernel)), rfl⟩, q_8, by decide +kernel⟩
theorem eX2_takeItem : XE yX2_takeItem cX2_takeItem 5 none 3 := ⟨q_411, q_410, List.mem_filter.mpr ⟨List.mem_append_left _ (List.mem_of_getElem? (i := 14) (by decide +kernel)), rfl⟩, q_8, by decide +kernel⟩
theorem eX2_finishMemory : XE yX2_finishMemory cX2_finishMemory 6 none 3 := ⟨q_421, q_420, List.mem_filter.mpr ⟨List.mem_append_left _ (List.mem_of_getElem? (i := 16) (by decide +kernel)), rfl⟩, q_8, by decide +kernel⟩
theorem eX2_runFiles : XE yX2_runFiles cX2_runFiles 6 none 4 := ⟨q_425, q_424, List.mem_filter.mpr ⟨List.mem_append_left _ (List.mem_of_getElem? (i := 17) (by decide +kernel)), rfl⟩, q_8, by decide +kernel⟩
theorem eX2_runPass : XE yX2_runPass cX2_runPass 8 none 3 := ⟨q_374, q_373, List.mem_filter.mpr ⟨List.mem_append_left _ (List.mem_of_getElem? (i := 6) (by decide +kernel)), rfl⟩, q_8, by decide +kernel⟩
theorem eX2_run : XE yX2_run cX2_run 3 none 2 := ⟨q_362, q_360, q_361, q_8, by decide +kernel⟩
theorem eX2_find : XE yX2_find cX2_find 4 (some .int) 2 := ⟨q_437, q_435, q_436, q_8, by decide +kernel⟩
theorem eX4_sumOf : XE yX4_sumOf cX4_sumOf 4 (some .int) 1 := ⟨q_453, q_451, q_452, q_3, by decide +kernel⟩
theorem eX2_itemsFiled : XE yX2_itemsFiled cX2_itemsFiled 1 (some .int) 0 := ⟨q_449, q_447, q_448, q_8, by decide +kernel⟩
theorem eX2_itemsRead : XE yX2_itemsRead cX2_itemsRead 1 (some .int) 0 := ⟨q_458, q_456, q_457, q_8, by decide +kernel⟩
theorem eX3_addRow : XE yX3_addRow cX3_addRow 3 none 2 := ⟨q_247, q_245, q_246, q_2, by decide +kernel⟩
theorem eX4_remove : XE yX4_remove cX4_remove 3 none 1 := ⟨q_260, q_258, q_259, q_3, by decide +kernel⟩
theorem eX4_greatestOf : XE yX4_greatestOf cX4_greatestOf 4 (some .int) 1 := ⟨q_462, q_460, q_461, q_3, by decide +kernel⟩
theorem eX6_isOutside : XEs yX6_isOutside cX6_isOutside 3 (some .boolean) 3 := ⟨q_214, q_213, q_1, by decide +kernel⟩
theorem eX5_readNumber : XE yX5_readNumber cX5_readNumber 5 (some .int) 1 := ⟨q_535, q_534, List.mem_filter.mpr ⟨List.mem_append_left _ (List.mem_of_getElem? (i := 22) (by decide +kernel)), rfl⟩, q_9, by decide +kernel⟩
theorem eX5_readSign : XE yX5_readSign cX5_readSign 2 (some .boolean) 1 := ⟨q_542, q_541, List.mem_filter.mpr ⟨List.mem_append_left _ (List.mem_of_getElem? (i := 23) (by decide +kernel)), rfl⟩, q_9, by decide +kernel⟩
theorem eX5_readRow : XE yX5_readRow cX5_readRow 4 (some .boolean) 0 := ⟨q_531, q_530, List.mem_filter.mpr ⟨List.mem_append_left _ (List.mem_of_getElem? (i := 21) (by decide +kernel)), rfl⟩, q_9, by decide +kernel⟩
theorem eX5_read : XE yX5_read cX5_read 3 none 1 := ⟨q_525, q_523, q_524, q_9, by decide +kernel⟩
theorem eX6_beginChange : XE yX6_beginChange cX6_beginChange 1 none 0 := ⟨q_224, q_223, List.mem_filter.mpr ⟨List.mem_append_left _ (List.mem_of_getElem? (i := 0) (by decide +kernel)), rfl⟩, q_1, by decide +kernel⟩
theorem eX6_row : XE yX6_row cX6_row 3 (some .int) 2 := ⟨q_211, q_209, q_210, q_1, by decide +kernel⟩
theorem eX6_drop : XE yX6_drop cX6_drop 2 (some .int) 1 := ⟨q_255, q_253, q_254, q_1, by decide +kernel⟩
theorem eX6_clear : XE yX6_clear cX6_clear 2 (some .int) 0 := ⟨q_264, q_262, q_263, q_1, by decide +kernel⟩
theorem eX6_isSettingValue : XEs yX6_isSettingValue cX6_isSettingValue 2 (some .boolean) 2 := ⟨q_275, q_274, q_1, by decide +kernel⟩
theorem eX6_set : XE yX6_set cX6_set 4 (some .int) 2 := ⟨q_272, q_270, q_271, q_1, by decide +kernel⟩
theorem eX6_firstPart : XE yX6_firstPart cX6_firstPart 2 (some .int) 1 := ⟨q_309, q_308, List.mem_filter.mpr ⟨List.mem_append_left _ (List.mem_of_getElem? (i := 2) (by decide +kernel)), rfl⟩, q_1, by decide +kernel⟩
theorem eX6_rowOf : XE yX6_rowOf cX6_rowOf 3 (some .int) 2 := ⟨q_289, q_287, q_288, q_1, by decide +kernel⟩
theorem eX6_groupsNow : XE yX6_groupsNow cX6_groupsNow 1 (some (.object "SpilledGroups$Groups")) 0 := ⟨q_317, q_316, List.mem_filter.mpr ⟨List.mem_append_left _ (List.mem_of_getElem? (i := 3) (by decide +kernel)), rfl⟩, q_1, by decide +kernel⟩
theorem eX6_passesNow : XE yX6_passesNow cX6_passesNow 1 (some (.object "SpilledGroups$Passes")) 0 := ⟨q_358, q_357, List.mem_filter.mpr ⟨List.mem_append_left _ (List.mem_of_getElem? (i := 5) (by decide +kernel)), rfl⟩, q_1, by decide +kernel⟩
theorem eX6_groupOf : XE yX6_groupOf cX6_groupOf 3 (some .int) 2 := ⟨q_313, q_311, q_312, q_1, by decide +kernel⟩
theorem eX6_finished : XE yX6_finished cX6_finished 3 (some .int) 1 := ⟨q_429, q_427, q_428, q_1, by decide +kernel⟩
theorem eX6_passOf : XE yX6_passOf cX6_passOf 5 (some .int) 3 := ⟨q_433, q_431, q_432, q_1, by decide +kernel⟩
theorem eX6_spillOf : XE yX6_spillOf cX6_spillOf 4 (some .int) 2 := ⟨q_441, q_439, q_440, q_1, by decide +kernel⟩
theorem eX6_total : XE yX6_total cX6_total 3 (some .int) 1 := ⟨q_445, q_443, q_444, q_1, by decide +kernel⟩
theorem eX6_passesBy : XE yX6_passesBy cX6_passesBy 3 (some (.object "SpilledGroups$Passes")) 2 := ⟨q_470, q_469, List.mem_filter.mpr ⟨List.mem_append_left _ (List.mem_of_getElem? (i := 18) (by decide +kernel)), rfl⟩, q_1, by decide +kernel⟩
theorem eX6_written : XE yX6_written cX6_written 3 (some .int) 2 := ⟨q_466, q_464, q_465, q_1, by decide +kernel⟩
theorem eX6_bestBits : XE yX6_bestBits cX6_bestBits 7 (some .int) 2 := ⟨q_474, q_472, q_473, q_1, by decide +kernel⟩
theorem eX6_enough : XE yX6_enough cX6_enough 2 (some .int) 0 := ⟨q_478, q_476, q_477, q_1, by decide +kernel⟩
theorem eX6_rowsInPart : XE yX6_rowsInPart cX6_rowsInPart 4 (some .int) 1 := ⟨q_487, q_486, List.mem_filter.mpr ⟨List.mem_append_left _ (List.mem_of_getElem? (i := 19) (by decide +kernel)), rfl⟩, q_1, by decide +kernel⟩
theorem eX6_groupsInPart : XE yX6_groupsInPart cX6_groupsInPart 5 (some .int) 1 := ⟨q_491, q_490, List.mem_filter.mpr ⟨List.mem_append_left _ (List.mem_of_getElem? (i := 20) (by decide +kernel)), rfl⟩, q_1, by decide +kernel⟩
theorem eX6_skewed : XE yX6_skewed cX6_skewed 6 (some .int) 1 := ⟨q_483, q_481, q_482, q_1, by decide +kernel⟩
theorem eX6_count : XE yX6_count cX6_count 2 (some .int) 1 := ⟨q_495, q_493, q_494, q_1, by decide +kernel⟩
theorem eX6_undo : XE yX6_undo cX6_undo 1 (some .int) 0 := ⟨q_504, q_502, q_503, q_1, by decide +kernel⟩
theorem eX6_type : XE yX6_type cX6_type 2 (some .int) 1 := ⟨q_512, q_510, q_511, q_1, by decide +kernel⟩
theorem eX6_clearText : XE yX6_clearText cX6_clearText 2 (some .int) 0 := ⟨q_517, q_515, q_516, q_1, by decide +kernel⟩
theorem eX6_fault : XE yX6_fault cX6_fault 2 (some .int) 1 := ⟨q_521, q_519, q_520, q_1, by decide +kernel⟩
theorem eX6_play : XE yX6_play cX6_play 2 (some .int) 0 := ⟨q_548, q_546, q_547, q_1, by decide +kernel⟩
theorem eX7_in : XEs yX7_in cX7_in 6 (some .boolean) 3 := ⟨q_657, q_656, q_10, by decide +kernel⟩
theorem eX7_record : XE yX7_record cX7_record 2 none 0 := ⟨q_665, q_664, List.mem_filter.mpr ⟨List.mem_append_left _ (List.mem_of_getElem? (i := 24) (by decide +kernel)), rfl⟩, q_10, by decide +kernel⟩
theorem eX7_isRow : XEs yX7_isRow cX7_isRow 2 (some .boolean) 2 := ⟨q_653, q_652, q_10, by decide +kernel⟩
theorem eX7_adds : XE yX7_adds cX7_adds 3 none 2 := ⟨q_669, q_668, List.mem_filter.mpr ⟨List.mem_append_left _ (List.mem_of_getElem? (i := 25) (by decide +kernel)), rfl⟩, q_10, by decide +kernel⟩
theorem eX7_row : XE yX7_row cX7_row 3 (some .int) 2 := ⟨q_650, q_648, q_649, q_10, by decide +kernel⟩
theorem eX7_drop : XE yX7_drop cX7_drop 3 (some .int) 1 := ⟨q_673, q_671, q_672, q_10, by decide +kernel⟩
theorem eX7_clear : XE yX7_clear cX7_clear 2 (some .int) 0 := ⟨q_678, q_676, q_677, q_10, by decide +kernel⟩
theorem eX7_set : XE yX7_set cX7_set 5 (some .int) 2 := ⟨q_682, q_680, q_681, q_10, by decide +kernel⟩
theorem eX7_hashOf : XE yX7_hashOf cX7_hashOf 2 (some .int) 1 := ⟨q_695, q_694, List.mem_filter.mpr ⟨List.mem_append_left _ (List.mem_of_getElem? (i := 26) (by decide +kernel)), rfl⟩, q_10, by decide +kernel⟩
theorem eX7_partOf : XE yX7_partOf cX7_partOf 4 (some .int) 3 := ⟨q_700, q_699, List.mem_filter.mpr ⟨List.mem_append_left _ (List.mem_of_getElem? (i := 27) (by decide +kernel)), rfl⟩, q_10, by decide +kernel⟩
theorem eX7_rowOf : XE yX7_rowOf cX7_rowOf 4 (some .int) 2 := ⟨q_689, q_687, q_688, q_10, by decide +kernel⟩
theorem eX7_makes : XE yX7_makes cX7_makes 7 (some .int) 5 := ⟨q_717, q_716, List.mem_filter.mpr ⟨List.mem_append_left _ (List.mem_of_getElem? (i := 30) (by decide +kernel)), rfl⟩, q_10, by decide +kernel⟩
theorem eX7_of : XE yX7_of cX7_of 3 (some .int) 2 := ⟨q_725, q_724, List.mem_filter.mpr ⟨List.mem_append_left _ (List.mem_of_getElem? (i := 32) (by decide +kernel)), rfl⟩, q_10, by decide +kernel⟩
theorem eX7_inMemory : XE yX7_inMemory cX7_inMemory 3 (some .int) 1 := ⟨q_745, q_744, List.mem_filter.mpr ⟨List.mem_append_left _ (List.mem_of_getElem? (i := 37) (by decide +kernel)), rfl⟩, q_10, by decide +kernel⟩
theorem eX7_addsTo : XE yX7_addsTo cX7_addsTo 3 none 2 := ⟨q_749, q_748, List.mem_filter.mpr ⟨List.mem_append_left _ (List.mem_of_getElem? (i := 38) (by decide +kernel)), rfl⟩, q_10, by decide +kernel⟩
theorem eX7_laysGroup : XE yX7_laysGroup cX7_laysGroup 4 none 1 := ⟨q_765, q_764, List.mem_filter.mpr ⟨List.mem_append_left _ (List.mem_of_getElem? (i := 42) (by decide +kernel)), rfl⟩, q_10, by decide +kernel⟩
theorem eX7_takesOut : XE yX7_takesOut cX7_takesOut 3 none 1 := ⟨q_761, q_760, List.mem_filter.mpr ⟨List.mem_append_left _ (List.mem_of_getElem? (i := 41) (by decide +kernel)), rfl⟩, q_10, by decide +kernel⟩
theorem eX7_last : XE yX7_last cX7_last 2 (some .int) 1 := ⟨q_737, q_736, List.mem_filter.mpr ⟨List.mem_append_left _ (List.mem_of_getElem? (i := 35) (by decide +kernel)), rfl⟩, q_10, by decide +kernel⟩
theorem eX7_counts : XE yX7_counts cX7_counts 2 none 1 := ⟨q_729, q_728, List.mem_filter.mpr ⟨List.mem_append_left _ (List.mem_of_getElem? (i := 33) (by decide +kernel)), rfl⟩, q_10, by decide +kernel⟩
theorem eX7_writes : XE yX7_writes cX7_writes 3 none 2 := ⟨q_741, q_740, List.mem_filter.mpr ⟨List.mem_append_left _ (List.mem_of_getElem? (i := 36) (by decide +kernel)), rfl⟩, q_10, by decide +kernel⟩
theorem eX7_manyOf : XE yX7_manyOf cX7_manyOf 4 (some .int) 1 := ⟨q_757, q_756, List.mem_filter.mpr ⟨List.mem_append_left _ (List.mem_of_getElem? (i := 40) (by decide +kernel)), rfl⟩, q_10, by decide +kernel⟩
theorem eX7_spillsOne : XE yX7_spillsOne cX7_spillsOne 4 none 0 := ⟨q_753, q_752, List.mem_filter.mpr ⟨List.mem_append_left _ (List.mem_of_getElem? (i := 39) (by decide +kernel)), rfl⟩, q_10, by decide +kernel⟩
theorem eX7_takes : XE yX7_takes cX7_takes 6 (some .boolean) 1 := ⟨q_733, q_732, List.mem_filter.mpr ⟨List.mem_append_left _ (List.mem_of_getElem? (i := 34) (by decide +kernel)), rfl⟩, q_10, by decide +kernel⟩
theorem eX7_finishes : XE yX7_finishes cX7_finishes 3 none 0 := ⟨q_769, q_768, List.mem_filter.mpr ⟨List.mem_append_left _ (List.mem_of_getElem? (i := 43) (by decide +kernel)), rfl⟩, q_10, by decide +kernel⟩
theorem eX7_leavesFiles : XE yX7_leavesFiles cX7_leavesFiles 3 none 1 := ⟨q_773, q_772, List.mem_filter.mpr ⟨List.mem_append_left _ (List.mem_of_getElem? (i := 44) (by decide +kernel)), rfl⟩, q_10, by decide +kernel⟩
theorem eX7_doPass : XE yX7_doPass cX7_doPass 8 none 3 := ⟨q_721, q_720, List.mem_filter.mpr ⟨List.mem_append_left _ (List.mem_of_getElem? (i := 31) (by decide +kernel)), rfl⟩, q_10, by decide +kernel⟩
theorem eX7_run : XE yX7_run cX7_run 5 none 2 := ⟨q_713, q_712, List.mem_filter.mpr ⟨List.mem_append_left _ (List.mem_of_getElem? (i := 29) (by decide +kernel)), rfl⟩, q_10, by decide +kernel⟩
theorem eX7_runNow : XE yX7_runNow cX7_runNow 1 none 0 := ⟨q_709, q_708, List.mem_filter.mpr ⟨List.mem_append_left _ (List.mem_of_getElem? (i := 28) (by decide +kernel)), rfl⟩, q_10, by decide +kernel⟩
theorem eX7_groupOf : XE yX7_groupOf cX7_groupOf 6 (some .int) 2 := ⟨q_704, q_702, q_703, q_10, by decide +kernel⟩
theorem eX7_finished : XE yX7_finished cX7_finished 2 (some .int) 1 := ⟨q_777, q_775, q_776, q_10, by decide +kernel⟩
theorem eX7_passOf : XE yX7_passOf cX7_passOf 5 (some .int) 3 := ⟨q_781, q_779, q_780, q_10, by decide +kernel⟩
theorem eX7_spillOf : XE yX7_spillOf cX7_spillOf 3 (some .int) 2 := ⟨q_787, q_785, q_786, q_10, by decide +kernel⟩
theorem eX7_writtenInAll : XE yX7_writtenInAll cX7_writtenInAll 3 (some .int) 0 := ⟨q_795, q_794, List.mem_filter.mpr ⟨List.mem_append_left _ (List.mem_of_getElem? (i := 45) (by decide +kernel)), rfl⟩, q_10, by decide +kernel⟩
theorem eX7_readAgain : XE yX7_readAgain cX7_readAgain 3 (some .int) 0 := ⟨q_799, q_798, List.mem_filter.mpr ⟨List.mem_append_left _ (List.mem_of_getElem? (i := 46) (by decide +kernel)), rfl⟩, q_10, by decide +kernel⟩
theorem eX7_greatest : XE yX7_greatest cX7_greatest 4 (some .int) 1 := ⟨q_803, q_802, List.mem_filter.mpr ⟨List.mem_append_left _ (List.mem_of_getElem? (i := 47) (by decide +kernel)), rfl⟩, q_10, by decide +kernel⟩
theorem eX7_total : XE yX7_total cX7_total 2 (some .int) 1 := ⟨q_791, q_789, q_790, q_10, by decide +kernel⟩
theorem eX7_writtenBy : XE yX7_writtenBy cX7_writtenBy 3 (some .int) 2 := ⟨q_811, q_810, List.mem_filter.mpr ⟨List.mem_append_left _ (List.mem_of_getElem? (i := 48) (by decide +kernel)), rfl⟩, q_10, by decide +kernel⟩
theorem eX7_written : XE yX7_written cX7_written 3 (some .int) 2 := ⟨q_807, q_805, q_806, q_10, by decide +kernel⟩
theorem eX7_bestBits : XE yX7_bestBits cX7_bestBits 7 (some .int) 2 := ⟨q_815, q_813, q_814, q_10, by decide +kernel⟩
theorem eX7_enough : XE yX7_enough cX7_enough 2 (some .int) 0 := ⟨q_819, q_817, q_818, q_10, by decide +kernel⟩
theorem eX7_rowsIn : XE yX7_rowsIn cX7_rowsIn 4 (some .int) 1 := ⟨q_828, q_827, List.mem_filter.mpr ⟨List.mem_append_left _ (List.mem_of_getElem? (i := 49) (by decide +kernel)), rfl⟩, q_10, by decide +kernel⟩
theorem eX7_isFirst : XE yX7_isFirst cX7_isFirst 4 (some .boolean) 1 := ⟨q_836, q_835, List.mem_filter.mpr ⟨List.mem_append_left _ (List.mem_of_getElem? (i := 51) (by decide +kernel)), rfl⟩, q_10, by decide +kernel⟩
theorem eX7_groupsIn : XE yX7_groupsIn cX7_groupsIn 4 (some .int) 1 := ⟨q_832, q_831, List.mem_filter.mpr ⟨List.mem_append_left _ (List.mem_of_getElem? (i := 50) (by decide +kernel)), rfl⟩, q_10, by decide +kernel⟩
theorem eX7_skewed : XE yX7_skewed cX7_skewed 4 (some .int) 1 := ⟨q_823, q_821, q_822, q_10, by decide +kernel⟩
theorem eX7_count : XE yX7_count cX7_count 5 (some .int) 1 := ⟨q_840, q_838, q_839, q_10, by decide +kernel⟩
theorem eX7_undo : XE yX7_undo cX7_undo 2 (some .int) 0 := ⟨q_846, q_844, q_845, q_10, by decide +kernel⟩
theorem eX7_type : XE yX7_type cX7_type 2 (some .int) 1 := ⟨q_850, q_848, q_849, q_10, by decide +kernel⟩
theorem eX7_clearText : XE yX7_clearText cX7_clearText 2 (some .int) 0 := ⟨q_856, q_854, q_855, q_10, by decide +kernel⟩
theorem eX7_takesOne : XE yX7_takesOne cX7_takesOne 3 (some .boolean) 1 := ⟨q_878, q_877, List.mem_filter.mpr ⟨List.mem_append_left _ (List.mem_of_getElem? (i := 55) (by decide +kernel)), rfl⟩, q_10, by decide +kernel⟩
theorem eX7_takesNumber : XE yX7_takesNumber cX7_takesNumber 3 (some .boolean) 1 := ⟨q_872, q_871, List.mem_filter.mpr ⟨List.mem_append_left _ (List.mem_of_getElem? (i := 54) (by decide +kernel)), rfl⟩, q_10, by decide +kernel⟩
theorem eX7_readsRow : XE yX7_readsRow cX7_readsRow 2 (some .boolean) 0 := ⟨q_868, q_867, List.mem_filter.mpr ⟨List.mem_append_left _ (List.mem_of_getElem? (i := 53) (by decide +kernel)), rfl⟩, q_10, by decide +kernel⟩
theorem eX7_hasFault : XE yX7_hasFault cX7_hasFault 2 (some .boolean) 0 := ⟨q_864, q_863, List.mem_filter.mpr ⟨List.mem_append_left _ (List.mem_of_getElem? (i := 52) (by decide +kernel)), rfl⟩, q_10, by decide +kernel⟩
theorem eX7_fault : XE yX7_fault cX7_fault 2 (some .int) 1 := ⟨q_860, q_858, q_859, q_10, by decide +kernel⟩
theorem eX7_play : XE yX7_play cX7_play 1 (some .int) 0 := ⟨q_882, q_880, q_881, q_10, by decide +kernel⟩
theorem X_some {κ : Kx} {S : Mem} {pc : Nat} {lv : List (Nat × Value)} {st : List Value} {o : Nat} (kk : XW κ S pc lv (.ref (xad (kG κ) o) :: st)) : XW κ S pc lv (va_re (xad (kG κ)) (some o) :: st) := kk
section XMore
variable {κ : Kx} {own : String} {cc : ByteArray} {nl F N : Nat} {S : Mem} {pc : Nat} {lv lv' : List (Nat × Value)} {st : List Value}
theorem X_null (C : XC κ own cc nl F N) (hdg : decode cc pc = .ok (.aconst_null, 1)) (kk : XW κ S (pc + 1) lv (.null :: st)) : XW κ S pc lv st := fun H locs ls hP hS h => lv_null C.1 C.2.1 hdg (kk H locs ls hP hS h)
theorem X_storenull (C : XC κ own cc nl F N) {k : Fin 4} (i : Nat) (lv' : List (Nat × Value)) (hdg : decode cc pc = .ok (.astore_n k, 1)) (hi : (k : Nat) = i) (hn : i < nl) (hl : (i, Value.null) :: lv.filter (fun q => !(q.1 == i) && !(q.1 + 1 == i && q.2.category == 2)) = lv') (kk : XW κ S (pc + 1) lv' st) : XW κ S pc lv (va_re (xad (kG κ)) none :: st) := fun H locs ls hP hS h => lv_astore_nN C.1 C.2.1 hdg hi h (by rw [C.g_nl]; exact hn) hl (fun ls' h' => kk H locs ls' hP hS h')
theorem X_loadnull (C : XC κ own cc nl F N) {k : Fin 4} (i : Nat) (q : Nat) (hdg : decode cc pc = .ok (.aload_n k, 1)) (hi : (k : Nat) = i) (hl : lv[q]? = some (i, .null)) (kk : XW κ S (pc + 1) lv (.null :: st)) : XW κ S pc lv st := fun H locs ls hP hS h => lv_aload_nN C.1 C.2.1 hdg hi (lv_at h q hl) (kk H locs ls hP hS h)
theorem X_ifnull0 (C : XC κ own cc nl F N) {off : Int} (tgt : Nat) (hdg : decode cc pc = .ok (.ifnull off, 3)) (ht : (pc : Int) + off = (tgt : Int)) (kk : XW κ S tgt lv st) : XW κ S pc lv (.null :: st) := fun H locs ls hP hS h => lv_ifnullN C.1 C.2.1 hdg ht (kk H locs ls hP hS h)
theorem X_alenO (C : XC κ own cc nl F N) (hdg : decode cc pc = .ok (.arraylength, 1)) (kk : XW κ S (pc + 1) lv (.int 4 :: st)) : XW κ S pc lv (.ref (xad (kG κ) 7) :: st) := fun H locs ls hP hS h => va_alen (x := (4, .inr (.inr (.inr (.inr (fun j => some (xad (kG κ) (8 + 5 * j)))))))) (v := 4) C.1 C.2.1 C.g_K hP 7 1 (by rw [wW_get _ _ (by decide), wc_7]) rfl rfl hdg (kk H locs ls hP hS h)
theorem X_aald (C : XC κ own cc nl F N) {x : Int32} (hin : vp_in x 4) (hdg : decode cc pc = .ok (.aaload, 1)) (kk : XW κ S (pc + 1) lv (.ref (xad (kG κ) (8 + 5 * Int32.toNatClampNeg x)) :: st)) : XW κ S pc lv (.int x :: .ref (xad (kG κ) 7) :: st) := fun H locs ls hP hS h => va_aldq (f := fun j => some (xad (kG κ) (8 + 5 * j))) C.1 C.2.1 C.g_K hP 7 1 (by rw [wW_get _ _ (by decide), wc_7]) rfl hin hdg (kk H locs ls hP hS h)
end XMore
theorem vp_bool_nar {v : Int32} (h : vp_bool v) : narrow .boolean (.int v) = .int v := by rcases h with rfl | rfl <;> rfl
end
section
set_option maxRecDepth 100000 in
set_option maxHeartbeats 4000000 in
theorem M_X4_shorten {l : Launch} {G : XG} (hJ : XJ G) {t : Nat} (ht : t ∈ tabs) {S : Mem} {a1 : Int32} {K : Mem → Prop} (h : P_X4_shorten t S a1 K) : XMv l G yX4_shorten cX4_shorten 2 0 0 [.ref (xad G t), .int a1] S K := by
  refine X_meth RX4 rfl (by decide +kernel) hJ (Nat.le_of_ble_eq_true rfl) (fun κ hl hG C E => ?_)
  subst hl hG
  show XW κ S 0 [(0, .ref (xad (kG κ) t)), (1, .int a1)] []
  refine X_iload_n C 1 1 dX4_shorten_0 rfl rfl ?_
  refine X_if_lt C 17 dX4_shorten_1 (by decide) (fun c => ?_) (fun c => ?_)
  · have h := h.1 c
    exact X_vret C E h dX4_shorten_17
  · have h := h.2 c
    refine X_iload_n C 1 1 dX4_shorten_4 rfl rfl ?_
    refine X_aload_n C 0 0 dX4_shorten_5 rfl rfl ?_
    refine X_get C (tabs_lt ht).1 (wTab _ _ ht) rfl inX4 3 (by decide) q_38 rfl dX4_shorten_6 ?_
    refine X_icmp_ge C 17 dX4_shorten_9 (by decide) (fun c => ?_) (fun c => ?_)
    · have h := h.1 c
      exact X_vret C E h dX4_shorten_17
    · have h := h.2 c
      refine X_aload_n C 0 0 dX4_shorten_12 rfl rfl ?_
      refine X_iload_n C 1 1 dX4_shorten_13 rfl rfl ?_
      obtain ⟨S1, eS1⟩ : ∃ z, z = mput S t 3 a1 := ⟨_, rfl⟩
      have h := h S1 eS1
      refine X_put C (tabs_lt ht).1 (wTab _ _ ht) rfl inX4 tyX4_ok nmX4 3 (by decide) q_38 rfl rfl rfl (Nat.le_of_ble_eq_true rfl) eS1 (wTab _ _ ht) dX4_shorten_14 ?_
      exact X_vret C E h dX4_shorten_17
set_option maxRecDepth 100000 in
set_option maxHeartbeats 4000000 in
theorem M_X4_length {l : Launch} {G : XG} (hJ : XJ G) {t : Nat} (ht : t ∈ tabs) {S : Mem} {K : Int32 → Mem → Prop} (h : P_X4_length t S K) : XMi l G yX4_length cX4_length 1 .int 0 0 [.ref (xad G t)] S K := by
  refine X_meth RX4 rfl (by decide +kernel) hJ (Nat.le_of_ble_eq_true rfl) (fun κ hl hG C E => ?_)
  subst hl hG
  show XW κ S 0 [(0, .ref (xad (kG κ) t))] []
  refine X_aload_n C 0 0 dX4_length_0 rfl rfl ?_
  refine X_get C (tabs_lt ht).1 (wTab _ _ ht) rfl inX4 3 (by decide) q_38 rfl dX4_length_1 ?_
  exact X_iret C E rfl h dX4_length_4
set_option maxRecDepth 100000 in
set_option maxHeartbeats 4000000 in
theorem M_X4_at {l : Launch} {G : XG} (hJ : XJ G) {t : Nat} (ht : t ∈ tabs) {S : Mem} {a1 : Int32} {a2 : Int32} {K : Int32 → Mem → Prop} (h : P_X4_at t S a1 a2 K) : XMi l G yX4_at cX4_at 3 .int 0 0 [.ref (xad G t), .int a1, .int a2] S K := by
  refine X_meth RX4 rfl (by decide +kernel) hJ (Nat.le_of_ble_eq_true rfl) (fun κ hl hG C E => ?_)
  subst hl hG
  show XW κ S 0 [(0, .ref (xad (kG κ) t)), (1, .int a1), (2, .int a2)] []
  refine X_iload_n C 1 1 dX4_at_0 rfl rfl ?_
  refine X_if_lt C 24 dX4_at_1 (by decide) (fun c => ?_) (fun c => ?_)
  · have h := h.1 c
    refine X_iconst C (0 : Int32) dX4_at_24 (by decide) ?_
    exact X_iret C E rfl h dX4_at_25
  · have h := h.2 c
    refine X_iload_n C 1 1 dX4_at_4 rfl rfl ?_
    refine X_aload_n C 0 0 dX4_at_5 rfl rfl ?_
    refine X_get C (tabs_lt ht).1 (wTab _ _ ht) rfl inX4 3 (by decide) q_38 rfl dX4_at_6 ?_
    refine X_icmp_ge C 24 dX4_at_9 (by decide) (fun c => ?_) (fun c => ?_)
    · have h := h.1 c
      refine X_iconst C (0 : Int32) dX4_at_24 (by decide) ?_
      exact X_iret C E rfl h dX4_at_25
    · have h := h.2 c
      refine X_iload_n C 2 2 dX4_at_12 rfl rfl ?_
      refine X_if_lt C 24 dX4_at_13 (by decide) (fun c => ?_) (fun c => ?_)
      · have h := h.1 c
        refine X_iconst C (0 : Int32) dX4_at_24 (by decide) ?_
        exact X_iret C E rfl h dX4_at_25
      · have h := h.2 c
        refine X_iload_n C 2 2 dX4_at_16 rfl rfl ?_
        refine X_aload_n C 0 0 dX4_at_17 rfl rfl ?_
        refine X_get C (tabs_lt ht).1 (wTab _ _ ht) rfl inX4 1 (by decide) q_36 rfl dX4_at_18 ?_
        refine X_icmp_lt C 26 dX4_at_21 (by decide) (fun c => ?_) (fun c => ?_)
        · have h := h.1 c
          refine X_aload_n C 0 0 dX4_at_26 rfl rfl ?_
          refine X_get C (tabs_lt ht).1 (wTab _ _ ht) rfl inX4 0 (by decide) q_35 rfl dX4_at_27 ?_
          refine X_iload_n C 1 1 dX4_at_30 rfl rfl ?_
          refine X_aload_n C 0 0 dX4_at_31 rfl rfl ?_
          refine X_get C (tabs_lt ht).1 (wTab _ _ ht) rfl inX4 1 (by decide) q_36 rfl dX4_at_32 ?_
          refine X_imul C dX4_at_35 ?_
          refine X_iload_n C 2 2 dX4_at_36 rfl rfl ?_
          refine X_iadd C dX4_at_37 ?_
          obtain ⟨hin, h⟩ := h
          refine X_iald C (tabs_lt ht).2 (wTabA _ _ ht) hin dX4_at_38 ?_
          exact X_iret C E rfl h dX4_at_39
        · have h := h.2 c
          refine X_iconst C (0 : Int32) dX4_at_24 (by decide) ?_
          exact X_iret C E rfl h dX4_at_25
set_option maxRecDepth 100000 in
set_option maxHeartbeats 4000000 in
theorem K_X4_placeOf_42 {κ : Kx} (C : XC κ RX4 cX4_placeOf 4 0 0) {K : Int32 → Mem → Prop} (E : XRet κ (some .int) (va_Qi K (XB (kG κ)) (XA (kG κ)))) {t : Nat} (ht : t ∈ tabs) {R5 : Mem → Int32 → Int32 → Int32 → Prop} (hR5 : ∀ (S : Mem) (x1 x2 x3 : Int32), R5 S x1 x2 x3 → XW κ S 5 [(0, .ref (xad (kG κ) t)), (1, .int x1), (2, .int x2), (3, .int x3)] []) {S : Mem} {x1 : Int32} {x2 : Int32} {x3 : Int32} (h : B_X4_placeOf_42 t R5 K S x1 x2 x3) : XW κ S 42 [(0, .ref (xad (kG κ) t)), (1, .int x1), (2, .int x2), (3, .int x3)] [] := by
  refine X_iload_n C 3 3 dX4_placeOf_42 rfl rfl ?_
  refine X_iconst C (2 : Int32) dX4_placeOf_43 (by decide) ?_
  refine X_idiv C dX4_placeOf_44 (by decide) ?_
  refine X_istore_n C 3 [(3, .int (x3 / (2 : Int32))), (0, .ref (xad (kG κ) t)), (1, .int x1), (2, .int x2)] dX4_placeOf_45 rfl (by decide) rfl ?_
  refine X_goto C 5 dX4_placeOf_46 (by decide) ?_
  refine X_sub [1, 2, 3, 0] rfl ?_
  exact hR5 _ _ _ _ h
set_option maxRecDepth 100000 in
set_option maxHeartbeats 4000000 in
theorem K_X4_placeOf_5 {κ : Kx} (C : XC κ RX4 cX4_placeOf 4 0 0) {K : Int32 → Mem → Prop} (E : XRet κ (some .int) (va_Qi K (XB (kG κ)) (XA (kG κ)))) {t : Nat} (ht : t ∈ tabs) : ∀ (n : Nat) (S : Mem) (x1 : Int32) (x2 : Int32) (x3 : Int32), B_X4_placeOf_5 t K n S x1 x2 x3 → XW κ S 5 [(0, .ref (xad (kG κ) t)), (1, .int x1), (2, .int x2), (3, .int x3)] [] := by
  intro n
  induction n with
  | zero => intro S x1 x2 x3 h; exact h.elim
  | succ n ih =>
    intro S x1 x2 x3 h
    refine X_iload_n C 3 3 dX4_placeOf_5 rfl rfl ?_
    refine X_if_le C 49 dX4_placeOf_6 (by decide) (fun c => ?_) (fun c => ?_)
    · have h := h.1 c
      refine X_iload_n C 2 2 dX4_placeOf_49 rfl rfl ?_
      exact X_iret C E rfl h dX4_placeOf_50
    · have h := h.2 c
      refine X_iload_n C 2 2 dX4_placeOf_9 rfl rfl ?_
      refine X_iload_n C 3 3 dX4_placeOf_10 rfl rfl ?_
      refine X_iadd C dX4_placeOf_11 ?_
      refine X_aload_n C 0 0 dX4_placeOf_12 rfl rfl ?_
      refine X_get C (tabs_lt ht).1 (wTab _ _ ht) rfl inX4 3 (by decide) q_38 rfl dX4_placeOf_13 ?_
      refine X_icmp_gt C 42 dX4_placeOf_16 (by decide) (fun c => ?_) (fun c => ?_)
      · have h := h.1 c
        exact K_X4_placeOf_42 C E ht (fun _ _ _ _ h => ih _ _ _ _ h) h
      · have h := h.2 c
        refine X_aload_n C 0 0 dX4_placeOf_19 rfl rfl ?_
        refine X_get C (tabs_lt ht).1 (wTab _ _ ht) rfl inX4 0 (by decide) q_35 rfl dX4_placeOf_20 ?_
        refine X_iload_n C 2 2 dX4_placeOf_23 rfl rfl ?_
        refine X_iload_n C 3 3 dX4_placeOf_24 rfl rfl ?_
        refine X_iadd C dX4_placeOf_25 ?_
        refine X_iconst C (1 : Int32) dX4_placeOf_26 (by decide) ?_
        refine X_isub C dX4_placeOf_27 ?_
        refine X_aload_n C 0 0 dX4_placeOf_28 rfl rfl ?_
        refine X_get C (tabs_lt ht).1 (wTab _ _ ht) rfl inX4 1 (by decide) q_36 rfl dX4_placeOf_29 ?_
        refine X_imul C dX4_placeOf_32 ?_
        obtain ⟨hin, h⟩ := h
        refine X_iald C (tabs_lt ht).2 (wTabA _ _ ht) hin dX4_placeOf_33 ?_
        refine X_iload_n C 1 1 dX4_placeOf_34 rfl rfl ?_
        refine X_icmp_ge C 42 dX4_placeOf_35 (by decide) (fun c => ?_) (fun c => ?_)
        · have h := h.1 c
          exact K_X4_placeOf_42 C E ht (fun _ _ _ _ h => ih _ _ _ _ h) h
        · have h := h.2 c
          refine X_iload_n C 2 2 dX4_placeOf_38 rfl rfl ?_
          refine X_iload_n C 3 3 dX4_placeOf_39 rfl rfl ?_
          refine X_iadd C dX4_placeOf_40 ?_
          refine X_istore_n C 2 [(2, .int (x2 + x3)), (0, .ref (xad (kG κ) t)), (1, .int x1), (3, .int x3)] dX4_placeOf_41 rfl (by decide) rfl ?_
          refine X_sub [1, 2, 0, 3] rfl ?_
          exact K_X4_placeOf_42 C E ht (fun _ _ _ _ h => ih _ _ _ _ h) h
set_option maxRecDepth 100000 in
set_option maxHeartbeats 4000000 in
theorem M_X4_placeOf {l : Launch} {G : XG} (hJ : XJ G) {t : Nat} (ht : t ∈ tabs) {S : Mem} {a1 : Int32} {K : Int32 → Mem → Prop} (h : P_X4_placeOf t S a1 K) : XMi l G yX4_placeOf cX4_placeOf 4 .int 0 0 [.ref (xad G t), .int a1] S K := by
  refine X_meth RX4 rfl (by decide +kernel) hJ (Nat.le_of_ble_eq_true rfl) (fun κ hl hG C E => ?_)
  subst hl hG
  show XW κ S 0 [(0, .ref (xad (kG κ) t)), (1, .int a1)] []
  refine X_iconst C (0 : Int32) dX4_placeOf_0 (by decide) ?_
  refine X_istore_n C 2 [(2, .int (0 : Int32)), (0, .ref (xad (kG κ) t)), (1, .int a1)] dX4_placeOf_1 rfl (by decide) rfl ?_
  refine X_bipush C (64 : Int32) dX4_placeOf_2 (by decide) ?_
  refine X_istore_n C 3 [(3, .int (64 : Int32)), (2, .int (0 : Int32)), (0, .ref (xad (kG κ) t)), (1, .int a1)] dX4_placeOf_4 rfl (by decide) rfl ?_
  refine X_sub [2, 3, 1, 0] rfl ?_
  obtain ⟨n1, h⟩ := h
  exact K_X4_placeOf_5 C E ht n1 _ _ _ _ h
set_option maxRecDepth 100000 in
set_option maxHeartbeats 4000000 in
theorem M_J7_rangeCheck_23922 {l : Launch} {G : XG} (hJ : XJ G) {S : Mem} {a0 : Int32} {a1 : Int32} {a2 : Int32} {K : Mem → Prop} (h : P_J7_rangeCheck_23922 S a0 a1 a2 K) : XMv l G yJ7_rangeCheck_23922 cJ7_rangeCheck_23922 3 0 0 [.int a0, .int a1, .int a2] S K := by
  refine X_meth RJ7 rfl (by decide +kernel) hJ (Nat.le_of_ble_eq_true rfl) (fun κ hl hG C E => ?_)
  subst hl hG
  show XW κ S 0 [(0, .int a0), (1, .int a1), (2, .int a2)] []
  refine X_iload_n C 1 1 dJ7_rangeCheck_23922_0 rfl rfl ?_
  refine X_iload_n C 2 2 dJ7_rangeCheck_23922_1 rfl rfl ?_
  refine X_icmp_le C 46 dJ7_rangeCheck_23922_2 (by decide) (fun c => ?_) (fun c => ?_)
  · have h := h.1 c
    refine X_iload_n C 1 1 dJ7_rangeCheck_23922_46 rfl rfl ?_
    refine X_if_ge C 59 dJ7_rangeCheck_23922_47 (by decide) (fun c => ?_) (fun c => ?_)
    · have h := h.1 c
      refine X_iload_n C 2 2 dJ7_rangeCheck_23922_59 rfl rfl ?_
      refine X_iload_n C 0 0 dJ7_rangeCheck_23922_60 rfl rfl ?_
      refine X_icmp_le C 73 dJ7_rangeCheck_23922_61 (by decide) (fun c => ?_) (fun c => ?_)
      · have h := h.1 c
        exact X_vret C E h dJ7_rangeCheck_23922_73
      · have h := h.2 c
        exact h.elim
    · have h := h.2 c
      exact h.elim
  · have h := h.2 c
    exact h.elim
set_option maxRecDepth 100000 in
set_option maxHeartbeats 4000000 in
theorem K_J7_fill_fda19_10 {κ : Kx} (C : XC κ RJ7 cJ7_fill_fda19 5 1 22) {K : Mem → Prop} (E : XRet κ none (va_Qv K (XB (kG κ)) (XA (kG κ)))) {t0 : Nat} (ht0 : t0 ∈ tabs) : ∀ (n : Nat) (S : Mem) (x2 : Int32) (x3 : Int32) (x4 : Int32), B_J7_fill_fda19_10 t0 K n S x2 x3 x4 → XW κ S 10 [(0, .ref (xad (kG κ) (t0 + 1))), (2, .int x2), (3, .int x3), (4, .int x4)] [] := by
  intro n
  induction n with
  | zero => intro S x2 x3 x4 h; exact h.elim
  | succ n ih =>
    intro S x2 x3 x4 h
    refine X_iload C 3 dJ7_fill_fda19_10 rfl ?_
    refine X_iload_n C 2 1 dJ7_fill_fda19_12 rfl rfl ?_
    refine X_icmp_ge C 27 dJ7_fill_fda19_13 (by decide) (fun c => ?_) (fun c => ?_)
    · have h := h.1 c
      exact X_vret C E h dJ7_fill_fda19_27
    · have h := h.2 c
      refine X_aload_n C 0 0 dJ7_fill_fda19_16 rfl rfl ?_
      refine X_iload C 3 dJ7_fill_fda19_17 rfl ?_
      refine X_iload_n C 3 2 dJ7_fill_fda19_19 rfl rfl ?_
      obtain ⟨hin, h⟩ := h
      obtain ⟨S3, eS3⟩ : ∃ z, z = mput S (t0 + 1) (Int32.toNatClampNeg x4) x3 := ⟨_, rfl⟩
      have h := h S3 eS3
      refine X_iast C (tabs_lt ht0).2 (wTabA _ _ ht0) hin eS3 (wTabA _ _ ht0) dJ7_fill_fda19_20 ?_
      refine X_iinc C (x4 + (1 : Int32)) 3 [(4, .int (x4 + (1 : Int32))), (0, .ref (xad (kG κ) (t0 + 1))), (2, .int x2), (3, .int x3)] dJ7_fill_fda19_21 rfl rfl (by decide) rfl ?_
      refine X_goto C 10 dJ7_fill_fda19_24 (by decide) ?_
      refine X_sub [1, 2, 3, 0] rfl ?_
      exact ih _ _ _ _ h
set_option maxRecDepth 100000 in
set_option maxHeartbeats 4000000 in
theorem M_J7_fill_fda19 {l : Launch} {G : XG} (hJ : XJ G) {t0 : Nat} (ht0 : t0 ∈ tabs) {S : Mem} {a1 : Int32} {a2 : Int32} {a3 : Int32} {K : Mem → Prop} (h : P_J7_fill_fda19 t0 S a1 a2 a3 K) : XMv l G yJ7_fill_fda19 cJ7_fill_fda19 5 1 22 [.ref (xad G (t0 + 1)), .int a1, .int a2, .int a3] S K := by
  refine X_meth RJ7 rfl (by decide +kernel) hJ (Nat.le_of_ble_eq_true rfl) (fun κ hl hG C E => ?_)
  subst hl hG
  show XW κ S 0 [(0, .ref (xad (kG κ) (t0 + 1))), (1, .int a1), (2, .int a2), (3, .int a3)] []
  refine X_aload_n C 0 0 dJ7_fill_fda19_0 rfl rfl ?_
  refine X_alen C (tabs_lt ht0).2 (wTabA _ _ ht0) dJ7_fill_fda19_1 ?_
  refine X_iload_n C 1 1 dJ7_fill_fda19_2 rfl rfl ?_
  refine X_iload_n C 2 2 dJ7_fill_fda19_3 rfl rfl ?_
  refine X_callSv C eJ7_rangeCheck_23922 [.int (nI (tRn t0 * tWn t0)), .int a1, .int a2] [] (M_J7_rangeCheck_23922 C.g_J h) q_56 rfl ⟨(Nat.le_of_ble_eq_true rfl), (Nat.le_of_ble_eq_true rfl)⟩ rfl (Nat.le_of_ble_eq_true rfl) dJ7_fill_fda19_4 (fun S1 h => ?_)
  refine X_iload_n C 1 1 dJ7_fill_fda19_7 rfl rfl ?_
  refine X_istore C [(4, .int a1), (0, .ref (xad (kG κ) (t0 + 1))), (1, .int a1), (2, .int a2), (3, .int a3)] dJ7_fill_fda19_8 (by decide) rfl ?_
  refine X_sub [1, 3, 4, 0] rfl ?_
  obtain ⟨n4, h⟩ := h
  exact K_J7_fill_fda19_10 C E ht0 n4 _ _ _ _ h
set_option maxRecDepth 100000 in
set_option maxHeartbeats 4000000 in
theorem M_X4_insert {l : Launch} {G : XG} (hJ : XJ G) {t : Nat} (ht : t ∈ tabs) {S : Mem} {a1 : Int32} {a2 : Int32} {K : Mem → Prop} (h : P_X4_insert t S a1 a2 K) : XMv l G yX4_insert cX4_insert 4 2 60 [.ref (xad G t), .int a1, .int a2] S K := by
  refine X_meth RX4 rfl (by decide +kernel) hJ (Nat.le_of_ble_eq_true rfl) (fun κ hl hG C E => ?_)
  subst hl hG
  show XW κ S 0 [(0, .ref (xad (kG κ) t)), (1, .int a1), (2, .int a2)] []
  refine X_iload_n C 1 1 dX4_insert_0 rfl rfl ?_
  refine X_if_lt C 23 dX4_insert_1 (by decide) (fun c => ?_) (fun c => ?_)
  · have h := h.1 c
    exact X_vret C E h dX4_insert_23
  · have h := h.2 c
    refine X_iload_n C 1 1 dX4_insert_4 rfl rfl ?_
    refine X_aload_n C 0 0 dX4_insert_5 rfl rfl ?_
    refine X_get C (tabs_lt ht).1 (wTab _ _ ht) rfl inX4 3 (by decide) q_38 rfl dX4_insert_6 ?_
    refine X_icmp_gt C 23 dX4_insert_9 (by decide) (fun c => ?_) (fun c => ?_)
    · have h := h.1 c
      exact X_vret C E h dX4_insert_23
    · have h := h.2 c
      refine X_aload_n C 0 0 dX4_insert_12 rfl rfl ?_
      refine X_get C (tabs_lt ht).1 (wTab _ _ ht) rfl inX4 3 (by decide) q_38 rfl dX4_insert_13 ?_
      refine X_aload_n C 0 0 dX4_insert_16 rfl rfl ?_
      refine X_get C (tabs_lt ht).1 (wTab _ _ ht) rfl inX4 2 (by decide) q_37 rfl dX4_insert_17 ?_
      refine X_icmp_lt C 24 dX4_insert_20 (by decide) (fun c => ?_) (fun c => ?_)
      · have h := h.1 c
        refine X_iload_n C 1 1 dX4_insert_24 rfl rfl ?_
        refine X_aload_n C 0 0 dX4_insert_25 rfl rfl ?_
        refine X_get C (tabs_lt ht).1 (wTab _ _ ht) rfl inX4 1 (by decide) q_36 rfl dX4_insert_26 ?_
        refine X_imul C dX4_insert_29 ?_
        refine X_istore_n C 3 [(3, .int (a1 * (nI (tWn t)))), (0, .ref (xad (kG κ) t)), (1, .int a1), (2, .int a2)] dX4_insert_30 rfl (by decide) rfl ?_
        refine X_aload_n C 0 1 dX4_insert_31 rfl rfl ?_
        refine X_get C (tabs_lt ht).1 (wTab _ _ ht) rfl inX4 0 (by decide) q_35 rfl dX4_insert_32 ?_
        refine X_iload_n C 3 0 dX4_insert_35 rfl rfl ?_
        refine X_aload_n C 0 1 dX4_insert_36 rfl rfl ?_
        refine X_get C (tabs_lt ht).1 (wTab _ _ ht) rfl inX4 0 (by decide) q_35 rfl dX4_insert_37 ?_
        refine X_iload_n C 3 0 dX4_insert_40 rfl rfl ?_
        refine X_aload_n C 0 1 dX4_insert_41 rfl rfl ?_
        refine X_get C (tabs_lt ht).1 (wTab _ _ ht) rfl inX4 1 (by decide) q_36 rfl dX4_insert_42 ?_
        refine X_iadd C dX4_insert_45 ?_
        refine X_aload_n C 0 1 dX4_insert_46 rfl rfl ?_
        refine X_get C (tabs_lt ht).1 (wTab _ _ ht) rfl inX4 3 (by decide) q_38 rfl dX4_insert_47 ?_
        refine X_iload_n C 1 2 dX4_insert_50 rfl rfl ?_
        refine X_isub C dX4_insert_51 ?_
        refine X_aload_n C 0 1 dX4_insert_52 rfl rfl ?_
        refine X_get C (tabs_lt ht).1 (wTab _ _ ht) rfl inX4 1 (by decide) q_36 rfl dX4_insert_53 ?_
        refine X_imul C dX4_insert_56 ?_
        obtain ⟨i1, i2, i3, i4, i5, h⟩ := h
        obtain ⟨S1, eS1⟩ : ∃ z, z = mset S (t + 1) (va_cpy (S (t + 1)) (S (t + 1)) (Int32.toNatClampNeg (a1 * (nI (tWn t)))) (Int32.toNatClampNeg ((a1 * (nI (tWn t))) + (nI (tWn t)))) (Int32.toNatClampNeg (((S t 3) - a1) * (nI (tWn t))))) := ⟨_, rfl⟩
        have h := h S1 eS1
        refine X_copy C (tabs_lt ht).2 (tabs_lt ht).2 (wTabA _ _ ht) (wTabA _ _ ht) q_241 q_243 q_242 q_11 (by decide) i1 i2 i3 i4 i5 (Nat.le_of_ble_eq_true rfl) (Nat.le_of_ble_eq_true rfl) eS1 (wTabA _ _ ht) dX4_insert_57 ?_
        refine X_aload_n C 0 1 dX4_insert_60 rfl rfl ?_
        refine X_get C (tabs_lt ht).1 (wTab _ _ ht) rfl inX4 0 (by decide) q_35 rfl dX4_insert_61 ?_
        refine X_iload_n C 3 0 dX4_insert_64 rfl rfl ?_
        refine X_iload_n C 3 0 dX4_insert_65 rfl rfl ?_
        refine X_aload_n C 0 1 dX4_insert_66 rfl rfl ?_
        refine X_get C (tabs_lt ht).1 (wTab _ _ ht) rfl inX4 1 (by decide) q_36 rfl dX4_insert_67 ?_
        refine X_iadd C dX4_insert_70 ?_
        refine X_iconst C (0 : Int32) dX4_insert_71 (by decide) ?_
        refine X_callSv C eJ7_fill_fda19 [.ref (xad (kG κ) (t + 1)), .int (a1 * (nI (tWn t))), .int ((a1 * (nI (tWn t))) + (nI (tWn t))), .int (0 : Int32)] [] (M_J7_fill_fda19 C.g_J ht h) q_53 rfl ⟨(Nat.le_of_ble_eq_true rfl), (Nat.le_of_ble_eq_true rfl)⟩ rfl (Nat.le_of_ble_eq_true rfl) dX4_insert_72 (fun S2 h => ?_)
        refine X_aload_n C 0 1 dX4_insert_75 rfl rfl ?_
        refine X_get C (tabs_lt ht).1 (wTab _ _ ht) rfl inX4 0 (by decide) q_35 rfl dX4_insert_76 ?_
        refine X_iload_n C 3 0 dX4_insert_79 rfl rfl ?_
        refine X_iload_n C 2 3 dX4_insert_80 rfl rfl ?_
        obtain ⟨hin, h⟩ := h
        obtain ⟨S4, eS4⟩ : ∃ z, z = mput S2 (t + 1) (Int32.toNatClampNeg (a1 * (nI (tWn t)))) a2 := ⟨_, rfl⟩
        have h := h S4 eS4
        refine X_iast C (tabs_lt ht).2 (wTabA _ _ ht) hin eS4 (wTabA _ _ ht) dX4_insert_81 ?_
        refine X_aload_n C 0 1 dX4_insert_82 rfl rfl ?_
        refine X_dup C dX4_insert_83 rfl ?_
        refine X_get C (tabs_lt ht).1 (wTab _ _ ht) rfl inX4 3 (by decide) q_38 rfl dX4_insert_84 ?_
        refine X_iconst C (1 : Int32) dX4_insert_87 (by decide) ?_
        refine X_iadd C dX4_insert_88 ?_
        obtain ⟨S5, eS5⟩ : ∃ z, z = mput S4 t 3 ((S4 t 3) + (1 : Int32)) := ⟨_, rfl⟩
        have h := h S5 eS5
        refine X_put C (tabs_lt ht).1 (wTab _ _ ht) rfl inX4 tyX4_ok nmX4 3 (by decide) q_38 rfl rfl rfl (Nat.le_of_ble_eq_true rfl) eS5 (wTab _ _ ht) dX4_insert_89 ?_
        exact X_vret C E h dX4_insert_92
      · have h := h.2 c
        exact X_vret C E h dX4_insert_23
set_option maxRecDepth 100000 in
set_option maxHeartbeats 4000000 in
theorem M_X4_put {l : Launch} {G : XG} (hJ : XJ G) {t : Nat} (ht : t ∈ tabs) {S : Mem} {a1 : Int32} {a2 : Int32} {a3 : Int32} {K : Mem → Prop} (h : P_X4_put t S a1 a2 a3 K) : XMv l G yX4_put cX4_put 4 0 0 [.ref (xad G t), .int a1, .int a2, .int a3] S K := by
  refine X_meth RX4 rfl (by decide +kernel) hJ (Nat.le_of_ble_eq_true rfl) (fun κ hl hG C E => ?_)
  subst hl hG
  show XW κ S 0 [(0, .ref (xad (kG κ) t)), (1, .int a1), (2, .int a2), (3, .int a3)] []
  refine X_iload_n C 1 1 dX4_put_0 rfl rfl ?_
  refine X_if_lt C 38 dX4_put_1 (by decide) (fun c => ?_) (fun c => ?_)
  · have h := h.1 c
    exact X_vret C E h dX4_put_38
  · have h := h.2 c
    refine X_iload_n C 1 1 dX4_put_4 rfl rfl ?_
    refine X_aload_n C 0 0 dX4_put_5 rfl rfl ?_
    refine X_get C (tabs_lt ht).1 (wTab _ _ ht) rfl inX4 3 (by decide) q_38 rfl dX4_put_6 ?_
    refine X_icmp_ge C 38 dX4_put_9 (by decide) (fun c => ?_) (fun c => ?_)
    · have h := h.1 c
      exact X_vret C E h dX4_put_38
    · have h := h.2 c
      refine X_iload_n C 2 2 dX4_put_12 rfl rfl ?_
      refine X_if_lt C 38 dX4_put_13 (by decide) (fun c => ?_) (fun c => ?_)
      · have h := h.1 c
        exact X_vret C E h dX4_put_38
      · have h := h.2 c
        refine X_iload_n C 2 2 dX4_put_16 rfl rfl ?_
        refine X_aload_n C 0 0 dX4_put_17 rfl rfl ?_
        refine X_get C (tabs_lt ht).1 (wTab _ _ ht) rfl inX4 1 (by decide) q_36 rfl dX4_put_18 ?_
        refine X_icmp_ge C 38 dX4_put_21 (by decide) (fun c => ?_) (fun c => ?_)
        · have h := h.1 c
          exact X_vret C E h dX4_put_38
        · have h := h.2 c
          refine X_aload_n C 0 0 dX4_put_24 rfl rfl ?_
          refine X_get C (tabs_lt ht).1 (wTab _ _ ht) rfl inX4 0 (by decide) q_35 rfl dX4_put_25 ?_
          refine X_iload_n C 1 1 dX4_put_28 rfl rfl ?_
          refine X_aload_n C 0 0 dX4_put_29 rfl rfl ?_
          refine X_get C (tabs_lt ht).1 (wTab _ _ ht) rfl inX4 1 (by decide) q_36 rfl dX4_put_30 ?_
          refine X_imul C dX4_put_33 ?_
          refine X_iload_n C 2 2 dX4_put_34 rfl rfl ?_
          refine X_iadd C dX4_put_35 ?_
          refine X_iload_n C 3 3 dX4_put_36 rfl rfl ?_
          obtain ⟨hin, h⟩ := h
          obtain ⟨S1, eS1⟩ : ∃ z, z = mput S (t + 1) (Int32.toNatClampNeg ((a1 * (nI (tWn t))) + a2)) a3 := ⟨_, rfl⟩
          have h := h S1 eS1
          refine X_iast C (tabs_lt ht).2 (wTabA _ _ ht) hin eS1 (wTabA _ _ ht) dX4_put_37 ?_
          exact X_vret C E h dX4_put_38
set_option maxRecDepth 100000 in
set_option maxHeartbeats 4000000 in
theorem M_X4_raise {l : Launch} {G : XG} (hJ : XJ G) {t : Nat} (ht : t ∈ tabs) {S : Mem} {a1 : Int32} {a2 : Int32} {a3 : Int32} {K : Mem → Prop} (h : P_X4_raise t S a1 a2 a3 K) : XMv l G yX4_raise cX4_raise 4 0 0 [.ref (xad G t), .int a1, .int a2, .int a3] S K := by
  refine X_meth RX4 rfl (by decide +kernel) hJ (Nat.le_of_ble_eq_true rfl) (fun κ hl hG C E => ?_)
  subst hl hG
  show XW κ S 0 [(0, .ref (xad (kG κ) t)), (1, .int a1), (2, .int a2), (3, .int a3)] []
  refine X_iload_n C 1 1 dX4_raise_0 rfl rfl ?_
  refine X_if_lt C 41 dX4_raise_1 (by decide) (fun c => ?_) (fun c => ?_)
  · have h := h.1 c
    exact X_vret C E h dX4_raise_41
  · have h := h.2 c
    refine X_iload_n C 1 1 dX4_raise_4 rfl rfl ?_
    refine X_aload_n C 0 0 dX4_raise_5 rfl rfl ?_
    refine X_get C (tabs_lt ht).1 (wTab _ _ ht) rfl inX4 3 (by decide) q_38 rfl dX4_raise_6 ?_
    refine X_icmp_ge C 41 dX4_raise_9 (by decide) (fun c => ?_) (fun c => ?_)
    · have h := h.1 c
      exact X_vret C E h dX4_raise_41
    · have h := h.2 c
      refine X_iload_n C 2 2 dX4_raise_12 rfl rfl ?_
      refine X_if_lt C 41 dX4_raise_13 (by decide) (fun c => ?_) (fun c => ?_)
      · have h := h.1 c
        exact X_vret C E h dX4_raise_41
      · have h := h.2 c
        refine X_iload_n C 2 2 dX4_raise_16 rfl rfl ?_
        refine X_aload_n C 0 0 dX4_raise_17 rfl rfl ?_
        refine X_get C (tabs_lt ht).1 (wTab _ _ ht) rfl inX4 1 (by decide) q_36 rfl dX4_raise_18 ?_
        refine X_icmp_ge C 41 dX4_raise_21 (by decide) (fun c => ?_) (fun c => ?_)
        · have h := h.1 c
          exact X_vret C E h dX4_raise_41
        · have h := h.2 c
          refine X_aload_n C 0 0 dX4_raise_24 rfl rfl ?_
          refine X_get C (tabs_lt ht).1 (wTab _ _ ht) rfl inX4 0 (by decide) q_35 rfl dX4_raise_25 ?_
          refine X_iload_n C 1 1 dX4_raise_28 rfl rfl ?_
          refine X_aload_n C 0 0 dX4_raise_29 rfl rfl ?_
          refine X_get C (tabs_lt ht).1 (wTab _ _ ht) rfl inX4 1 (by decide) q_36 rfl dX4_raise_30 ?_
          refine X_imul C dX4_raise_33 ?_
          refine X_iload_n C 2 2 dX4_raise_34 rfl rfl ?_
          refine X_iadd C dX4_raise_35 ?_
          refine X_dup2 C dX4_raise_36 rfl rfl ?_
          obtain ⟨hin, h⟩ := h
          refine X_iald C (tabs_lt ht).2 (wTabA _ _ ht) hin dX4_raise_37 ?_
          refine X_iload_n C 3 3 dX4_raise_38 rfl rfl ?_
          refine X_iadd C dX4_raise_39 ?_
          obtain ⟨hin, h⟩ := h
          obtain ⟨S1, eS1⟩ : ∃ z, z = mput S (t + 1) (Int32.toNatClampNeg ((a1 * (nI (tWn t))) + a2)) ((S (t + 1) (Int32.toNatClampNeg ((a1 * (nI (tWn t))) + a2))) + a3) := ⟨_, rfl⟩
          have h := h S1 eS1
          refine X_iast C (tabs_lt ht).2 (wTabA _ _ ht) hin eS1 (wTabA _ _ ht) dX4_raise_40 ?_
          exact X_vret C E h dX4_raise_41
set_option maxRecDepth 100000 in
set_option maxHeartbeats 4000000 in
theorem M_X4_append {l : Launch} {G : XG} (hJ : XJ G) {t : Nat} (ht : t ∈ tabs) {S : Mem} {a1 : Int32} {K : Int32 → Mem → Prop} (h : P_X4_append t S a1 K) : XMi l G yX4_append cX4_append 3 .int 2 46 [.ref (xad G t), .int a1] S K := by
  refine X_meth RX4 rfl (by decide +kernel) hJ (Nat.le_of_ble_eq_true rfl) (fun κ hl hG C E => ?_)
  subst hl hG
  show XW κ S 0 [(0, .ref (xad (kG κ) t)), (1, .int a1)] []
  refine X_aload_n C 0 0 dX4_append_0 rfl rfl ?_
  refine X_get C (tabs_lt ht).1 (wTab _ _ ht) rfl inX4 3 (by decide) q_38 rfl dX4_append_1 ?_
  refine X_aload_n C 0 0 dX4_append_4 rfl rfl ?_
  refine X_get C (tabs_lt ht).1 (wTab _ _ ht) rfl inX4 2 (by decide) q_37 rfl dX4_append_5 ?_
  refine X_icmp_lt C 13 dX4_append_8 (by decide) (fun c => ?_) (fun c => ?_)
  · have h := h.1 c
    refine X_aload_n C 0 0 dX4_append_13 rfl rfl ?_
    refine X_get C (tabs_lt ht).1 (wTab _ _ ht) rfl inX4 3 (by decide) q_38 rfl dX4_append_14 ?_
    refine X_aload_n C 0 0 dX4_append_17 rfl rfl ?_
    refine X_get C (tabs_lt ht).1 (wTab _ _ ht) rfl inX4 1 (by decide) q_36 rfl dX4_append_18 ?_
    refine X_imul C dX4_append_21 ?_
    refine X_istore_n C 2 [(2, .int ((S t 3) * (nI (tWn t)))), (0, .ref (xad (kG κ) t)), (1, .int a1)] dX4_append_22 rfl (by decide) rfl ?_
    refine X_aload_n C 0 1 dX4_append_23 rfl rfl ?_
    refine X_get C (tabs_lt ht).1 (wTab _ _ ht) rfl inX4 0 (by decide) q_35 rfl dX4_append_24 ?_
    refine X_iload_n C 2 0 dX4_append_27 rfl rfl ?_
    refine X_iload_n C 2 0 dX4_append_28 rfl rfl ?_
    refine X_aload_n C 0 1 dX4_append_29 rfl rfl ?_
    refine X_get C (tabs_lt ht).1 (wTab _ _ ht) rfl inX4 1 (by decide) q_36 rfl dX4_append_30 ?_
    refine X_iadd C dX4_append_33 ?_
    refine X_iconst C (0 : Int32) dX4_append_34 (by decide) ?_
    refine X_callSv C eJ7_fill_fda19 [.ref (xad (kG κ) (t + 1)), .int ((S t 3) * (nI (tWn t))), .int (((S t 3) * (nI (tWn t))) + (nI (tWn t))), .int (0 : Int32)] [] (M_J7_fill_fda19 C.g_J ht h) q_53 rfl ⟨(Nat.le_of_ble_eq_true rfl), (Nat.le_of_ble_eq_true rfl)⟩ rfl (Nat.le_of_ble_eq_true rfl) dX4_append_35 (fun S1 h => ?_)
    refine X_aload_n C 0 1 dX4_append_38 rfl rfl ?_
    refine X_get C (tabs_lt ht).1 (wTab _ _ ht) rfl inX4 0 (by decide) q_35 rfl dX4_append_39 ?_
    refine X_iload_n C 2 0 dX4_append_42 rfl rfl ?_
    refine X_iload_n C 1 2 dX4_append_43 rfl rfl ?_
    obtain ⟨hin, h⟩ := h
    obtain ⟨S3, eS3⟩ : ∃ z, z = mput S1 (t + 1) (Int32.toNatClampNeg ((S t 3) * (nI (tWn t)))) a1 := ⟨_, rfl⟩
    have h := h S3 eS3
    refine X_iast C (tabs_lt ht).2 (wTabA _ _ ht) hin eS3 (wTabA _ _ ht) dX4_append_44 ?_
    refine X_aload_n C 0 1 dX4_append_45 rfl rfl ?_
    refine X_dup C dX4_append_46 rfl ?_
    refine X_get C (tabs_lt ht).1 (wTab _ _ ht) rfl inX4 3 (by decide) q_38 rfl dX4_append_47 ?_
    refine X_iconst C (1 : Int32) dX4_append_50 (by decide) ?_
    refine X_iadd C dX4_append_51 ?_
    obtain ⟨S4, eS4⟩ : ∃ z, z = mput S3 t 3 ((S3 t 3) + (1 : Int32)) := ⟨_, rfl⟩
    have h := h S4 eS4
    refine X_put C (tabs_lt ht).1 (wTab _ _ ht) rfl inX4 tyX4_ok nmX4 3 (by decide) q_38 rfl rfl rfl (Nat.le_of_ble_eq_true rfl) eS4 (wTab _ _ ht) dX4_append_52 ?_
    refine X_aload_n C 0 1 dX4_append_55 rfl rfl ?_
    refine X_get C (tabs_lt ht).1 (wTab _ _ ht) rfl inX4 3 (by decide) q_38 rfl dX4_append_56 ?_
    refine X_iconst C (1 : Int32) dX4_append_59 (by decide) ?_
    refine X_isub C dX4_append_60 ?_
    exact X_iret C E rfl h dX4_append_61
  · have h := h.2 c
    refine X_iconst C (-1 : Int32) dX4_append_11 (by decide) ?_
    exact X_iret C E rfl h dX4_append_12
set_option maxRecDepth 100000 in
set_option maxHeartbeats 4000000 in
theorem M_X4_copyFrom {l : Launch} {G : XG} (hJ : XJ G) {t : Nat} (ht : t ∈ tabs) {t1 : Nat} (ht1 : t1 ∈ tabs) {S : Mem} {K : Mem → Prop} (h : P_X4_copyFrom t t1 S K) : XMv l G yX4_copyFrom cX4_copyFrom 2 1 60 [.ref (xad G t), .ref (xad G t1)] S K := by
  refine X_meth RX4 rfl (by decide +kernel) hJ (Nat.le_of_ble_eq_true rfl) (fun κ hl hG C E => ?_)
  subst hl hG
  show XW κ S 0 [(0, .ref (xad (kG κ) t)), (1, .ref (xad (kG κ) t1))] []
  refine X_aload_n C 1 1 dX4_copyFrom_0 rfl rfl ?_
  refine X_ifnull C dX4_copyFrom_1 ?_
  refine X_aload_n C 1 1 dX4_copyFrom_4 rfl rfl ?_
  refine X_get C (tabs_lt ht1).1 (wTab _ _ ht1) rfl inX4 1 (by decide) q_36 rfl dX4_copyFrom_5 ?_
  refine X_aload_n C 0 0 dX4_copyFrom_8 rfl rfl ?_
  refine X_get C (tabs_lt ht).1 (wTab _ _ ht) rfl inX4 1 (by decide) q_36 rfl dX4_copyFrom_9 ?_
  refine X_icmp_ne C 26 dX4_copyFrom_12 (by decide) (fun c => ?_) (fun c => ?_)
  · have h := h.1 c
    exact X_vret C E h dX4_copyFrom_26
  · have h := h.2 c
    refine X_aload_n C 1 1 dX4_copyFrom_15 rfl rfl ?_
    refine X_get C (tabs_lt ht1).1 (wTab _ _ ht1) rfl inX4 3 (by decide) q_38 rfl dX4_copyFrom_16 ?_
    refine X_aload_n C 0 0 dX4_copyFrom_19 rfl rfl ?_
    refine X_get C (tabs_lt ht).1 (wTab _ _ ht) rfl inX4 2 (by decide) q_37 rfl dX4_copyFrom_20 ?_
    refine X_icmp_le C 27 dX4_copyFrom_23 (by decide) (fun c => ?_) (fun c => ?_)
    · have h := h.1 c
      refine X_aload_n C 1 1 dX4_copyFrom_27 rfl rfl ?_
      refine X_get C (tabs_lt ht1).1 (wTab _ _ ht1) rfl inX4 0 (by decide) q_35 rfl dX4_copyFrom_28 ?_
      refine X_iconst C (0 : Int32) dX4_copyFrom_31 (by decide) ?_
      refine X_aload_n C 0 0 dX4_copyFrom_32 rfl rfl ?_
      refine X_get C (tabs_lt ht).1 (wTab _ _ ht) rfl inX4 0 (by decide) q_35 rfl dX4_copyFrom_33 ?_
      refine X_iconst C (0 : Int32) dX4_copyFrom_36 (by decide) ?_
      refine X_aload_n C 1 1 dX4_copyFrom_37 rfl rfl ?_
      refine X_get C (tabs_lt ht1).1 (wTab _ _ ht1) rfl inX4 3 (by decide) q_38 rfl dX4_copyFrom_38 ?_
      refine X_aload_n C 0 0 dX4_copyFrom_41 rfl rfl ?_
      refine X_get C (tabs_lt ht).1 (wTab _ _ ht) rfl inX4 1 (by decide) q_36 rfl dX4_copyFrom_42 ?_
      refine X_imul C dX4_copyFrom_45 ?_
      obtain ⟨i1, i2, i3, i4, i5, h⟩ := h
      obtain ⟨S1, eS1⟩ : ∃ z, z = mset S (t + 1) (va_cpy (S (t1 + 1)) (S (t + 1)) (Int32.toNatClampNeg (0 : Int32)) (Int32.toNatClampNeg (0 : Int32)) (Int32.toNatClampNeg ((S t1 3) * (nI (tWn t))))) := ⟨_, rfl⟩
      have h := h S1 eS1
      refine X_copy C (tabs_lt ht1).2 (tabs_lt ht).2 (wTabA _ _ ht1) (wTabA _ _ ht) q_241 q_243 q_242 q_11 (by decide) i1 i2 i3 i4 i5 (Nat.le_of_ble_eq_true rfl) (Nat.le_of_ble_eq_true rfl) eS1 (wTabA _ _ ht) dX4_copyFrom_46 ?_
      refine X_aload_n C 0 0 dX4_copyFrom_49 rfl rfl ?_
      refine X_aload_n C 1 1 dX4_copyFrom_50 rfl rfl ?_
      refine X_get C (tabs_lt ht1).1 (wTab _ _ ht1) rfl inX4 3 (by decide) q_38 rfl dX4_copyFrom_51 ?_
      obtain ⟨S2, eS2⟩ : ∃ z, z = mput S1 t 3 (S1 t1 3) := ⟨_, rfl⟩
      have h := h S2 eS2
      refine X_put C (tabs_lt ht).1 (wTab _ _ ht) rfl inX4 tyX4_ok nmX4 3 (by decide) q_38 rfl rfl rfl (Nat.le_of_ble_eq_true rfl) eS2 (wTab _ _ ht) dX4_copyFrom_54 ?_
      exact X_vret C E h dX4_copyFrom_57
    · have h := h.2 c
      exact X_vret C E h dX4_copyFrom_26
set_option maxRecDepth 100000 in
set_option maxHeartbeats 4000000 in
theorem M_X4_reset {l : Launch} {G : XG} (hJ : XJ G) {t : Nat} (ht : t ∈ tabs) {S : Mem} {a1 : Int32} {K : Mem → Prop} (h : P_X4_reset t S a1 K) : XMv l G yX4_reset cX4_reset 2 2 46 [.ref (xad G t), .int a1] S K := by
  refine X_meth RX4 rfl (by decide +kernel) hJ (Nat.le_of_ble_eq_true rfl) (fun κ hl hG C E => ?_)
  subst hl hG
  show XW κ S 0 [(0, .ref (xad (kG κ) t)), (1, .int a1)] []
  refine X_aload_n C 0 0 dX4_reset_0 rfl rfl ?_
  refine X_iconst C (0 : Int32) dX4_reset_1 (by decide) ?_
  refine X_iload_n C 1 1 dX4_reset_2 rfl rfl ?_
  refine X_aload_n C 0 0 dX4_reset_3 rfl rfl ?_
  refine X_get C (tabs_lt ht).1 (wTab _ _ ht) rfl inX4 2 (by decide) q_37 rfl dX4_reset_4 ?_
  refine X_min C q_369 q_346 q_4 q_347 (Nat.le_of_ble_eq_true rfl) (Nat.le_trans (show _ ≤ 21 from Nat.le_of_ble_eq_true rfl) (Nat.le_of_ble_eq_true rfl)) dX4_reset_7 ?_
  refine X_max C q_32 q_33 q_4 q_34 (Nat.le_of_ble_eq_true rfl) (Nat.le_trans (show _ ≤ 21 from Nat.le_of_ble_eq_true rfl) (Nat.le_of_ble_eq_true rfl)) dX4_reset_10 ?_
  obtain ⟨S1, eS1⟩ : ∃ z, z = mput S t 3 (if (0 : Int32) < (if (nI (tRn t)) < a1 then (nI (tRn t)) else a1) then (if (nI (tRn t)) < a1 then (nI (tRn t)) else a1) else (0 : Int32)) := ⟨_, rfl⟩
  have h := h S1 eS1
  refine X_put C (tabs_lt ht).1 (wTab _ _ ht) rfl inX4 tyX4_ok nmX4 3 (by decide) q_38 rfl rfl rfl (Nat.le_of_ble_eq_true rfl) eS1 (wTab _ _ ht) dX4_reset_13 ?_
  refine X_aload_n C 0 0 dX4_reset_16 rfl rfl ?_
  refine X_get C (tabs_lt ht).1 (wTab _ _ ht) rfl inX4 0 (by decide) q_35 rfl dX4_reset_17 ?_
  refine X_iconst C (0 : Int32) dX4_reset_20 (by decide) ?_
  refine X_aload_n C 0 0 dX4_reset_21 rfl rfl ?_
  refine X_get C (tabs_lt ht).1 (wTab _ _ ht) rfl inX4 3 (by decide) q_38 rfl dX4_reset_22 ?_
  refine X_aload_n C 0 0 dX4_reset_25 rfl rfl ?_
  refine X_get C (tabs_lt ht).1 (wTab _ _ ht) rfl inX4 1 (by decide) q_36 rfl dX4_reset_26 ?_
  refine X_imul C dX4_reset_29 ?_
  refine X_iconst C (0 : Int32) dX4_reset_30 (by decide) ?_
  refine X_callSv C eJ7_fill_fda19 [.ref (xad (kG κ) (t + 1)), .int (0 : Int32), .int ((S1 t 3) * (nI (tWn t))), .int (0 : Int32)] [] (M_J7_fill_fda19 C.g_J ht h) q_53 rfl ⟨(Nat.le_of_ble_eq_true rfl), (Nat.le_of_ble_eq_true rfl)⟩ rfl (Nat.le_of_ble_eq_true rfl) dX4_reset_31 (fun S2 h => ?_)
  exact X_vret C E h dX4_reset_34
set_option maxRecDepth 100000 in
set_option maxHeartbeats 4000000 in
theorem K_X4_sumOf_4 {κ : Kx} (C : XC κ RX4 cX4_sumOf 4 1 22) {K : Int32 → Mem → Prop} (E : XRet κ (some .int) (va_Qi K (XB (kG κ)) (XA (kG κ)))) {t : Nat} (ht : t ∈ tabs) : ∀ (n : Nat) (S : Mem) (x1 : Int32) (x2 : Int32) (x3 : Int32), B_X4_sumOf_4 t K n S x1 x2 x3 → XW κ S 4 [(0, .ref (xad (kG κ) t)), (1, .int x1), (2, .int x2), (3, .int x3)] [] := by
  intro n
  induction n with
  | zero => intro S x1 x2 x3 h; exact h.elim
  | succ n ih =>
    intro S x1 x2 x3 h
    refine X_iload_n C 3 3 dX4_sumOf_4 rfl rfl ?_
    refine X_aload_n C 0 0 dX4_sumOf_5 rfl rfl ?_
    refine X_get C (tabs_lt ht).1 (wTab _ _ ht) rfl inX4 3 (by decide) q_38 rfl dX4_sumOf_6 ?_
    refine X_icmp_ge C 27 dX4_sumOf_9 (by decide) (fun c => ?_) (fun c => ?_)
    · have h := h.1 c
      refine X_iload_n C 2 2 dX4_sumOf_27 rfl rfl ?_
      exact X_iret C E rfl h dX4_sumOf_28
    · have h := h.2 c
      refine X_iload_n C 2 2 dX4_sumOf_12 rfl rfl ?_
      refine X_aload_n C 0 0 dX4_sumOf_13 rfl rfl ?_
      refine X_iload_n C 3 3 dX4_sumOf_14 rfl rfl ?_
      refine X_iload_n C 1 1 dX4_sumOf_15 rfl rfl ?_
      refine X_callVi C eX4_at [.int x3, .int x1] [.int x2] (M_X4_at C.g_J ht h) (tabs_lt ht).1 (wTab _ _ ht) rfl q_454 rfl ⟨(Nat.le_of_ble_eq_true rfl), (Nat.le_of_ble_eq_true rfl)⟩ rfl (Nat.le_of_ble_eq_true rfl) dX4_sumOf_16 (fun r2 S1 h => ?_)
      refine X_iadd C dX4_sumOf_19 ?_
      refine X_istore_n C 2 [(2, .int (x2 + r2)), (0, .ref (xad (kG κ) t)), (1, .int x1), (3, .int x3)] dX4_sumOf_20 rfl (by decide) rfl ?_
      refine X_iinc C (x3 + (1 : Int32)) 3 [(3, .int (x3 + (1 : Int32))), (2, .int (x2 + r2)), (0, .ref (xad (kG κ) t)), (1, .int x1)] dX4_sumOf_21 rfl rfl (by decide) rfl ?_
      refine X_goto C 4 dX4_sumOf_24 (by decide) ?_
      refine X_sub [2, 3, 1, 0] rfl ?_
      exact ih _ _ _ _ h
set_option maxRecDepth 100000 in
set_option maxHeartbeats 4000000 in
theorem M_X4_sumOf {l : Launch} {G : XG} (hJ : XJ G) {t : Nat} (ht : t ∈ tabs) {S : Mem} {a1 : Int32} {K : Int32 → Mem → Prop} (h : P_X4_sumOf t S a1 K) : XMi l G yX4_sumOf cX4_sumOf 4 .int 1 22 [.ref (xad G t), .int a1] S K := by
  refine X_meth RX4 rfl (by decide +kernel) hJ (Nat.le_of_ble_eq_true rfl) (fun κ hl hG C E => ?_)
  subst hl hG
  show XW κ S 0 [(0, .ref (xad (kG κ) t)), (1, .int a1)] []
  refine X_iconst C (0 : Int32) dX4_sumOf_0 (by decide) ?_
  refine X_istore_n C 2 [(2, .int (0 : Int32)), (0, .ref (xad (kG κ) t)), (1, .int a1)] dX4_sumOf_1 rfl (by decide) rfl ?_
  refine X_iconst C (0 : Int32) dX4_sumOf_2 (by decide) ?_
  refine X_istore_n C 3 [(3, .int (0 : Int32)), (2, .int (0 : Int32)), (0, .ref (xad (kG κ) t)), (1, .int a1)] dX4_sumOf_3 rfl (by decide) rfl ?_
  refine X_sub [2, 3, 1, 0] rfl ?_
  obtain ⟨n3, h⟩ := h
  exact K_X4_sumOf_4 C E ht n3 _ _ _ _ h
set_option maxRecDepth 100000 in
set_option maxHeartbeats 4000000 in
theorem M_X4_remove {l : Launch} {G : XG} (hJ : XJ G) {t : Nat} (ht : t ∈ tabs) {S : Mem} {a1 : Int32} {K : Mem → Prop} (h : P_X4_remove t S a1 K) : XMv l G yX4_remove cX4_remove 3 1 60 [.ref (xad G t), .int a1] S K := by
  refine X_meth RX4 rfl (by decide +kernel) hJ (Nat.le_of_ble_eq_true rfl) (fun κ hl hG C E => ?_)
  subst hl hG
  show XW κ S 0 [(0, .ref (xad (kG κ) t)), (1, .int a1)] []
  refine X_iload_n C 1 1 dX4_remove_0 rfl rfl ?_
  refine X_if_lt C 12 dX4_remove_1 (by decide) (fun c => ?_) (fun c => ?_)
  · have h := h.1 c
    exact X_vret C E h dX4_remove_12
  · have h := h.2 c
    refine X_iload_n C 1 1 dX4_remove_4 rfl rfl ?_
    refine X_aload_n C 0 0 dX4_remove_5 rfl rfl ?_
    refine X_get C (tabs_lt ht).1 (wTab _ _ ht) rfl inX4 3 (by decide) q_38 rfl dX4_remove_6 ?_
    refine X_icmp_lt C 13 dX4_remove_9 (by decide) (fun c => ?_) (fun c => ?_)
    · have h := h.1 c
      refine X_iload_n C 1 1 dX4_remove_13 rfl rfl ?_
      refine X_aload_n C 0 0 dX4_remove_14 rfl rfl ?_
      refine X_get C (tabs_lt ht).1 (wTab _ _ ht) rfl inX4 1 (by decide) q_36 rfl dX4_remove_15 ?_
      refine X_imul C dX4_remove_18 ?_
      refine X_istore_n C 2 [(2, .int (a1 * (nI (tWn t)))), (0, .ref (xad (kG κ) t)), (1, .int a1)] dX4_remove_19 rfl (by decide) rfl ?_
      refine X_aload_n C 0 1 dX4_remove_20 rfl rfl ?_
      refine X_get C (tabs_lt ht).1 (wTab _ _ ht) rfl inX4 0 (by decide) q_35 rfl dX4_remove_21 ?_
      refine X_iload_n C 2 0 dX4_remove_24 rfl rfl ?_
      refine X_aload_n C 0 1 dX4_remove_25 rfl rfl ?_
      refine X_get C (tabs_lt ht).1 (wTab _ _ ht) rfl inX4 1 (by decide) q_36 rfl dX4_remove_26 ?_
      refine X_iadd C dX4_remove_29 ?_
      refine X_aload_n C 0 1 dX4_remove_30 rfl rfl ?_
      refine X_get C (tabs_lt ht).1 (wTab _ _ ht) rfl inX4 0 (by decide) q_35 rfl dX4_remove_31 ?_
      refine X_iload_n C 2 0 dX4_remove_34 rfl rfl ?_
      refine X_aload_n C 0 1 dX4_remove_35 rfl rfl ?_
      refine X_get C (tabs_lt ht).1 (wTab _ _ ht) rfl inX4 3 (by decide) q_38 rfl dX4_remove_36 ?_
      refine X_iload_n C 1 2 dX4_remove_39 rfl rfl ?_
      refine X_isub C dX4_remove_40 ?_
      refine X_iconst C (1 : Int32) dX4_remove_41 (by decide) ?_
      refine X_isub C dX4_remove_42 ?_
      refine X_aload_n C 0 1 dX4_remove_43 rfl rfl ?_
      refine X_get C (tabs_lt ht).1 (wTab _ _ ht) rfl inX4 1 (by decide) q_36 rfl dX4_remove_44 ?_
      refine X_imul C dX4_remove_47 ?_
      obtain ⟨i1, i2, i3, i4, i5, h⟩ := h
      obtain ⟨S1, eS1⟩ : ∃ z, z = mset S (t + 1) (va_cpy (S (t + 1)) (S (t + 1)) (Int32.toNatClampNeg ((a1 * (nI (tWn t))) + (nI (tWn t)))) (Int32.toNatClampNeg (a1 * (nI (tWn t)))) (Int32.toNatClampNeg ((((S t 3) - a1) - (1 : Int32)) * (nI (tWn t))))) := ⟨_, rfl⟩
      have h := h S1 eS1
      refine X_copy C (tabs_lt ht).2 (tabs_lt ht).2 (wTabA _ _ ht) (wTabA _ _ ht) q_241 q_243 q_242 q_11 (by decide) i1 i2 i3 i4 i5 (Nat.le_of_ble_eq_true rfl) (Nat.le_of_ble_eq_true rfl) eS1 (wTabA _ _ ht) dX4_remove_48 ?_
      refine X_aload_n C 0 1 dX4_remove_51 rfl rfl ?_
      refine X_dup C dX4_remove_52 rfl ?_
      refine X_get C (tabs_lt ht).1 (wTab _ _ ht) rfl inX4 3 (by decide) q_38 rfl dX4_remove_53 ?_
      refine X_iconst C (1 : Int32) dX4_remove_56 (by decide) ?_
      refine X_isub C dX4_remove_57 ?_
      obtain ⟨S2, eS2⟩ : ∃ z, z = mput S1 t 3 ((S1 t 3) - (1 : Int32)) := ⟨_, rfl⟩
      have h := h S2 eS2
      refine X_put C (tabs_lt ht).1 (wTab _ _ ht) rfl inX4 tyX4_ok nmX4 3 (by decide) q_38 rfl rfl rfl (Nat.le_of_ble_eq_true rfl) eS2 (wTab _ _ ht) dX4_remove_58 ?_
      exact X_vret C E h dX4_remove_61
    · have h := h.2 c
      exact X_vret C E h dX4_remove_12
set_option maxRecDepth 100000 in
set_option maxHeartbeats 4000000 in
theorem K_X4_greatestOf_4 {κ : Kx} (C : XC κ RX4 cX4_greatestOf 4 1 22) {K : Int32 → Mem → Prop} (E : XRet κ (some .int) (va_Qi K (XB (kG κ)) (XA (kG κ)))) {t : Nat} (ht : t ∈ tabs) : ∀ (n : Nat) (S : Mem) (x1 : Int32) (x2 : Int32) (x3 : Int32), B_X4_greatestOf_4 t K n S x1 x2 x3 → XW κ S 4 [(0, .ref (xad (kG κ) t)), (1, .int x1), (2, .int x2), (3, .int x3)] [] := by
  intro n
  induction n with
  | zero => intro S x1 x2 x3 h; exact h.elim
  | succ n ih =>
    intro S x1 x2 x3 h
    refine X_iload_n C 3 3 dX4_greatestOf_4 rfl rfl ?_
    refine X_aload_n C 0 0 dX4_greatestOf_5 rfl rfl ?_
    refine X_get C (tabs_lt ht).1 (wTab _ _ ht) rfl inX4 3 (by decide) q_38 rfl dX4_greatestOf_6 ?_
    refine X_icmp_ge C 29 dX4_greatestOf_9 (by decide) (fun c => ?_) (fun c => ?_)
    · have h := h.1 c
      refine X_iload_n C 2 2 dX4_greatestOf_29 rfl rfl ?_
      exact X_iret C E rfl h dX4_greatestOf_30
    · have h := h.2 c
      refine X_iload_n C 2 2 dX4_greatestOf_12 rfl rfl ?_
      refine X_aload_n C 0 0 dX4_greatestOf_13 rfl rfl ?_
      refine X_iload_n C 3 3 dX4_greatestOf_14 rfl rfl ?_
      refine X_iload_n C 1 1 dX4_greatestOf_15 rfl rfl ?_
      refine X_callVi C eX4_at [.int x3, .int x1] [.int x2] (M_X4_at C.g_J ht h) (tabs_lt ht).1 (wTab _ _ ht) rfl q_454 rfl ⟨(Nat.le_of_ble_eq_true rfl), (Nat.le_of_ble_eq_true rfl)⟩ rfl (Nat.le_of_ble_eq_true rfl) dX4_greatestOf_16 (fun r2 S1 h => ?_)
      refine X_max C q_32 q_33 q_4 q_34 (Nat.le_of_ble_eq_true rfl) (Nat.le_trans (show _ ≤ 21 from Nat.le_of_ble_eq_true rfl) (Nat.le_of_ble_eq_true rfl)) dX4_greatestOf_19 ?_
      refine X_istore_n C 2 [(2, .int (if x2 < r2 then r2 else x2)), (0, .ref (xad (kG κ) t)), (1, .int x1), (3, .int x3)] dX4_greatestOf_22 rfl (by decide) rfl ?_
      refine X_iinc C (x3 + (1 : Int32)) 3 [(3, .int (x3 + (1 : Int32))), (2, .int (if x2 < r2 then r2 else x2)), (0, .ref (xad (kG κ) t)), (1, .int x1)] dX4_greatestOf_23 rfl rfl (by decide) rfl ?_
      refine X_goto C 4 dX4_greatestOf_26 (by decide) ?_
      refine X_sub [2, 3, 1, 0] rfl ?_
      exact ih _ _ _ _ h
set_option maxRecDepth 100000 in
set_option maxHeartbeats 4000000 in
theorem M_X4_greatestOf {l : Launch} {G : XG} (hJ : XJ G) {t : Nat} (ht : t ∈ tabs) {S : Mem} {a1 : Int32} {K : Int32 → Mem → Prop} (h : P_X4_greatestOf t S a1 K) : XMi l G yX4_greatestOf cX4_greatestOf 4 .int 1 22 [.ref (xad G t), .int a1] S K := by
  refine X_meth RX4 rfl (by decide +kernel) hJ (Nat.le_of_ble_eq_true rfl) (fun κ hl hG C E => ?_)
  subst hl hG
  show XW κ S 0 [(0, .ref (xad (kG κ) t)), (1, .int a1)] []
  refine X_iconst C (0 : Int32) dX4_greatestOf_0 (by decide) ?_
  refine X_istore_n C 2 [(2, .int (0 : Int32)), (0, .ref (xad (kG κ) t)), (1, .int a1)] dX4_greatestOf_1 rfl (by decide) rfl ?_
  refine X_iconst C (0 : Int32) dX4_greatestOf_2 (by decide) ?_
  refine X_istore_n C 3 [(3, .int (0 : Int32)), (2, .int (0 : Int32)), (0, .ref (xad (kG κ) t)), (1, .int a1)] dX4_greatestOf_3 rfl (by decide) rfl ?_
  refine X_sub [2, 3, 1, 0] rfl ?_
  obtain ⟨n3, h⟩ := h
  exact K_X4_greatestOf_4 C E ht n3 _ _ _ _ h
set_option maxRecDepth 100000 in
set_option maxHeartbeats 4000000 in
theorem M_X6_isOutside {l : Launch} {G : XG} (hJ : XJ G) {S : Mem} {a0 : Int32} {a1 : Int32} {a2 : Int32} {K : Int32 → Mem → Prop} (h : P_X6_isOutside S a0 a1 a2 K) : XMi l G yX6_isOutside cX6_isOutside 3 .boolean 0 0 [.int a0, .int a1, .int a2] S K := by
  refine X_meth RX6 rfl (by decide +kernel) hJ (Nat.le_of_ble_eq_true rfl) (fun κ hl hG C E => ?_)
  subst hl hG
  show XW κ S 0 [(0, .int a0), (1, .int a1), (2, .int a2)] []
  refine X_iload_n C 0 0 dX6_isOutside_0 rfl rfl ?_
  refine X_iload_n C 1 1 dX6_isOutside_1 rfl rfl ?_
  refine X_icmp_lt C 10 dX6_isOutside_2 (by decide) (fun c => ?_) (fun c => ?_)
  · have h := h.1 c
    refine X_iconst C (1 : Int32) dX6_isOutside_10 (by decide) ?_
    refine X_goto C 15 dX6_isOutside_11 (by decide) ?_
    exact X_iret C E rfl h dX6_isOutside_15
  · have h := h.2 c
    refine X_iload_n C 0 0 dX6_isOutside_5 rfl rfl ?_
    refine X_iload_n C 2 2 dX6_isOutside_6 rfl rfl ?_
    refine X_icmp_le C 14 dX6_isOutside_7 (by decide) (fun c => ?_) (fun c => ?_)
    · have h := h.1 c
      refine X_iconst C (0 : Int32) dX6_isOutside_14 (by decide) ?_
      exact X_iret C E rfl h dX6_isOutside_15
    · have h := h.2 c
      refine X_iconst C (1 : Int32) dX6_isOutside_10 (by decide) ?_
      refine X_goto C 15 dX6_isOutside_11 (by decide) ?_
      exact X_iret C E rfl h dX6_isOutside_15
end
section
set_option maxRecDepth 100000 in
set_option maxHeartbeats 4000000 in
theorem M_X3_keyOf {l : Launch} {G : XG} (hJ : XJ G) {s : Nat} (hs : s ∈ sts) {S : Mem} {a1 : Int32} {K : Int32 → Mem → Prop} (h : P_X3_keyOf s S a1 K) : XMi l G yX3_keyOf cX3_keyOf 2 .int 1 22 [.ref (xad G s), .int a1] S K := by
  refine X_meth RX3 rfl (by decide +kernel) hJ (Nat.le_of_ble_eq_true rfl) (fun κ hl hG C E => ?_)
  subst hl hG
  show XW κ S 0 [(0, .ref (xad (kG κ) s)), (1, .int a1)] []
  refine X_aload_n C 0 0 dX3_keyOf_0 rfl rfl ?_
  refine X_get C (sts_tab hs).1 (wSta _ _ hs) rfl inX3 0 (by decide) q_60 rfl dX3_keyOf_1 ?_
  refine X_iload_n C 1 1 dX3_keyOf_4 rfl rfl ?_
  refine X_iconst C (0 : Int32) dX3_keyOf_5 (by decide) ?_
  refine X_callVi C eX4_at [.int a1, .int (0 : Int32)] [] (M_X4_at C.g_J (sts_tab hs).2.1 h) (tabs_lt (sts_tab hs).2.1).1 (wTab _ _ (sts_tab hs).2.1) rfl q_281 rfl ⟨(Nat.le_of_ble_eq_true rfl), (Nat.le_of_ble_eq_true rfl)⟩ rfl (Nat.le_of_ble_eq_true rfl) dX3_keyOf_6 (fun r2 S1 h => ?_)
  exact X_iret C E rfl h dX3_keyOf_9
set_option maxRecDepth 100000 in
set_option maxHeartbeats 4000000 in
theorem M_X3_valueOf {l : Launch} {G : XG} (hJ : XJ G) {s : Nat} (hs : s ∈ sts) {S : Mem} {a1 : Int32} {K : Int32 → Mem → Prop} (h : P_X3_valueOf s S a1 K) : XMi l G yX3_valueOf cX3_valueOf 2 .int 1 22 [.ref (xad G s), .int a1] S K := by
  refine X_meth RX3 rfl (by decide +kernel) hJ (Nat.le_of_ble_eq_true rfl) (fun κ hl hG C E => ?_)
  subst hl hG
  show XW κ S 0 [(0, .ref (xad (kG κ) s)), (1, .int a1)] []
  refine X_aload_n C 0 0 dX3_valueOf_0 rfl rfl ?_
  refine X_get C (sts_tab hs).1 (wSta _ _ hs) rfl inX3 0 (by decide) q_60 rfl dX3_valueOf_1 ?_
  refine X_iload_n C 1 1 dX3_valueOf_4 rfl rfl ?_
  refine X_iconst C (1 : Int32) dX3_valueOf_5 (by decide) ?_
  refine X_callVi C eX4_at [.int a1, .int (1 : Int32)] [] (M_X4_at C.g_J (sts_tab hs).2.1 h) (tabs_lt (sts_tab hs).2.1).1 (wTab _ _ (sts_tab hs).2.1) rfl q_281 rfl ⟨(Nat.le_of_ble_eq_true rfl), (Nat.le_of_ble_eq_true rfl)⟩ rfl (Nat.le_of_ble_eq_true rfl) dX3_valueOf_6 (fun r2 S1 h => ?_)
  exact X_iret C E rfl h dX3_valueOf_9
set_option maxRecDepth 100000 in
set_option maxHeartbeats 4000000 in
theorem M_X3_setting {l : Launch} {G : XG} (hJ : XJ G) {s : Nat} (hs : s ∈ sts) {S : Mem} {a1 : Int32} {K : Int32 → Mem → Prop} (h : P_X3_setting s S a1 K) : XMi l G yX3_setting cX3_setting 2 .int 1 22 [.ref (xad G s), .int a1] S K := by
  refine X_meth RX3 rfl (by decide +kernel) hJ (Nat.le_of_ble_eq_true rfl) (fun κ hl hG C E => ?_)
  subst hl hG
  show XW κ S 0 [(0, .ref (xad (kG κ) s)), (1, .int a1)] []
  refine X_aload_n C 0 0 dX3_setting_0 rfl rfl ?_
  refine X_get C (sts_tab hs).1 (wSta _ _ hs) rfl inX3 1 (by decide) q_63 rfl dX3_setting_1 ?_
  refine X_iload_n C 1 1 dX3_setting_4 rfl rfl ?_
  refine X_iconst C (0 : Int32) dX3_setting_5 (by decide) ?_
  refine X_callVi C eX4_at [.int a1, .int (0 : Int32)] [] (M_X4_at C.g_J (sts_tab hs).2.2 h) (tabs_lt (sts_tab hs).2.2).1 (wTab _ _ (sts_tab hs).2.2) rfl q_281 rfl ⟨(Nat.le_of_ble_eq_true rfl), (Nat.le_of_ble_eq_true rfl)⟩ rfl (Nat.le_of_ble_eq_true rfl) dX3_setting_6 (fun r2 S1 h => ?_)
  exact X_iret C E rfl h dX3_setting_9
set_option maxRecDepth 100000 in
set_option maxHeartbeats 4000000 in
theorem M_X3_hashOf {l : Launch} {G : XG} (hJ : XJ G) {s : Nat} (hs : s ∈ sts) {S : Mem} {a1 : Int32} {K : Int32 → Mem → Prop} (h : P_X3_hashOf s S a1 K) : XMi l G yX3_hashOf cX3_hashOf 2 .int 2 43 [.ref (xad G s), .int a1] S K := by
  refine X_meth RX3 rfl (by decide +kernel) hJ (Nat.le_of_ble_eq_true rfl) (fun κ hl hG C E => ?_)
  subst hl hG
  show XW κ S 0 [(0, .ref (xad (kG κ) s)), (1, .int a1)] []
  refine X_aload_n C 0 0 dX3_hashOf_0 rfl rfl ?_
  refine X_iload_n C 1 1 dX3_hashOf_1 rfl rfl ?_
  refine X_callVi C eX3_keyOf [.int a1] [] (M_X3_keyOf C.g_J hs h) (sts_tab hs).1 (wSta _ _ hs) rfl q_303 rfl ⟨(Nat.le_of_ble_eq_true rfl), (Nat.le_of_ble_eq_true rfl)⟩ rfl (Nat.le_of_ble_eq_true rfl) dX3_hashOf_2 (fun r2 S1 h => ?_)
  refine X_aload_n C 0 0 dX3_hashOf_5 rfl rfl ?_
  refine X_iconst C (2 : Int32) dX3_hashOf_6 (by decide) ?_
  refine X_callVi C eX3_setting [.int (2 : Int32)] [.int r2] (M_X3_setting C.g_J hs h) (sts_tab hs).1 (wSta _ _ hs) rfl q_304 rfl ⟨(Nat.le_of_ble_eq_true rfl), (Nat.le_of_ble_eq_true rfl)⟩ rfl (Nat.le_of_ble_eq_true rfl) dX3_hashOf_7 (fun r4 S3 h => ?_)
  refine X_imul C dX3_hashOf_10 ?_
  refine X_sipush C (7919 : Int32) dX3_hashOf_11 (by decide) ?_
  refine X_iadd C dX3_hashOf_14 ?_
  refine X_ldc C (65535 : Int32) q_305 dX3_hashOf_15 ?_
  refine X_iand C dX3_hashOf_17 ?_
  exact X_iret C E rfl h dX3_hashOf_18
set_option maxRecDepth 100000 in
set_option maxHeartbeats 4000000 in
theorem K_X0_addRow_79 {κ : Kx} (C : XC κ RX0 cX0_addRow 5 3 83) {K : Mem → Prop} (E : XRet κ none (va_Qv K (XB (kG κ)) (XA (kG κ)))) {S : Mem} {x2 : Int32} {x4 : Int32} (h : B_X0_addRow_79 K S x2 x4) : XW κ S 79 [(0, .ref (xad (kG κ) 28)), (2, .int x2), (4, .int x4)] [] := by
  refine X_aload_n C 0 0 dX0_addRow_79 rfl rfl ?_
  refine X_get C (by decide) (wc_28 _ _) rfl inX0 0 (by decide) q_97 rfl dX0_addRow_80 ?_
  refine X_iload C 2 dX0_addRow_83 rfl ?_
  refine X_iconst C (1 : Int32) dX0_addRow_85 (by decide) ?_
  refine X_iconst C (1 : Int32) dX0_addRow_86 (by decide) ?_
  refine X_callVv C eX4_raise [.int x4, .int (1 : Int32), .int (1 : Int32)] [] (M_X4_raise C.g_J (by decide) h) (by decide) (wc_29 _ _) rfl q_341 rfl ⟨(Nat.le_of_ble_eq_true rfl), (Nat.le_of_ble_eq_true rfl)⟩ rfl (Nat.le_of_ble_eq_true rfl) dX0_addRow_87 (fun S13 h => ?_)
  refine X_aload_n C 0 0 dX0_addRow_90 rfl rfl ?_
  refine X_get C (by decide) (wc_28 _ _) rfl inX0 0 (by decide) q_97 rfl dX0_addRow_91 ?_
  refine X_iload C 2 dX0_addRow_94 rfl ?_
  refine X_iconst C (2 : Int32) dX0_addRow_96 (by decide) ?_
  refine X_iload_n C 2 1 dX0_addRow_97 rfl rfl ?_
  refine X_callVv C eX4_raise [.int x4, .int (2 : Int32), .int x2] [] (M_X4_raise C.g_J (by decide) h) (by decide) (wc_29 _ _) rfl q_341 rfl ⟨(Nat.le_of_ble_eq_true rfl), (Nat.le_of_ble_eq_true rfl)⟩ rfl (Nat.le_of_ble_eq_true rfl) dX0_addRow_98 (fun S15 h => ?_)
  refine X_aload_n C 0 0 dX0_addRow_101 rfl rfl ?_
  refine X_get C (by decide) (wc_28 _ _) rfl inX0 0 (by decide) q_97 rfl dX0_addRow_102 ?_
  refine X_iload C 2 dX0_addRow_105 rfl ?_
  refine X_iconst C (3 : Int32) dX0_addRow_107 (by decide) ?_
  refine X_aload_n C 0 0 dX0_addRow_108 rfl rfl ?_
  refine X_get C (by decide) (wc_28 _ _) rfl inX0 0 (by decide) q_97 rfl dX0_addRow_109 ?_
  refine X_iload C 2 dX0_addRow_112 rfl ?_
  refine X_iconst C (3 : Int32) dX0_addRow_114 (by decide) ?_
  refine X_callVi C eX4_at [.int x4, .int (3 : Int32)] [.int (3 : Int32), .int x4, .ref (xad (kG κ) 29)] (M_X4_at C.g_J (by decide) h) (by decide) (wc_29 _ _) rfl q_335 rfl ⟨(Nat.le_of_ble_eq_true rfl), (Nat.le_of_ble_eq_true rfl)⟩ rfl (Nat.le_of_ble_eq_true rfl) dX0_addRow_115 (fun r18 S17 h => ?_)
  refine X_iload_n C 2 1 dX0_addRow_118 rfl rfl ?_
  refine X_min C q_345 q_346 q_4 q_347 (Nat.le_of_ble_eq_true rfl) (Nat.le_trans (show _ ≤ 21 from Nat.le_of_ble_eq_true rfl) (Nat.le_of_ble_eq_true rfl)) dX0_addRow_119 ?_
  refine X_callVv C eX4_put [.int x4, .int (3 : Int32), .int (if x2 < r18 then x2 else r18)] [] (M_X4_put C.g_J (by decide) h) (by decide) (wc_29 _ _) rfl q_340 rfl ⟨(Nat.le_of_ble_eq_true rfl), (Nat.le_of_ble_eq_true rfl)⟩ rfl (Nat.le_of_ble_eq_true rfl) dX0_addRow_122 (fun S19 h => ?_)
  refine X_aload_n C 0 0 dX0_addRow_125 rfl rfl ?_
  refine X_get C (by decide) (wc_28 _ _) rfl inX0 0 (by decide) q_97 rfl dX0_addRow_126 ?_
  refine X_iload C 2 dX0_addRow_129 rfl ?_
  refine X_iconst C (4 : Int32) dX0_addRow_131 (by decide) ?_
  refine X_aload_n C 0 0 dX0_addRow_132 rfl rfl ?_
  refine X_get C (by decide) (wc_28 _ _) rfl inX0 0 (by decide) q_97 rfl dX0_addRow_133 ?_
  refine X_iload C 2 dX0_addRow_136 rfl ?_
  refine X_iconst C (4 : Int32) dX0_addRow_138 (by decide) ?_
  refine X_callVi C eX4_at [.int x4, .int (4 : Int32)] [.int (4 : Int32), .int x4, .ref (xad (kG κ) 29)] (M_X4_at C.g_J (by decide) h) (by decide) (wc_29 _ _) rfl q_335 rfl ⟨(Nat.le_of_ble_eq_true rfl), (Nat.le_of_ble_eq_true rfl)⟩ rfl (Nat.le_of_ble_eq_true rfl) dX0_addRow_139 (fun r22 S21 h => ?_)
  refine X_iload_n C 2 1 dX0_addRow_142 rfl rfl ?_
  refine X_max C q_348 q_33 q_4 q_34 (Nat.le_of_ble_eq_true rfl) (Nat.le_trans (show _ ≤ 21 from Nat.le_of_ble_eq_true rfl) (Nat.le_of_ble_eq_true rfl)) dX0_addRow_143 ?_
  refine X_callVv C eX4_put [.int x4, .int (4 : Int32), .int (if r22 < x2 then x2 else r22)] [] (M_X4_put C.g_J (by decide) h) (by decide) (wc_29 _ _) rfl q_340 rfl ⟨(Nat.le_of_ble_eq_true rfl), (Nat.le_of_ble_eq_true rfl)⟩ rfl (Nat.le_of_ble_eq_true rfl) dX0_addRow_146 (fun S23 h => ?_)
  exact X_vret C E h dX0_addRow_149
set_option maxRecDepth 100000 in
set_option maxHeartbeats 4000000 in
theorem K_X0_addRow_36 {κ : Kx} (C : XC κ RX0 cX0_addRow 5 3 83) {K : Mem → Prop} (E : XRet κ none (va_Qv K (XB (kG κ)) (XA (kG κ)))) {S : Mem} {x1 : Int32} {x2 : Int32} {x3 : Int32} {x4 : Int32} (h : B_X0_addRow_36 K S x1 x2 x3 x4) : XW κ S 36 [(0, .ref (xad (kG κ) 28)), (1, .int x1), (2, .int x2), (3, .int x3), (4, .int x4)] [] := by
  refine X_aload_n C 0 0 dX0_addRow_36 rfl rfl ?_
  refine X_get C (by decide) (wc_28 _ _) rfl inX0 0 (by decide) q_97 rfl dX0_addRow_37 ?_
  refine X_iload C 4 dX0_addRow_40 rfl ?_
  refine X_iload_n C 1 1 dX0_addRow_42 rfl rfl ?_
  refine X_callVv C eX4_insert [.int x4, .int x1] [] (M_X4_insert C.g_J (by decide) h) (by decide) (wc_29 _ _) rfl q_336 rfl ⟨(Nat.le_of_ble_eq_true rfl), (Nat.le_of_ble_eq_true rfl)⟩ rfl (Nat.le_of_ble_eq_true rfl) dX0_addRow_43 (fun S5 h => ?_)
  refine X_aload_n C 0 0 dX0_addRow_46 rfl rfl ?_
  refine X_get C (by decide) (wc_28 _ _) rfl inX0 0 (by decide) q_97 rfl dX0_addRow_47 ?_
  refine X_iload C 4 dX0_addRow_50 rfl ?_
  refine X_iconst C (5 : Int32) dX0_addRow_52 (by decide) ?_
  refine X_iload_n C 3 3 dX0_addRow_53 rfl rfl ?_
  refine X_callVv C eX4_put [.int x4, .int (5 : Int32), .int x3] [] (M_X4_put C.g_J (by decide) h) (by decide) (wc_29 _ _) rfl q_340 rfl ⟨(Nat.le_of_ble_eq_true rfl), (Nat.le_of_ble_eq_true rfl)⟩ rfl (Nat.le_of_ble_eq_true rfl) dX0_addRow_54 (fun S7 h => ?_)
  refine X_aload_n C 0 0 dX0_addRow_57 rfl rfl ?_
  refine X_get C (by decide) (wc_28 _ _) rfl inX0 0 (by decide) q_97 rfl dX0_addRow_58 ?_
  refine X_iload C 4 dX0_addRow_61 rfl ?_
  refine X_iconst C (3 : Int32) dX0_addRow_63 (by decide) ?_
  refine X_iload_n C 2 2 dX0_addRow_64 rfl rfl ?_
  refine X_callVv C eX4_put [.int x4, .int (3 : Int32), .int x2] [] (M_X4_put C.g_J (by decide) h) (by decide) (wc_29 _ _) rfl q_340 rfl ⟨(Nat.le_of_ble_eq_true rfl), (Nat.le_of_ble_eq_true rfl)⟩ rfl (Nat.le_of_ble_eq_true rfl) dX0_addRow_65 (fun S9 h => ?_)
  refine X_aload_n C 0 0 dX0_addRow_68 rfl rfl ?_
  refine X_get C (by decide) (wc_28 _ _) rfl inX0 0 (by decide) q_97 rfl dX0_addRow_69 ?_
  refine X_iload C 4 dX0_addRow_72 rfl ?_
  refine X_iconst C (4 : Int32) dX0_addRow_74 (by decide) ?_
  refine X_iload_n C 2 2 dX0_addRow_75 rfl rfl ?_
  refine X_callVv C eX4_put [.int x4, .int (4 : Int32), .int x2] [] (M_X4_put C.g_J (by decide) h) (by decide) (wc_29 _ _) rfl q_340 rfl ⟨(Nat.le_of_ble_eq_true rfl), (Nat.le_of_ble_eq_true rfl)⟩ rfl (Nat.le_of_ble_eq_true rfl) dX0_addRow_76 (fun S11 h => ?_)
  refine X_sub [0, 2, 4] rfl ?_
  exact K_X0_addRow_79 C E h
set_option maxRecDepth 100000 in
set_option maxHeartbeats 4000000 in
theorem M_X0_addRow {l : Launch} {G : XG} (hJ : XJ G) {S : Mem} {a1 : Int32} {a2 : Int32} {a3 : Int32} {K : Mem → Prop} (h : P_X0_addRow S a1 a2 a3 K) : XMv l G yX0_addRow cX0_addRow 5 3 83 [.ref (xad G 28), .int a1, .int a2, .int a3] S K := by
  refine X_meth RX0 rfl (by decide +kernel) hJ (Nat.le_of_ble_eq_true rfl) (fun κ hl hG C E => ?_)
  subst hl hG
  show XW κ S 0 [(0, .ref (xad (kG κ) 28)), (1, .int a1), (2, .int a2), (3, .int a3)] []
  refine X_aload_n C 0 0 dX0_addRow_0 rfl rfl ?_
  refine X_get C (by decide) (wc_28 _ _) rfl inX0 0 (by decide) q_97 rfl dX0_addRow_1 ?_
  refine X_iload_n C 1 1 dX0_addRow_4 rfl rfl ?_
  refine X_callVi C eX4_placeOf [.int a1] [] (M_X4_placeOf C.g_J (by decide) h) (by decide) (wc_29 _ _) rfl q_331 rfl ⟨(Nat.le_of_ble_eq_true rfl), (Nat.le_of_ble_eq_true rfl)⟩ rfl (Nat.le_of_ble_eq_true rfl) dX0_addRow_5 (fun r2 S1 h => ?_)
  refine X_istore C [(4, .int r2), (0, .ref (xad (kG κ) 28)), (1, .int a1), (2, .int a2), (3, .int a3)] dX0_addRow_8 (by decide) rfl ?_
  refine X_iload C 0 dX0_addRow_10 rfl ?_
  refine X_aload_n C 0 1 dX0_addRow_12 rfl rfl ?_
  refine X_get C (by decide) (wc_28 _ _) rfl inX0 0 (by decide) q_97 rfl dX0_addRow_13 ?_
  refine X_callVi C eX4_length [] [.int r2] (M_X4_length C.g_J (by decide) h) (by decide) (wc_29 _ _) rfl q_323 rfl ⟨(Nat.le_of_ble_eq_true rfl), (Nat.le_of_ble_eq_true rfl)⟩ rfl (Nat.le_of_ble_eq_true rfl) dX0_addRow_16 (fun r4 S3 h => ?_)
  refine X_icmp_ge C 36 dX0_addRow_19 (by decide) (fun c => ?_) (fun c => ?_)
  · have h := h.1 c
    refine X_sub [1, 2, 3, 4, 0] rfl ?_
    exact K_X0_addRow_36 C E h
  · have h := h.2 c
    refine X_aload_n C 0 1 dX0_addRow_22 rfl rfl ?_
    refine X_get C (by decide) (wc_28 _ _) rfl inX0 0 (by decide) q_97 rfl dX0_addRow_23 ?_
    refine X_iload C 0 dX0_addRow_26 rfl ?_
    refine X_iconst C (0 : Int32) dX0_addRow_28 (by decide) ?_
    refine X_callVi C eX4_at [.int r2, .int (0 : Int32)] [] (M_X4_at C.g_J (by decide) h) (by decide) (wc_29 _ _) rfl q_335 rfl ⟨(Nat.le_of_ble_eq_true rfl), (Nat.le_of_ble_eq_true rfl)⟩ rfl (Nat.le_of_ble_eq_true rfl) dX0_addRow_29 (fun r26 S25 h => ?_)
    refine X_iload_n C 1 2 dX0_addRow_32 rfl rfl ?_
    refine X_icmp_eq C 79 dX0_addRow_33 (by decide) (fun c => ?_) (fun c => ?_)
    · have h := h.1 c
      refine X_sub [1, 3, 0] rfl ?_
      exact K_X0_addRow_79 C E h
    · have h := h.2 c
      refine X_sub [1, 2, 3, 4, 0] rfl ?_
      exact K_X0_addRow_36 C E h
set_option maxRecDepth 100000 in
set_option maxHeartbeats 4000000 in
theorem K_X0_gather_56 {κ : Kx} (C : XC κ RX0 cX0_gather 3 4 107) {K : Mem → Prop} (E : XRet κ none (va_Qv K (XB (kG κ)) (XA (kG κ)))) {s1 : Nat} (hs1 : s1 ∈ sts) : ∀ (n : Nat) (S : Mem) (x2 : Int32), B_X0_gather_56 s1 K n S x2 → XW κ S 56 [(0, .ref (xad (kG κ) 28)), (1, .ref (xad (kG κ) s1)), (2, .int x2)] [] := by
  intro n
  induction n with
  | zero => intro S x2 h; exact h.elim
  | succ n ih =>
    intro S x2 h
    refine X_iload_n C 2 2 dX0_gather_56 rfl rfl ?_
    refine X_aload_n C 1 1 dX0_gather_57 rfl rfl ?_
    refine X_getN C (sts_tab hs1).1 (wSta _ _ hs1) rfl inX3 0 (by decide) z_61 rfl dX0_gather_58 ?_
    refine X_callVi C eX4_length [] [.int x2] (M_X4_length C.g_J (sts_tab hs1).2.1 h) (tabs_lt (sts_tab hs1).2.1).1 (wTab _ _ (sts_tab hs1).2.1) rfl q_323 rfl ⟨(Nat.le_of_ble_eq_true rfl), (Nat.le_of_ble_eq_true rfl)⟩ rfl (Nat.le_of_ble_eq_true rfl) dX0_gather_61 (fun r8 S7 h => ?_)
    refine X_icmp_ge C 93 dX0_gather_64 (by decide) (fun c => ?_) (fun c => ?_)
    · have h := h.1 c
      exact X_vret C E h dX0_gather_93
    · have h := h.2 c
      refine X_aload_n C 0 0 dX0_gather_67 rfl rfl ?_
      refine X_get C (by decide) (wc_28 _ _) rfl inX0 1 (by decide) q_100 rfl dX0_gather_68 ?_
      refine X_aload_n C 0 0 dX0_gather_71 rfl rfl ?_
      refine X_get C (by decide) (wc_28 _ _) rfl inX0 0 (by decide) q_97 rfl dX0_gather_72 ?_
      refine X_aload_n C 1 1 dX0_gather_75 rfl rfl ?_
      refine X_iload_n C 2 2 dX0_gather_76 rfl rfl ?_
      refine X_callVi C eX3_keyOf [.int x2] [.ref (xad (kG κ) 29), .ref (xad (kG κ) 31)] (M_X3_keyOf C.g_J hs1 h) (sts_tab hs1).1 (wSta _ _ hs1) rfl q_324 rfl ⟨(Nat.le_of_ble_eq_true rfl), (Nat.le_of_ble_eq_true rfl)⟩ rfl (Nat.le_of_ble_eq_true rfl) dX0_gather_77 (fun r10 S9 h => ?_)
      refine X_callVi C eX4_placeOf [.int r10] [.ref (xad (kG κ) 31)] (M_X4_placeOf C.g_J (by decide) h) (by decide) (wc_29 _ _) rfl q_331 rfl ⟨(Nat.le_of_ble_eq_true rfl), (Nat.le_of_ble_eq_true rfl)⟩ rfl (Nat.le_of_ble_eq_true rfl) dX0_gather_80 (fun r12 S11 h => ?_)
      refine X_callVi C eX4_append [.int r12] [] (M_X4_append C.g_J (by decide) h) (by decide) (wc_31 _ _) rfl q_349 rfl ⟨(Nat.le_of_ble_eq_true rfl), (Nat.le_of_ble_eq_true rfl)⟩ rfl (Nat.le_of_ble_eq_true rfl) dX0_gather_83 (fun r14 S13 h => ?_)
      refine X_pop C dX0_gather_86 rfl ?_
      refine X_iinc C (x2 + (1 : Int32)) 2 [(2, .int (x2 + (1 : Int32))), (0, .ref (xad (kG κ) 28)), (1, .ref (xad (kG κ) s1))] dX0_gather_87 rfl rfl (by decide) rfl ?_
      refine X_goto C 56 dX0_gather_90 (by decide) ?_
      refine X_sub [1, 2, 0] rfl ?_
      exact ih _ _ h
set_option maxRecDepth 100000 in
set_option maxHeartbeats 4000000 in
theorem K_X0_gather_46 {κ : Kx} (C : XC κ RX0 cX0_gather 3 4 107) {K : Mem → Prop} (E : XRet κ none (va_Qv K (XB (kG κ)) (XA (kG κ)))) {s1 : Nat} (hs1 : s1 ∈ sts) {S : Mem} (h : B_X0_gather_46 s1 K S) : XW κ S 46 [(0, .ref (xad (kG κ) 28)), (1, .ref (xad (kG κ) s1))] [] := by
  refine X_aload_n C 0 0 dX0_gather_46 rfl rfl ?_
  refine X_get C (by decide) (wc_28 _ _) rfl inX0 1 (by decide) q_100 rfl dX0_gather_47 ?_
  refine X_iconst C (0 : Int32) dX0_gather_50 (by decide) ?_
  refine X_callVv C eX4_shorten [.int (0 : Int32)] [] (M_X4_shorten C.g_J (by decide) h) (by decide) (wc_31 _ _) rfl q_322 rfl ⟨(Nat.le_of_ble_eq_true rfl), (Nat.le_of_ble_eq_true rfl)⟩ rfl (Nat.le_of_ble_eq_true rfl) dX0_gather_51 (fun S5 h => ?_)
  refine X_iconst C (0 : Int32) dX0_gather_54 (by decide) ?_
  refine X_istore_n C 2 [(2, .int (0 : Int32)), (0, .ref (xad (kG κ) 28)), (1, .ref (xad (kG κ) s1))] dX0_gather_55 rfl (by decide) rfl ?_
  refine X_sub [1, 2, 0] rfl ?_
  obtain ⟨n15, h⟩ := h
  exact K_X0_gather_56 C E hs1 n15 _ _ h
set_option maxRecDepth 100000 in
set_option maxHeartbeats 4000000 in
theorem K_X0_gather_10 {κ : Kx} (C : XC κ RX0 cX0_gather 3 4 107) {K : Mem → Prop} (E : XRet κ none (va_Qv K (XB (kG κ)) (XA (kG κ)))) {s1 : Nat} (hs1 : s1 ∈ sts) : ∀ (n : Nat) (S : Mem) (x2 : Int32), B_X0_gather_10 s1 K n S x2 → XW κ S 10 [(0, .ref (xad (kG κ) 28)), (1, .ref (xad (kG κ) s1)), (2, .int x2)] [] := by
  intro n
  induction n with
  | zero => intro S x2 h; exact h.elim
  | succ n ih =>
    intro S x2 h
    refine X_iload_n C 2 2 dX0_gather_10 rfl rfl ?_
    refine X_aload_n C 1 1 dX0_gather_11 rfl rfl ?_
    refine X_getN C (sts_tab hs1).1 (wSta _ _ hs1) rfl inX3 0 (by decide) z_61 rfl dX0_gather_12 ?_
    refine X_callVi C eX4_length [] [.int x2] (M_X4_length C.g_J (sts_tab hs1).2.1 h) (tabs_lt (sts_tab hs1).2.1).1 (wTab _ _ (sts_tab hs1).2.1) rfl q_323 rfl ⟨(Nat.le_of_ble_eq_true rfl), (Nat.le_of_ble_eq_true rfl)⟩ rfl (Nat.le_of_ble_eq_true rfl) dX0_gather_15 (fun r4 S3 h => ?_)
    refine X_icmp_ge C 46 dX0_gather_18 (by decide) (fun c => ?_) (fun c => ?_)
    · have h := h.1 c
      refine X_sub [0, 1] rfl ?_
      exact K_X0_gather_46 C E hs1 h
    · have h := h.2 c
      refine X_aload_n C 0 0 dX0_gather_21 rfl rfl ?_
      refine X_aload_n C 1 1 dX0_gather_22 rfl rfl ?_
      refine X_iload_n C 2 2 dX0_gather_23 rfl rfl ?_
      refine X_callVi C eX3_keyOf [.int x2] [.ref (xad (kG κ) 28)] (M_X3_keyOf C.g_J hs1 h) (sts_tab hs1).1 (wSta _ _ hs1) rfl q_324 rfl ⟨(Nat.le_of_ble_eq_true rfl), (Nat.le_of_ble_eq_true rfl)⟩ rfl (Nat.le_of_ble_eq_true rfl) dX0_gather_24 (fun r17 S16 h => ?_)
      refine X_aload_n C 1 1 dX0_gather_27 rfl rfl ?_
      refine X_iload_n C 2 2 dX0_gather_28 rfl rfl ?_
      refine X_callVi C eX3_valueOf [.int x2] [.int r17, .ref (xad (kG κ) 28)] (M_X3_valueOf C.g_J hs1 h) (sts_tab hs1).1 (wSta _ _ hs1) rfl q_325 rfl ⟨(Nat.le_of_ble_eq_true rfl), (Nat.le_of_ble_eq_true rfl)⟩ rfl (Nat.le_of_ble_eq_true rfl) dX0_gather_29 (fun r19 S18 h => ?_)
      refine X_aload_n C 1 1 dX0_gather_32 rfl rfl ?_
      refine X_iload_n C 2 2 dX0_gather_33 rfl rfl ?_
      refine X_callVi C eX3_hashOf [.int x2] [.int r19, .int r17, .ref (xad (kG κ) 28)] (M_X3_hashOf C.g_J hs1 h) (sts_tab hs1).1 (wSta _ _ hs1) rfl q_326 rfl ⟨(Nat.le_of_ble_eq_true rfl), (Nat.le_of_ble_eq_true rfl)⟩ rfl (Nat.le_of_ble_eq_true rfl) dX0_gather_34 (fun r21 S20 h => ?_)
      refine X_callVv C eX0_addRow [.int r17, .int r19, .int r21] [] (M_X0_addRow C.g_J h) (by decide) (wc_28 _ _) rfl q_327 rfl ⟨(Nat.le_of_ble_eq_true rfl), (Nat.le_of_ble_eq_true rfl)⟩ rfl (Nat.le_of_ble_eq_true rfl) dX0_gather_37 (fun S22 h => ?_)
      refine X_iinc C (x2 + (1 : Int32)) 2 [(2, .int (x2 + (1 : Int32))), (0, .ref (xad (kG κ) 28)), (1, .ref (xad (kG κ) s1))] dX0_gather_40 rfl rfl (by decide) rfl ?_
      refine X_goto C 10 dX0_gather_43 (by decide) ?_
      refine X_sub [1, 2, 0] rfl ?_
      exact ih _ _ h
set_option maxRecDepth 100000 in
set_option maxHeartbeats 4000000 in
theorem M_X0_gather {l : Launch} {G : XG} (hJ : XJ G) {s1 : Nat} (hs1 : s1 ∈ sts) {S : Mem} {K : Mem → Prop} (h : P_X0_gather s1 S K) : XMv l G yX0_gather cX0_gather 3 4 107 [.ref (xad G 28), .ref (xad G s1)] S K := by
  refine X_meth RX0 rfl (by decide +kernel) hJ (Nat.le_of_ble_eq_true rfl) (fun κ hl hG C E => ?_)
  subst hl hG
  show XW κ S 0 [(0, .ref (xad (kG κ) 28)), (1, .ref (xad (kG κ) s1))] []
  refine X_aload_n C 0 0 dX0_gather_0 rfl rfl ?_
  refine X_get C (by decide) (wc_28 _ _) rfl inX0 0 (by decide) q_97 rfl dX0_gather_1 ?_
  refine X_iconst C (0 : Int32) dX0_gather_4 (by decide) ?_
  refine X_callVv C eX4_shorten [.int (0 : Int32)] [] (M_X4_shorten C.g_J (by decide) h) (by decide) (wc_29 _ _) rfl q_322 rfl ⟨(Nat.le_of_ble_eq_true rfl), (Nat.le_of_ble_eq_true rfl)⟩ rfl (Nat.le_of_ble_eq_true rfl) dX0_gather_5 (fun S1 h => ?_)
  refine X_iconst C (0 : Int32) dX0_gather_8 (by decide) ?_
  refine X_istore_n C 2 [(2, .int (0 : Int32)), (0, .ref (xad (kG κ) 28)), (1, .ref (xad (kG κ) s1))] dX0_gather_9 rfl (by decide) rfl ?_
  refine X_sub [1, 2, 0] rfl ?_
  obtain ⟨n24, h⟩ := h
  exact K_X0_gather_10 C E hs1 n24 _ _ h
set_option maxRecDepth 100000 in
set_option maxHeartbeats 4000000 in
theorem M_X1_length {l : Launch} {G : XG} (hJ : XJ G) {S : Mem} {K : Int32 → Mem → Prop} (h : P_X1_length S K) : XMi l G yX1_length cX1_length 1 .int 0 0 [.ref (xad G 6)] S K := by
  refine X_meth RX1 rfl (by decide +kernel) hJ (Nat.le_of_ble_eq_true rfl) (fun κ hl hG C E => ?_)
  subst hl hG
  show XW κ S 0 [(0, .ref (xad (kG κ) 6))] []
  refine X_aload_n C 0 0 dX1_length_0 rfl rfl ?_
  refine X_get C (by decide) (wc_6 _ _) rfl inX1 2 (by decide) q_81 rfl dX1_length_1 ?_
  exact X_iret C E rfl h dX1_length_4
set_option maxRecDepth 100000 in
set_option maxHeartbeats 4000000 in
theorem M_X1_stateAt {l : Launch} {G : XG} (hJ : XJ G) {S : Mem} {a1 : Int32} {K : Option Nat → Mem → Prop} (h : P_X1_stateAt S a1 K) : XMe l G yX1_stateAt cX1_stateAt 3 (.object "SpilledGroups$State") 0 0 [.ref (xad G 6), .int a1] S K := by
  refine X_meth RX1 rfl (by decide +kernel) hJ (Nat.le_of_ble_eq_true rfl) (fun κ hl hG C E => ?_)
  subst hl hG
  show XW κ S 0 [(0, .ref (xad (kG κ) 6)), (1, .int a1)] []
  refine X_iload_n C 1 1 dX1_stateAt_0 rfl rfl ?_
  refine X_if_lt C 9 dX1_stateAt_1 (by decide) (fun c => ?_) (fun c => ?_)
  · have h := h.1 c
    refine X_null C dX1_stateAt_9 ?_
    exact X_aret C E none rfl h dX1_stateAt_10
  · have h := h.2 c
    refine X_iload_n C 1 1 dX1_stateAt_4 rfl rfl ?_
    refine X_iconst C (4 : Int32) dX1_stateAt_5 (by decide) ?_
    refine X_icmp_lt C 11 dX1_stateAt_6 (by decide) (fun c => ?_) (fun c => ?_)
    · have h := h.1 c
      refine X_aload_n C 0 0 dX1_stateAt_11 rfl rfl ?_
      refine X_get C (by decide) (wc_6 _ _) rfl inX1 1 (by decide) q_80 rfl dX1_stateAt_12 ?_
      refine X_iload_n C 1 1 dX1_stateAt_15 rfl rfl ?_
      refine X_iadd C dX1_stateAt_16 ?_
      refine X_iconst C (4 : Int32) dX1_stateAt_17 (by decide) ?_
      refine X_irem C dX1_stateAt_18 (by decide) ?_
      refine X_istore_n C 2 [(2, .int (((S 6 1) + a1) - ((S 6 1) + a1) / (4 : Int32) * (4 : Int32))), (0, .ref (xad (kG κ) 6)), (1, .int a1)] dX1_stateAt_19 rfl (by decide) rfl ?_
      refine X_iload_n C 2 0 dX1_stateAt_20 rfl rfl ?_
      refine X_if_lt C 33 dX1_stateAt_21 (by decide) (fun c => ?_) (fun c => ?_)
      · have h := h.1 c
        refine X_null C dX1_stateAt_33 ?_
        refine X_goto C 43 dX1_stateAt_34 (by decide) ?_
        exact X_aret C E none rfl h dX1_stateAt_43
      · have h := h.2 c
        refine X_iload_n C 2 0 dX1_stateAt_24 rfl rfl ?_
        refine X_aload_n C 0 1 dX1_stateAt_25 rfl rfl ?_
        refine X_get C (by decide) (wc_6 _ _) rfl inX1 0 (by decide) q_79 rfl dX1_stateAt_26 ?_
        refine X_alenO C dX1_stateAt_29 ?_
        refine X_icmp_lt C 37 dX1_stateAt_30 (by decide) (fun c => ?_) (fun c => ?_)
        · have h := h.1 c
          refine X_aload_n C 0 1 dX1_stateAt_37 rfl rfl ?_
          refine X_get C (by decide) (wc_6 _ _) rfl inX1 0 (by decide) q_79 rfl dX1_stateAt_38 ?_
          refine X_iload_n C 2 0 dX1_stateAt_41 rfl rfl ?_
          obtain ⟨hin, h⟩ := h
          refine X_aald C hin dX1_stateAt_42 ?_
          exact X_aret C E (some (8 + 5 * Int32.toNatClampNeg (((S 6 1) + a1) - ((S 6 1) + a1) / (4 : Int32) * (4 : Int32)))) rfl h dX1_stateAt_43
        · have h := h.2 c
          refine X_null C dX1_stateAt_33 ?_
          refine X_goto C 43 dX1_stateAt_34 (by decide) ?_
          exact X_aret C E none rfl h dX1_stateAt_43
    · have h := h.2 c
      refine X_null C dX1_stateAt_9 ?_
      exact X_aret C E none rfl h dX1_stateAt_10
set_option maxRecDepth 100000 in
set_option maxHeartbeats 4000000 in
theorem M_X3_copyFrom {l : Launch} {G : XG} (hJ : XJ G) {s : Nat} (hs : s ∈ sts) {s1 : Nat} (hs1 : s1 ∈ sts) {S : Mem} {K : Mem → Prop} (h : P_X3_copyFrom s s1 S K) : XMv l G yX3_copyFrom cX3_copyFrom 2 2 81 [.ref (xad G s), .ref (xad G s1)] S K := by
  refine X_meth RX3 rfl (by decide +kernel) hJ (Nat.le_of_ble_eq_true rfl) (fun κ hl hG C E => ?_)
  subst hl hG
  show XW κ S 0 [(0, .ref (xad (kG κ) s)), (1, .ref (xad (kG κ) s1))] []
  refine X_aload_n C 0 0 dX3_copyFrom_0 rfl rfl ?_
  refine X_get C (sts_tab hs).1 (wSta _ _ hs) rfl inX3 0 (by decide) q_60 rfl dX3_copyFrom_1 ?_
  refine X_aload_n C 1 1 dX3_copyFrom_4 rfl rfl ?_
  refine X_get C (sts_tab hs1).1 (wSta _ _ hs1) rfl inX3 0 (by decide) q_60 rfl dX3_copyFrom_5 ?_
  refine X_callVv C eX4_copyFrom [.ref (xad (kG κ) (s1 + 1))] [] (M_X4_copyFrom C.g_J (sts_tab hs).2.1 (sts_tab hs1).2.1 h) (tabs_lt (sts_tab hs).2.1).1 (wTab _ _ (sts_tab hs).2.1) rfl q_237 rfl ⟨(Nat.le_of_ble_eq_true rfl), (Nat.le_of_ble_eq_true rfl)⟩ rfl (Nat.le_of_ble_eq_true rfl) dX3_copyFrom_8 (fun S1 h => ?_)
  refine X_aload_n C 0 0 dX3_copyFrom_11 rfl rfl ?_
  refine X_get C (sts_tab hs).1 (wSta _ _ hs) rfl inX3 1 (by decide) q_63 rfl dX3_copyFrom_12 ?_
  refine X_aload_n C 1 1 dX3_copyFrom_15 rfl rfl ?_
  refine X_get C (sts_tab hs1).1 (wSta _ _ hs1) rfl inX3 1 (by decide) q_63 rfl dX3_copyFrom_16 ?_
  refine X_callVv C eX4_copyFrom [.ref (xad (kG κ) (s1 + 3))] [] (M_X4_copyFrom C.g_J (sts_tab hs).2.2 (sts_tab hs1).2.2 h) (tabs_lt (sts_tab hs).2.2).1 (wTab _ _ (sts_tab hs).2.2) rfl q_237 rfl ⟨(Nat.le_of_ble_eq_true rfl), (Nat.le_of_ble_eq_true rfl)⟩ rfl (Nat.le_of_ble_eq_true rfl) dX3_copyFrom_19 (fun S3 h => ?_)
  exact X_vret C E h dX3_copyFrom_22
set_option maxRecDepth 100000 in
set_option maxHeartbeats 4000000 in
theorem K_X1_keep_30 {κ : Kx} (C : XC κ RX1 cX1_keep 3 3 102) {K : Mem → Prop} (E : XRet κ none (va_Qv K (XB (kG κ)) (XA (kG κ)))) {s1 : Nat} (hs1 : s1 ∈ sts) {S : Mem} (h : B_X1_keep_30 s1 K S) : XW κ S 30 [(0, .ref (xad (kG κ) 6)), (1, .ref (xad (kG κ) s1))] [] := by
  refine X_aload_n C 0 0 dX1_keep_30 rfl rfl ?_
  refine X_aload_n C 0 0 dX1_keep_31 rfl rfl ?_
  refine X_get C (by decide) (wc_6 _ _) rfl inX1 2 (by decide) q_81 rfl dX1_keep_32 ?_
  refine X_callVe C eX1_stateAt [.int (S 6 2)] [] (M_X1_stateAt C.g_J h) (by decide) (wc_6 _ _) rfl q_229 rfl ⟨(Nat.le_of_ble_eq_true rfl), (Nat.le_of_ble_eq_true rfl)⟩ rfl (Nat.le_of_ble_eq_true rfl) dX1_keep_35 (fun r2 S1 h => ?_)
  rcases r2 with _ | o3
  · have h := h.1 rfl
    refine X_storenull C 2 [(2, .null), (0, .ref (xad (kG κ) 6)), (1, .ref (xad (kG κ) s1))] dX1_keep_38 rfl (by decide) rfl ?_
    refine X_loadnull C 2 0 dX1_keep_39 rfl rfl ?_
    refine X_ifnull0 C 58 dX1_keep_40 (by decide) ?_
    refine X_sub [1, 2] rfl ?_
    exact X_vret C E h dX1_keep_58
  · obtain ⟨ho3, h⟩ := h.2 o3 rfl
    refine X_some ?_
    refine X_astore_n C 2 [(2, .ref (xad (kG κ) o3)), (0, .ref (xad (kG κ) 6)), (1, .ref (xad (kG κ) s1))] dX1_keep_38 rfl (by decide) rfl ?_
    refine X_aload_n C 2 0 dX1_keep_39 rfl rfl ?_
    refine X_ifnull C dX1_keep_40 ?_
    refine X_aload_n C 2 0 dX1_keep_43 rfl rfl ?_
    refine X_aload_n C 1 2 dX1_keep_44 rfl rfl ?_
    refine X_callVv C eX3_copyFrom [.ref (xad (kG κ) s1)] [] (M_X3_copyFrom C.g_J ho3 hs1 h) (sts_tab ho3).1 (wSta _ _ ho3) rfl q_233 rfl ⟨(Nat.le_of_ble_eq_true rfl), (Nat.le_of_ble_eq_true rfl)⟩ rfl (Nat.le_of_ble_eq_true rfl) dX1_keep_45 (fun S4 h => ?_)
    refine X_aload_n C 0 1 dX1_keep_48 rfl rfl ?_
    refine X_dup C dX1_keep_49 rfl ?_
    refine X_get C (by decide) (wc_6 _ _) rfl inX1 2 (by decide) q_81 rfl dX1_keep_50 ?_
    refine X_iconst C (1 : Int32) dX1_keep_53 (by decide) ?_
    refine X_iadd C dX1_keep_54 ?_
    obtain ⟨S6, eS6⟩ : ∃ z, z = mput S4 6 2 ((S4 6 2) + (1 : Int32)) := ⟨_, rfl⟩
    have h := h S6 eS6
    refine X_put C (by decide) (wc_6 _ _) rfl inX1 tyX1_ok nmX1 2 (by decide) q_81 rfl rfl rfl (Nat.le_of_ble_eq_true rfl) eS6 (wc_6 _ _) dX1_keep_55 ?_
    exact X_vret C E h dX1_keep_58
set_option maxRecDepth 100000 in
set_option maxHeartbeats 4000000 in
theorem M_X1_keep {l : Launch} {G : XG} (hJ : XJ G) {s1 : Nat} (hs1 : s1 ∈ sts) {S : Mem} {K : Mem → Prop} (h : P_X1_keep s1 S K) : XMv l G yX1_keep cX1_keep 3 3 102 [.ref (xad G 6), .ref (xad G s1)] S K := by
  refine X_meth RX1 rfl (by decide +kernel) hJ (Nat.le_of_ble_eq_true rfl) (fun κ hl hG C E => ?_)
  subst hl hG
  show XW κ S 0 [(0, .ref (xad (kG κ) 6)), (1, .ref (xad (kG κ) s1))] []
  refine X_aload_n C 0 0 dX1_keep_0 rfl rfl ?_
  refine X_get C (by decide) (wc_6 _ _) rfl inX1 2 (by decide) q_81 rfl dX1_keep_1 ?_
  refine X_iconst C (4 : Int32) dX1_keep_4 (by decide) ?_
  refine X_icmp_ne C 30 dX1_keep_5 (by decide) (fun c => ?_) (fun c => ?_)
  · have h := h.1 c
    exact K_X1_keep_30 C E hs1 h
  · have h := h.2 c
    refine X_aload_n C 0 0 dX1_keep_8 rfl rfl ?_
    refine X_aload_n C 0 0 dX1_keep_9 rfl rfl ?_
    refine X_get C (by decide) (wc_6 _ _) rfl inX1 1 (by decide) q_80 rfl dX1_keep_10 ?_
    refine X_iconst C (1 : Int32) dX1_keep_13 (by decide) ?_
    refine X_iadd C dX1_keep_14 ?_
    refine X_iconst C (4 : Int32) dX1_keep_15 (by decide) ?_
    refine X_irem C dX1_keep_16 (by decide) ?_
    obtain ⟨S7, eS7⟩ : ∃ z, z = mput S 6 1 (((S 6 1) + (1 : Int32)) - ((S 6 1) + (1 : Int32)) / (4 : Int32) * (4 : Int32)) := ⟨_, rfl⟩
    have h := h S7 eS7
    refine X_put C (by decide) (wc_6 _ _) rfl inX1 tyX1_ok nmX1 1 (by decide) q_80 rfl rfl rfl (Nat.le_of_ble_eq_true rfl) eS7 (wc_6 _ _) dX1_keep_17 ?_
    refine X_aload_n C 0 0 dX1_keep_20 rfl rfl ?_
    refine X_dup C dX1_keep_21 rfl ?_
    refine X_get C (by decide) (wc_6 _ _) rfl inX1 2 (by decide) q_81 rfl dX1_keep_22 ?_
    refine X_iconst C (1 : Int32) dX1_keep_25 (by decide) ?_
    refine X_isub C dX1_keep_26 ?_
    obtain ⟨S8, eS8⟩ : ∃ z, z = mput S7 6 2 ((S7 6 2) - (1 : Int32)) := ⟨_, rfl⟩
    have h := h S8 eS8
    refine X_put C (by decide) (wc_6 _ _) rfl inX1 tyX1_ok nmX1 2 (by decide) q_81 rfl rfl rfl (Nat.le_of_ble_eq_true rfl) eS8 (wc_6 _ _) dX1_keep_27 ?_
    exact K_X1_keep_30 C E hs1 h
set_option maxRecDepth 100000 in
set_option maxHeartbeats 4000000 in
theorem M_X1_restore {l : Launch} {G : XG} (hJ : XJ G) {s1 : Nat} (hs1 : s1 ∈ sts) {S : Mem} {K : Mem → Prop} (h : P_X1_restore s1 S K) : XMv l G yX1_restore cX1_restore 3 3 102 [.ref (xad G 6), .ref (xad G s1)] S K := by
  refine X_meth RX1 rfl (by decide +kernel) hJ (Nat.le_of_ble_eq_true rfl) (fun κ hl hG C E => ?_)
  subst hl hG
  show XW κ S 0 [(0, .ref (xad (kG κ) 6)), (1, .ref (xad (kG κ) s1))] []
  refine X_aload_n C 0 0 dX1_restore_0 rfl rfl ?_
  refine X_aload_n C 0 0 dX1_restore_1 rfl rfl ?_
  refine X_get C (by decide) (wc_6 _ _) rfl inX1 2 (by decide) q_81 rfl dX1_restore_2 ?_
  refine X_iconst C (1 : Int32) dX1_restore_5 (by decide) ?_
  refine X_isub C dX1_restore_6 ?_
  refine X_callVe C eX1_stateAt [.int ((S 6 2) - (1 : Int32))] [] (M_X1_stateAt C.g_J h) (by decide) (wc_6 _ _) rfl q_229 rfl ⟨(Nat.le_of_ble_eq_true rfl), (Nat.le_of_ble_eq_true rfl)⟩ rfl (Nat.le_of_ble_eq_true rfl) dX1_restore_7 (fun r2 S1 h => ?_)
  rcases r2 with _ | o3
  · have h := h.1 rfl
    refine X_storenull C 2 [(2, .null), (0, .ref (xad (kG κ) 6)), (1, .ref (xad (kG κ) s1))] dX1_restore_10 rfl (by decide) rfl ?_
    refine X_loadnull C 2 0 dX1_restore_11 rfl rfl ?_
    refine X_ifnull0 C 30 dX1_restore_12 (by decide) ?_
    refine X_sub [1, 2] rfl ?_
    exact X_vret C E h dX1_restore_30
  · obtain ⟨ho3, h⟩ := h.2 o3 rfl
    refine X_some ?_
    refine X_astore_n C 2 [(2, .ref (xad (kG κ) o3)), (0, .ref (xad (kG κ) 6)), (1, .ref (xad (kG κ) s1))] dX1_restore_10 rfl (by decide) rfl ?_
    refine X_aload_n C 2 0 dX1_restore_11 rfl rfl ?_
    refine X_ifnull C dX1_restore_12 ?_
    refine X_aload_n C 1 2 dX1_restore_15 rfl rfl ?_
    refine X_aload_n C 2 0 dX1_restore_16 rfl rfl ?_
    refine X_callVv C eX3_copyFrom [.ref (xad (kG κ) o3)] [] (M_X3_copyFrom C.g_J hs1 ho3 h) (sts_tab hs1).1 (wSta _ _ hs1) rfl q_233 rfl ⟨(Nat.le_of_ble_eq_true rfl), (Nat.le_of_ble_eq_true rfl)⟩ rfl (Nat.le_of_ble_eq_true rfl) dX1_restore_17 (fun S4 h => ?_)
    refine X_aload_n C 0 1 dX1_restore_20 rfl rfl ?_
    refine X_dup C dX1_restore_21 rfl ?_
    refine X_get C (by decide) (wc_6 _ _) rfl inX1 2 (by decide) q_81 rfl dX1_restore_22 ?_
    refine X_iconst C (1 : Int32) dX1_restore_25 (by decide) ?_
    refine X_isub C dX1_restore_26 ?_
    obtain ⟨S6, eS6⟩ : ∃ z, z = mput S4 6 2 ((S4 6 2) - (1 : Int32)) := ⟨_, rfl⟩
    have h := h S6 eS6
    refine X_put C (by decide) (wc_6 _ _) rfl inX1 tyX1_ok nmX1 2 (by decide) q_81 rfl rfl rfl (Nat.le_of_ble_eq_true rfl) eS6 (wc_6 _ _) dX1_restore_27 ?_
    exact X_vret C E h dX1_restore_30
set_option maxRecDepth 100000 in
set_option maxHeartbeats 4000000 in
theorem M_X3_addRow {l : Launch} {G : XG} (hJ : XJ G) {s : Nat} (hs : s ∈ sts) {S : Mem} {a1 : Int32} {a2 : Int32} {K : Mem → Prop} (h : P_X3_addRow s S a1 a2 K) : XMv l G yX3_addRow cX3_addRow 3 3 68 [.ref (xad G s), .int a1, .int a2] S K := by
  refine X_meth RX3 rfl (by decide +kernel) hJ (Nat.le_of_ble_eq_true rfl) (fun κ hl hG C E => ?_)
  subst hl hG
  show XW κ S 0 [(0, .ref (xad (kG κ) s)), (1, .int a1), (2, .int a2)] []
  refine X_aload_n C 0 0 dX3_addRow_0 rfl rfl ?_
  refine X_get C (sts_tab hs).1 (wSta _ _ hs) rfl inX3 0 (by decide) q_60 rfl dX3_addRow_1 ?_
  refine X_aload_n C 0 0 dX3_addRow_4 rfl rfl ?_
  refine X_get C (sts_tab hs).1 (wSta _ _ hs) rfl inX3 0 (by decide) q_60 rfl dX3_addRow_5 ?_
  refine X_iload_n C 1 1 dX3_addRow_8 rfl rfl ?_
  refine X_callVi C eX4_append [.int a1] [.ref (xad (kG κ) (s + 1))] (M_X4_append C.g_J (sts_tab hs).2.1 h) (tabs_lt (sts_tab hs).2.1).1 (wTab _ _ (sts_tab hs).2.1) rfl q_49 rfl ⟨(Nat.le_of_ble_eq_true rfl), (Nat.le_of_ble_eq_true rfl)⟩ rfl (Nat.le_of_ble_eq_true rfl) dX3_addRow_9 (fun r2 S1 h => ?_)
  refine X_iconst C (1 : Int32) dX3_addRow_12 (by decide) ?_
  refine X_iload_n C 2 2 dX3_addRow_13 rfl rfl ?_
  refine X_callVv C eX4_put [.int r2, .int (1 : Int32), .int a2] [] (M_X4_put C.g_J (sts_tab hs).2.1 h) (tabs_lt (sts_tab hs).2.1).1 (wTab _ _ (sts_tab hs).2.1) rfl q_248 rfl ⟨(Nat.le_of_ble_eq_true rfl), (Nat.le_of_ble_eq_true rfl)⟩ rfl (Nat.le_of_ble_eq_true rfl) dX3_addRow_14 (fun S3 h => ?_)
  exact X_vret C E h dX3_addRow_17
end
section
set_option maxRecDepth 100000 in
set_option maxHeartbeats 4000000 in
theorem M_X2_forget {l : Launch} {G : XG} (hJ : XJ G) {S : Mem} {K : Mem → Prop} (h : P_X2_forget S K) : XMv l G yX2_forget cX2_forget 1 0 0 [.ref (xad G 33)] S K := by
  refine X_meth RX2 rfl (by decide +kernel) hJ (Nat.le_of_ble_eq_true rfl) (fun κ hl hG C E => ?_)
  subst hl hG
  show XW κ S 0 [(0, .ref (xad (kG κ) 33))] []
  refine X_aload_n C 0 0 dX2_forget_0 rfl rfl ?_
  refine X_iconst C (0 : Int32) dX2_forget_1 (by decide) ?_
  obtain ⟨S1, eS1⟩ : ∃ z, z = mput S 33 9 (0 : Int32) := ⟨_, rfl⟩
  have h := h S1 eS1
  refine X_put C (by decide) (wc_33 _ _) rfl inX2 tyX2_ok nmX2 9 (by decide) q_129 rfl rfl rfl (Nat.le_of_ble_eq_true rfl) eS1 (wc_33 _ _) dX2_forget_2 ?_
  exact X_vret C E h dX2_forget_5
set_option maxRecDepth 100000 in
set_option maxHeartbeats 4000000 in
theorem M_X2_prefixOf {l : Launch} {G : XG} (hJ : XJ G) {S : Mem} {a1 : Int32} {a2 : Int32} {K : Int32 → Mem → Prop} (h : P_X2_prefixOf S a1 a2 K) : XMi l G yX2_prefixOf cX2_prefixOf 3 .int 1 22 [.ref (xad G 33), .int a1, .int a2] S K := by
  refine X_meth RX2 rfl (by decide +kernel) hJ (Nat.le_of_ble_eq_true rfl) (fun κ hl hG C E => ?_)
  subst hl hG
  show XW κ S 0 [(0, .ref (xad (kG κ) 33)), (1, .int a1), (2, .int a2)] []
  refine X_aload_n C 0 0 dX2_prefixOf_0 rfl rfl ?_
  refine X_get C (by decide) (wc_33 _ _) rfl inX2 0 (by decide) q_115 rfl dX2_prefixOf_1 ?_
  refine X_getN C (by decide) (wc_28 _ _) rfl inX0 0 (by decide) z_98 rfl dX2_prefixOf_4 ?_
  refine X_iload_n C 1 1 dX2_prefixOf_7 rfl rfl ?_
  refine X_iconst C (5 : Int32) dX2_prefixOf_8 (by decide) ?_
  refine X_callVi C eX4_at [.int a1, .int (5 : Int32)] [] (M_X4_at C.g_J (by decide) h) (by decide) (wc_29 _ _) rfl q_377 rfl ⟨(Nat.le_of_ble_eq_true rfl), (Nat.le_of_ble_eq_true rfl)⟩ rfl (Nat.le_of_ble_eq_true rfl) dX2_prefixOf_9 (fun r2 S1 h => ?_)
  refine X_bipush C (16 : Int32) dX2_prefixOf_12 (by decide) ?_
  refine X_iload_n C 2 2 dX2_prefixOf_14 rfl rfl ?_
  refine X_aload_n C 0 0 dX2_prefixOf_15 rfl rfl ?_
  refine X_get C (by decide) (wc_33 _ _) rfl inX2 10 (by decide) q_130 rfl dX2_prefixOf_16 ?_
  refine X_imul C dX2_prefixOf_19 ?_
  refine X_isub C dX2_prefixOf_20 ?_
  refine X_ishr C dX2_prefixOf_21 ?_
  exact X_iret C E rfl h dX2_prefixOf_22
set_option maxRecDepth 100000 in
set_option maxHeartbeats 4000000 in
theorem M_X2_partOf {l : Launch} {G : XG} (hJ : XJ G) {S : Mem} {a1 : Int32} {a2 : Int32} {K : Int32 → Mem → Prop} (h : P_X2_partOf S a1 a2 K) : XMi l G yX2_partOf cX2_partOf 4 .int 1 22 [.ref (xad G 33), .int a1, .int a2] S K := by
  refine X_meth RX2 rfl (by decide +kernel) hJ (Nat.le_of_ble_eq_true rfl) (fun κ hl hG C E => ?_)
  subst hl hG
  show XW κ S 0 [(0, .ref (xad (kG κ) 33)), (1, .int a1), (2, .int a2)] []
  refine X_aload_n C 0 0 dX2_partOf_0 rfl rfl ?_
  refine X_get C (by decide) (wc_33 _ _) rfl inX2 0 (by decide) q_115 rfl dX2_partOf_1 ?_
  refine X_getN C (by decide) (wc_28 _ _) rfl inX0 0 (by decide) z_98 rfl dX2_partOf_4 ?_
  refine X_iload_n C 1 1 dX2_partOf_7 rfl rfl ?_
  refine X_iconst C (5 : Int32) dX2_partOf_8 (by decide) ?_
  refine X_callVi C eX4_at [.int a1, .int (5 : Int32)] [] (M_X4_at C.g_J (by decide) h) (by decide) (wc_29 _ _) rfl q_377 rfl ⟨(Nat.le_of_ble_eq_true rfl), (Nat.le_of_ble_eq_true rfl)⟩ rfl (Nat.le_of_ble_eq_true rfl) dX2_partOf_9 (fun r2 S1 h => ?_)
  refine X_bipush C (16 : Int32) dX2_partOf_12 (by decide) ?_
  refine X_iload_n C 2 2 dX2_partOf_14 rfl rfl ?_
  refine X_iconst C (1 : Int32) dX2_partOf_15 (by decide) ?_
  refine X_iadd C dX2_partOf_16 ?_
  refine X_aload_n C 0 0 dX2_partOf_17 rfl rfl ?_
  refine X_get C (by decide) (wc_33 _ _) rfl inX2 10 (by decide) q_130 rfl dX2_partOf_18 ?_
  refine X_imul C dX2_partOf_21 ?_
  refine X_isub C dX2_partOf_22 ?_
  refine X_ishr C dX2_partOf_23 ?_
  refine X_istore_n C 3 [(3, .int (r2 >>> (((16 : Int32) - ((a2 + (1 : Int32)) * (S1 33 10))) &&& 31))), (0, .ref (xad (kG κ) 33)), (1, .int a1), (2, .int a2)] dX2_partOf_24 rfl (by decide) rfl ?_
  refine X_iload_n C 3 0 dX2_partOf_25 rfl rfl ?_
  refine X_iconst C (1 : Int32) dX2_partOf_26 (by decide) ?_
  refine X_aload_n C 0 1 dX2_partOf_27 rfl rfl ?_
  refine X_get C (by decide) (wc_33 _ _) rfl inX2 10 (by decide) q_130 rfl dX2_partOf_28 ?_
  refine X_ishl C dX2_partOf_31 ?_
  refine X_iconst C (1 : Int32) dX2_partOf_32 (by decide) ?_
  refine X_isub C dX2_partOf_33 ?_
  refine X_iand C dX2_partOf_34 ?_
  exact X_iret C E rfl h dX2_partOf_35
set_option maxRecDepth 100000 in
set_option maxHeartbeats 4000000 in
theorem M_X2_isSpilled {l : Launch} {G : XG} (hJ : XJ G) {S : Mem} {a1 : Int32} {a2 : Int32} {K : Int32 → Mem → Prop} (h : P_X2_isSpilled S a1 a2 K) : XMi l G yX2_isSpilled cX2_isSpilled 3 .boolean 1 22 [.ref (xad G 33), .int a1, .int a2] S K := by
  refine X_meth RX2 rfl (by decide +kernel) hJ (Nat.le_of_ble_eq_true rfl) (fun κ hl hG C E => ?_)
  subst hl hG
  show XW κ S 0 [(0, .ref (xad (kG κ) 33)), (1, .int a1), (2, .int a2)] []
  refine X_aload_n C 0 0 dX2_isSpilled_0 rfl rfl ?_
  refine X_get C (by decide) (wc_33 _ _) rfl inX2 1 (by decide) q_116 rfl dX2_isSpilled_1 ?_
  refine X_iload_n C 1 1 dX2_isSpilled_4 rfl rfl ?_
  refine X_iconst C (2 : Int32) dX2_isSpilled_5 (by decide) ?_
  refine X_callVi C eX4_at [.int a1, .int (2 : Int32)] [] (M_X4_at C.g_J (by decide) h) (by decide) (wc_34 _ _) rfl q_377 rfl ⟨(Nat.le_of_ble_eq_true rfl), (Nat.le_of_ble_eq_true rfl)⟩ rfl (Nat.le_of_ble_eq_true rfl) dX2_isSpilled_6 (fun r2 S1 h => ?_)
  refine X_iload_n C 2 2 dX2_isSpilled_9 rfl rfl ?_
  refine X_ishr C dX2_isSpilled_10 ?_
  refine X_iconst C (1 : Int32) dX2_isSpilled_11 (by decide) ?_
  refine X_iand C dX2_isSpilled_12 ?_
  refine X_iconst C (1 : Int32) dX2_isSpilled_13 (by decide) ?_
  refine X_icmp_ne C 21 dX2_isSpilled_14 (by decide) (fun c => ?_) (fun c => ?_)
  · have h := h.1 c
    refine X_iconst C (0 : Int32) dX2_isSpilled_21 (by decide) ?_
    exact X_iret C E rfl h dX2_isSpilled_22
  · have h := h.2 c
    refine X_iconst C (1 : Int32) dX2_isSpilled_17 (by decide) ?_
    refine X_goto C 22 dX2_isSpilled_18 (by decide) ?_
    exact X_iret C E rfl h dX2_isSpilled_22
set_option maxRecDepth 100000 in
set_option maxHeartbeats 4000000 in
theorem M_X2_isHeld {l : Launch} {G : XG} (hJ : XJ G) {S : Mem} {a1 : Int32} {K : Int32 → Mem → Prop} (h : P_X2_isHeld S a1 K) : XMi l G yX2_isHeld cX2_isHeld 3 .boolean 1 23 [.ref (xad G 33), .int a1] S K := by
  refine X_meth RX2 rfl (by decide +kernel) hJ (Nat.le_of_ble_eq_true rfl) (fun κ hl hG C E => ?_)
  subst hl hG
  show XW κ S 0 [(0, .ref (xad (kG κ) 33)), (1, .int a1)] []
  refine X_aload_n C 0 0 dX2_isHeld_0 rfl rfl ?_
  refine X_get C (by decide) (wc_33 _ _) rfl inX2 5 (by decide) q_124 rfl dX2_isHeld_1 ?_
  refine X_iload_n C 1 1 dX2_isHeld_4 rfl rfl ?_
  refine X_callVi C eX4_placeOf [.int a1] [] (M_X4_placeOf C.g_J (by decide) h) (by decide) (wc_42 _ _) rfl q_398 rfl ⟨(Nat.le_of_ble_eq_true rfl), (Nat.le_of_ble_eq_true rfl)⟩ rfl (Nat.le_of_ble_eq_true rfl) dX2_isHeld_5 (fun r2 S1 h => ?_)
  refine X_istore_n C 2 [(2, .int r2), (0, .ref (xad (kG κ) 33)), (1, .int a1)] dX2_isHeld_8 rfl (by decide) rfl ?_
  refine X_iload_n C 2 0 dX2_isHeld_9 rfl rfl ?_
  refine X_aload_n C 0 1 dX2_isHeld_10 rfl rfl ?_
  refine X_get C (by decide) (wc_33 _ _) rfl inX2 5 (by decide) q_124 rfl dX2_isHeld_11 ?_
  refine X_callVi C eX4_length [] [.int r2] (M_X4_length C.g_J (by decide) h) (by decide) (wc_42 _ _) rfl q_364 rfl ⟨(Nat.le_of_ble_eq_true rfl), (Nat.le_of_ble_eq_true rfl)⟩ rfl (Nat.le_of_ble_eq_true rfl) dX2_isHeld_14 (fun r4 S3 h => ?_)
  refine X_icmp_ge C 37 dX2_isHeld_17 (by decide) (fun c => ?_) (fun c => ?_)
  · have h := h.1 c
    refine X_iconst C (0 : Int32) dX2_isHeld_37 (by decide) ?_
    exact X_iret C E rfl h dX2_isHeld_38
  · have h := h.2 c
    refine X_aload_n C 0 1 dX2_isHeld_20 rfl rfl ?_
    refine X_get C (by decide) (wc_33 _ _) rfl inX2 5 (by decide) q_124 rfl dX2_isHeld_21 ?_
    refine X_iload_n C 2 0 dX2_isHeld_24 rfl rfl ?_
    refine X_iconst C (0 : Int32) dX2_isHeld_25 (by decide) ?_
    refine X_callVi C eX4_at [.int r2, .int (0 : Int32)] [] (M_X4_at C.g_J (by decide) h) (by decide) (wc_42 _ _) rfl q_377 rfl ⟨(Nat.le_of_ble_eq_true rfl), (Nat.le_of_ble_eq_true rfl)⟩ rfl (Nat.le_of_ble_eq_true rfl) dX2_isHeld_26 (fun r6 S5 h => ?_)
    refine X_iload_n C 1 2 dX2_isHeld_29 rfl rfl ?_
    refine X_icmp_ne C 37 dX2_isHeld_30 (by decide) (fun c => ?_) (fun c => ?_)
    · have h := h.1 c
      refine X_iconst C (0 : Int32) dX2_isHeld_37 (by decide) ?_
      exact X_iret C E rfl h dX2_isHeld_38
    · have h := h.2 c
      refine X_iconst C (1 : Int32) dX2_isHeld_33 (by decide) ?_
      refine X_goto C 38 dX2_isHeld_34 (by decide) ?_
      exact X_iret C E rfl h dX2_isHeld_38
set_option maxRecDepth 100000 in
set_option maxHeartbeats 4000000 in
theorem M_X2_needsSpill {l : Launch} {G : XG} (hJ : XJ G) {S : Mem} {a1 : Int32} {a2 : Int32} {a3 : Int32} {K : Int32 → Mem → Prop} (h : P_X2_needsSpill S a1 a2 a3 K) : XMi l G yX2_needsSpill cX2_needsSpill 4 .boolean 2 45 [.ref (xad G 33), .int a1, .int a2, .int a3] S K := by
  refine X_meth RX2 rfl (by decide +kernel) hJ (Nat.le_of_ble_eq_true rfl) (fun κ hl hG C E => ?_)
  subst hl hG
  show XW κ S 0 [(0, .ref (xad (kG κ) 33)), (1, .int a1), (2, .int a2), (3, .int a3)] []
  refine X_aload_n C 0 0 dX2_needsSpill_0 rfl rfl ?_
  refine X_get C (by decide) (wc_33 _ _) rfl inX2 5 (by decide) q_124 rfl dX2_needsSpill_1 ?_
  refine X_callVi C eX4_length [] [] (M_X4_length C.g_J (by decide) h) (by decide) (wc_42 _ _) rfl q_364 rfl ⟨(Nat.le_of_ble_eq_true rfl), (Nat.le_of_ble_eq_true rfl)⟩ rfl (Nat.le_of_ble_eq_true rfl) dX2_needsSpill_4 (fun r2 S1 h => ?_)
  refine X_aload_n C 0 0 dX2_needsSpill_7 rfl rfl ?_
  refine X_get C (by decide) (wc_33 _ _) rfl inX2 9 (by decide) q_129 rfl dX2_needsSpill_8 ?_
  refine X_icmp_lt C 48 dX2_needsSpill_11 (by decide) (fun c => ?_) (fun c => ?_)
  · have h := h.1 c
    refine X_iconst C (0 : Int32) dX2_needsSpill_48 (by decide) ?_
    exact X_iret C E rfl h dX2_needsSpill_49
  · have h := h.2 c
    refine X_iload_n C 2 2 dX2_needsSpill_14 rfl rfl ?_
    refine X_aload_n C 0 0 dX2_needsSpill_15 rfl rfl ?_
    refine X_get C (by decide) (wc_33 _ _) rfl inX2 11 (by decide) q_131 rfl dX2_needsSpill_16 ?_
    refine X_icmp_ge C 48 dX2_needsSpill_19 (by decide) (fun c => ?_) (fun c => ?_)
    · have h := h.1 c
      refine X_iconst C (0 : Int32) dX2_needsSpill_48 (by decide) ?_
      exact X_iret C E rfl h dX2_needsSpill_49
    · have h := h.2 c
      refine X_aload_n C 0 0 dX2_needsSpill_22 rfl rfl ?_
      refine X_iload_n C 1 1 dX2_needsSpill_23 rfl rfl ?_
      refine X_aload_n C 0 0 dX2_needsSpill_24 rfl rfl ?_
      refine X_iload_n C 3 3 dX2_needsSpill_25 rfl rfl ?_
      refine X_iload_n C 2 2 dX2_needsSpill_26 rfl rfl ?_
      refine X_callVi C eX2_partOf [.int a3, .int a2] [.int a1, .ref (xad (kG κ) 33)] (M_X2_partOf C.g_J h) (by decide) (wc_33 _ _) rfl q_386 rfl ⟨(Nat.le_of_ble_eq_true rfl), (Nat.le_of_ble_eq_true rfl)⟩ rfl (Nat.le_of_ble_eq_true rfl) dX2_needsSpill_27 (fun r4 S3 h => ?_)
      refine X_callVi C eX2_isSpilled [.int a1, .int r4] [] (M_X2_isSpilled C.g_J h) (by decide) (wc_33 _ _) rfl q_390 rfl ⟨(Nat.le_of_ble_eq_true rfl), (Nat.le_of_ble_eq_true rfl)⟩ rfl (Nat.le_of_ble_eq_true rfl) dX2_needsSpill_30 (fun r6 S5 h => ?_)
      refine X_if_ne C 48 dX2_needsSpill_33 (by decide) (fun c => ?_) (fun c => ?_)
      · have h := h.1 c
        refine X_iconst C (0 : Int32) dX2_needsSpill_48 (by decide) ?_
        exact X_iret C E rfl h dX2_needsSpill_49
      · have h := h.2 c
        refine X_aload_n C 0 0 dX2_needsSpill_36 rfl rfl ?_
        refine X_iload_n C 3 3 dX2_needsSpill_37 rfl rfl ?_
        refine X_callVi C eX2_isHeld [.int a3] [] (M_X2_isHeld C.g_J h) (by decide) (wc_33 _ _) rfl q_394 rfl ⟨(Nat.le_of_ble_eq_true rfl), (Nat.le_of_ble_eq_true rfl)⟩ rfl (Nat.le_of_ble_eq_true rfl) dX2_needsSpill_38 (fun r8 S7 h => ?_)
        refine X_if_ne C 48 dX2_needsSpill_41 (by decide) (fun c => ?_) (fun c => ?_)
        · have h := h.1 c
          refine X_iconst C (0 : Int32) dX2_needsSpill_48 (by decide) ?_
          exact X_iret C E rfl h dX2_needsSpill_49
        · have h := h.2 c
          refine X_iconst C (1 : Int32) dX2_needsSpill_44 (by decide) ?_
          refine X_goto C 49 dX2_needsSpill_45 (by decide) ?_
          exact X_iret C E rfl h dX2_needsSpill_49
set_option maxRecDepth 100000 in
set_option maxHeartbeats 4000000 in
theorem K_X2_fullestPart_38 {κ : Kx} (C : XC κ RX2 cX2_fullestPart 3 1 22) {K : Int32 → Mem → Prop} (E : XRet κ (some .int) (va_Qi K (XB (kG κ)) (XA (kG κ)))) {R4 : Mem → Int32 → Int32 → Prop} (hR4 : ∀ (S : Mem) (x1 x2 : Int32), R4 S x1 x2 → XW κ S 4 [(0, .ref (xad (kG κ) 33)), (1, .int x1), (2, .int x2)] []) {S : Mem} {x1 : Int32} {x2 : Int32} (h : B_X2_fullestPart_38 R4 K S x1 x2) : XW κ S 38 [(0, .ref (xad (kG κ) 33)), (1, .int x1), (2, .int x2)] [] := by
  refine X_iinc C (x2 + (1 : Int32)) 2 [(2, .int (x2 + (1 : Int32))), (0, .ref (xad (kG κ) 33)), (1, .int x1)] dX2_fullestPart_38 rfl rfl (by decide) rfl ?_
  refine X_goto C 4 dX2_fullestPart_41 (by decide) ?_
  refine X_sub [1, 2, 0] rfl ?_
  exact hR4 _ _ _ h
set_option maxRecDepth 100000 in
set_option maxHeartbeats 4000000 in
theorem K_X2_fullestPart_4 {κ : Kx} (C : XC κ RX2 cX2_fullestPart 3 1 22) {K : Int32 → Mem → Prop} (E : XRet κ (some .int) (va_Qi K (XB (kG κ)) (XA (kG κ)))) : ∀ (n : Nat) (S : Mem) (x1 : Int32) (x2 : Int32), B_X2_fullestPart_4 K n S x1 x2 → XW κ S 4 [(0, .ref (xad (kG κ) 33)), (1, .int x1), (2, .int x2)] [] := by
  intro n
  induction n with
  | zero => intro S x1 x2 h; exact h.elim
  | succ n ih =>
    intro S x1 x2 h
    refine X_iload_n C 2 2 dX2_fullestPart_4 rfl rfl ?_
    refine X_aload_n C 0 0 dX2_fullestPart_5 rfl rfl ?_
    refine X_get C (by decide) (wc_33 _ _) rfl inX2 6 (by decide) q_125 rfl dX2_fullestPart_6 ?_
    refine X_callVi C eX4_length [] [.int x2] (M_X4_length C.g_J (by decide) h) (by decide) (wc_44 _ _) rfl q_364 rfl ⟨(Nat.le_of_ble_eq_true rfl), (Nat.le_of_ble_eq_true rfl)⟩ rfl (Nat.le_of_ble_eq_true rfl) dX2_fullestPart_9 (fun r2 S1 h => ?_)
    refine X_icmp_ge C 44 dX2_fullestPart_12 (by decide) (fun c => ?_) (fun c => ?_)
    · have h := h.1 c
      refine X_iload_n C 1 1 dX2_fullestPart_44 rfl rfl ?_
      exact X_iret C E rfl h dX2_fullestPart_45
    · have h := h.2 c
      refine X_aload_n C 0 0 dX2_fullestPart_15 rfl rfl ?_
      refine X_get C (by decide) (wc_33 _ _) rfl inX2 6 (by decide) q_125 rfl dX2_fullestPart_16 ?_
      refine X_iload_n C 2 2 dX2_fullestPart_19 rfl rfl ?_
      refine X_iconst C (0 : Int32) dX2_fullestPart_20 (by decide) ?_
      refine X_callVi C eX4_at [.int x2, .int (0 : Int32)] [] (M_X4_at C.g_J (by decide) h) (by decide) (wc_44 _ _) rfl q_377 rfl ⟨(Nat.le_of_ble_eq_true rfl), (Nat.le_of_ble_eq_true rfl)⟩ rfl (Nat.le_of_ble_eq_true rfl) dX2_fullestPart_21 (fun r4 S3 h => ?_)
      refine X_aload_n C 0 0 dX2_fullestPart_24 rfl rfl ?_
      refine X_get C (by decide) (wc_33 _ _) rfl inX2 6 (by decide) q_125 rfl dX2_fullestPart_25 ?_
      refine X_iload_n C 1 1 dX2_fullestPart_28 rfl rfl ?_
      refine X_iconst C (0 : Int32) dX2_fullestPart_29 (by decide) ?_
      refine X_callVi C eX4_at [.int x1, .int (0 : Int32)] [.int r4] (M_X4_at C.g_J (by decide) h) (by decide) (wc_44 _ _) rfl q_377 rfl ⟨(Nat.le_of_ble_eq_true rfl), (Nat.le_of_ble_eq_true rfl)⟩ rfl (Nat.le_of_ble_eq_true rfl) dX2_fullestPart_30 (fun r6 S5 h => ?_)
      refine X_icmp_le C 38 dX2_fullestPart_33 (by decide) (fun c => ?_) (fun c => ?_)
      · have h := h.1 c
        exact K_X2_fullestPart_38 C E (fun _ _ _ h => ih _ _ _ h) h
      · have h := h.2 c
        refine X_iload_n C 2 2 dX2_fullestPart_36 rfl rfl ?_
        refine X_istore_n C 1 [(1, .int x2), (0, .ref (xad (kG κ) 33)), (2, .int x2)] dX2_fullestPart_37 rfl (by decide) rfl ?_
        refine X_sub [1, 0, 2] rfl ?_
        exact K_X2_fullestPart_38 C E (fun _ _ _ h => ih _ _ _ h) h
set_option maxRecDepth 100000 in
set_option maxHeartbeats 4000000 in
theorem M_X2_fullestPart {l : Launch} {G : XG} (hJ : XJ G) {S : Mem} {K : Int32 → Mem → Prop} (h : P_X2_fullestPart S K) : XMi l G yX2_fullestPart cX2_fullestPart 3 .int 1 22 [.ref (xad G 33)] S K := by
  refine X_meth RX2 rfl (by decide +kernel) hJ (Nat.le_of_ble_eq_true rfl) (fun κ hl hG C E => ?_)
  subst hl hG
  show XW κ S 0 [(0, .ref (xad (kG κ) 33))] []
  refine X_iconst C (0 : Int32) dX2_fullestPart_0 (by decide) ?_
  refine X_istore_n C 1 [(1, .int (0 : Int32)), (0, .ref (xad (kG κ) 33))] dX2_fullestPart_1 rfl (by decide) rfl ?_
  refine X_iconst C (1 : Int32) dX2_fullestPart_2 (by decide) ?_
  refine X_istore_n C 2 [(2, .int (1 : Int32)), (1, .int (0 : Int32)), (0, .ref (xad (kG κ) 33))] dX2_fullestPart_3 rfl (by decide) rfl ?_
  refine X_sub [2, 1, 0] rfl ?_
  obtain ⟨n7, h⟩ := h
  exact K_X2_fullestPart_4 C E n7 _ _ _ h
set_option maxRecDepth 100000 in
set_option maxHeartbeats 4000000 in
theorem K_X2_spillPart_86 {κ : Kx} (C : XC κ RX2 cX2_spillPart 7 3 68) {K : Mem → Prop} (E : XRet κ none (va_Qv K (XB (kG κ)) (XA (kG κ)))) {S : Mem} {x1 : Int32} {x2 : Int32} {x3 : Int32} {x4 : Int32} (h : B_X2_spillPart_86 K S x1 x2 x3 x4) : XW κ S 86 [(0, .ref (xad (kG κ) 33)), (1, .int x1), (2, .int x2), (3, .int x3), (4, .int x4)] [] := by
  refine X_aload_n C 0 0 dX2_spillPart_86 rfl rfl ?_
  refine X_get C (by decide) (wc_33 _ _) rfl inX2 5 (by decide) q_124 rfl dX2_spillPart_87 ?_
  refine X_callVi C eX4_length [] [] (M_X4_length C.g_J (by decide) h) (by decide) (wc_42 _ _) rfl q_364 rfl ⟨(Nat.le_of_ble_eq_true rfl), (Nat.le_of_ble_eq_true rfl)⟩ rfl (Nat.le_of_ble_eq_true rfl) dX2_spillPart_90 (fun r6 S5 h => ?_)
  refine X_iload C 4 dX2_spillPart_93 rfl ?_
  refine X_isub C dX2_spillPart_95 ?_
  refine X_istore C [(5, .int (r6 - x4)), (0, .ref (xad (kG κ) 33)), (1, .int x1), (2, .int x2), (3, .int x3), (4, .int x4)] dX2_spillPart_96 (by decide) rfl ?_
  refine X_aload_n C 0 1 dX2_spillPart_98 rfl rfl ?_
  refine X_get C (by decide) (wc_33 _ _) rfl inX2 5 (by decide) q_124 rfl dX2_spillPart_99 ?_
  refine X_iload C 5 dX2_spillPart_102 rfl ?_
  refine X_callVv C eX4_shorten [.int x4] [] (M_X4_shorten C.g_J (by decide) h) (by decide) (wc_42 _ _) rfl q_363 rfl ⟨(Nat.le_of_ble_eq_true rfl), (Nat.le_of_ble_eq_true rfl)⟩ rfl (Nat.le_of_ble_eq_true rfl) dX2_spillPart_104 (fun S7 h => ?_)
  refine X_aload_n C 0 1 dX2_spillPart_107 rfl rfl ?_
  refine X_get C (by decide) (wc_33 _ _) rfl inX2 2 (by decide) q_118 rfl dX2_spillPart_108 ?_
  refine X_iload_n C 3 4 dX2_spillPart_111 rfl rfl ?_
  refine X_callVi C eX4_append [.int x3] [] (M_X4_append C.g_J (by decide) h) (by decide) (wc_36 _ _) rfl q_375 rfl ⟨(Nat.le_of_ble_eq_true rfl), (Nat.le_of_ble_eq_true rfl)⟩ rfl (Nat.le_of_ble_eq_true rfl) dX2_spillPart_112 (fun r10 S9 h => ?_)
  refine X_istore C [(6, .int r10), (5, .int (r6 - x4)), (0, .ref (xad (kG κ) 33)), (1, .int x1), (2, .int x2), (3, .int x3), (4, .int x4)] dX2_spillPart_115 (by decide) rfl ?_
  refine X_aload_n C 0 2 dX2_spillPart_117 rfl rfl ?_
  refine X_get C (by decide) (wc_33 _ _) rfl inX2 2 (by decide) q_118 rfl dX2_spillPart_118 ?_
  refine X_iload C 0 dX2_spillPart_121 rfl ?_
  refine X_iconst C (1 : Int32) dX2_spillPart_123 (by decide) ?_
  refine X_aload_n C 0 2 dX2_spillPart_124 rfl rfl ?_
  refine X_get C (by decide) (wc_33 _ _) rfl inX2 1 (by decide) q_116 rfl dX2_spillPart_125 ?_
  refine X_iload_n C 1 3 dX2_spillPart_128 rfl rfl ?_
  refine X_bipush C (7 : Int32) dX2_spillPart_129 (by decide) ?_
  refine X_callVi C eX4_at [.int x1, .int (7 : Int32)] [.int (1 : Int32), .int r10, .ref (xad (kG κ) 36)] (M_X4_at C.g_J (by decide) h) (by decide) (wc_34 _ _) rfl q_377 rfl ⟨(Nat.le_of_ble_eq_true rfl), (Nat.le_of_ble_eq_true rfl)⟩ rfl (Nat.le_of_ble_eq_true rfl) dX2_spillPart_131 (fun r12 S11 h => ?_)
  refine X_callVv C eX4_put [.int r10, .int (1 : Int32), .int r12] [] (M_X4_put C.g_J (by decide) h) (by decide) (wc_36 _ _) rfl q_376 rfl ⟨(Nat.le_of_ble_eq_true rfl), (Nat.le_of_ble_eq_true rfl)⟩ rfl (Nat.le_of_ble_eq_true rfl) dX2_spillPart_134 (fun S13 h => ?_)
  refine X_aload_n C 0 2 dX2_spillPart_137 rfl rfl ?_
  refine X_get C (by decide) (wc_33 _ _) rfl inX2 2 (by decide) q_118 rfl dX2_spillPart_138 ?_
  refine X_iload C 0 dX2_spillPart_141 rfl ?_
  refine X_iconst C (2 : Int32) dX2_spillPart_143 (by decide) ?_
  refine X_iload_n C 2 4 dX2_spillPart_144 rfl rfl ?_
  refine X_callVv C eX4_put [.int r10, .int (2 : Int32), .int x2] [] (M_X4_put C.g_J (by decide) h) (by decide) (wc_36 _ _) rfl q_376 rfl ⟨(Nat.le_of_ble_eq_true rfl), (Nat.le_of_ble_eq_true rfl)⟩ rfl (Nat.le_of_ble_eq_true rfl) dX2_spillPart_145 (fun S15 h => ?_)
  refine X_aload_n C 0 2 dX2_spillPart_148 rfl rfl ?_
  refine X_get C (by decide) (wc_33 _ _) rfl inX2 2 (by decide) q_118 rfl dX2_spillPart_149 ?_
  refine X_iload C 0 dX2_spillPart_152 rfl ?_
  refine X_iconst C (3 : Int32) dX2_spillPart_154 (by decide) ?_
  refine X_iload C 1 dX2_spillPart_155 rfl ?_
  refine X_callVv C eX4_put [.int r10, .int (3 : Int32), .int (r6 - x4)] [] (M_X4_put C.g_J (by decide) h) (by decide) (wc_36 _ _) rfl q_376 rfl ⟨(Nat.le_of_ble_eq_true rfl), (Nat.le_of_ble_eq_true rfl)⟩ rfl (Nat.le_of_ble_eq_true rfl) dX2_spillPart_157 (fun S17 h => ?_)
  refine X_aload_n C 0 2 dX2_spillPart_160 rfl rfl ?_
  refine X_get C (by decide) (wc_33 _ _) rfl inX2 2 (by decide) q_118 rfl dX2_spillPart_161 ?_
  refine X_iload C 0 dX2_spillPart_164 rfl ?_
  refine X_iconst C (4 : Int32) dX2_spillPart_166 (by decide) ?_
  refine X_iload C 1 dX2_spillPart_167 rfl ?_
  refine X_callVv C eX4_put [.int r10, .int (4 : Int32), .int (r6 - x4)] [] (M_X4_put C.g_J (by decide) h) (by decide) (wc_36 _ _) rfl q_376 rfl ⟨(Nat.le_of_ble_eq_true rfl), (Nat.le_of_ble_eq_true rfl)⟩ rfl (Nat.le_of_ble_eq_true rfl) dX2_spillPart_169 (fun S19 h => ?_)
  refine X_aload_n C 0 2 dX2_spillPart_172 rfl rfl ?_
  refine X_get C (by decide) (wc_33 _ _) rfl inX2 6 (by decide) q_125 rfl dX2_spillPart_173 ?_
  refine X_iload_n C 2 4 dX2_spillPart_176 rfl rfl ?_
  refine X_iconst C (0 : Int32) dX2_spillPart_177 (by decide) ?_
  refine X_iconst C (0 : Int32) dX2_spillPart_178 (by decide) ?_
  refine X_callVv C eX4_put [.int x2, .int (0 : Int32), .int (0 : Int32)] [] (M_X4_put C.g_J (by decide) h) (by decide) (wc_44 _ _) rfl q_376 rfl ⟨(Nat.le_of_ble_eq_true rfl), (Nat.le_of_ble_eq_true rfl)⟩ rfl (Nat.le_of_ble_eq_true rfl) dX2_spillPart_179 (fun S21 h => ?_)
  refine X_aload_n C 0 2 dX2_spillPart_182 rfl rfl ?_
  refine X_get C (by decide) (wc_33 _ _) rfl inX2 6 (by decide) q_125 rfl dX2_spillPart_183 ?_
  refine X_iload_n C 2 4 dX2_spillPart_186 rfl rfl ?_
  refine X_iconst C (1 : Int32) dX2_spillPart_187 (by decide) ?_
  refine X_iload C 0 dX2_spillPart_188 rfl ?_
  refine X_callVv C eX4_put [.int x2, .int (1 : Int32), .int r10] [] (M_X4_put C.g_J (by decide) h) (by decide) (wc_44 _ _) rfl q_376 rfl ⟨(Nat.le_of_ble_eq_true rfl), (Nat.le_of_ble_eq_true rfl)⟩ rfl (Nat.le_of_ble_eq_true rfl) dX2_spillPart_190 (fun S23 h => ?_)
  refine X_aload_n C 0 2 dX2_spillPart_193 rfl rfl ?_
  refine X_get C (by decide) (wc_33 _ _) rfl inX2 1 (by decide) q_116 rfl dX2_spillPart_194 ?_
  refine X_iload_n C 1 3 dX2_spillPart_197 rfl rfl ?_
  refine X_iconst C (2 : Int32) dX2_spillPart_198 (by decide) ?_
  refine X_iconst C (1 : Int32) dX2_spillPart_199 (by decide) ?_
  refine X_iload_n C 2 4 dX2_spillPart_200 rfl rfl ?_
  refine X_ishl C dX2_spillPart_201 ?_
  refine X_callVv C eX4_raise [.int x1, .int (2 : Int32), .int ((1 : Int32) <<< (x2 &&& 31))] [] (M_X4_raise C.g_J (by decide) h) (by decide) (wc_34 _ _) rfl q_407 rfl ⟨(Nat.le_of_ble_eq_true rfl), (Nat.le_of_ble_eq_true rfl)⟩ rfl (Nat.le_of_ble_eq_true rfl) dX2_spillPart_202 (fun S25 h => ?_)
  refine X_aload_n C 0 2 dX2_spillPart_205 rfl rfl ?_
  refine X_get C (by decide) (wc_33 _ _) rfl inX2 1 (by decide) q_116 rfl dX2_spillPart_206 ?_
  refine X_iload_n C 1 3 dX2_spillPart_209 rfl rfl ?_
  refine X_iconst C (3 : Int32) dX2_spillPart_210 (by decide) ?_
  refine X_iload C 1 dX2_spillPart_211 rfl ?_
  refine X_callVv C eX4_raise [.int x1, .int (3 : Int32), .int (r6 - x4)] [] (M_X4_raise C.g_J (by decide) h) (by decide) (wc_34 _ _) rfl q_407 rfl ⟨(Nat.le_of_ble_eq_true rfl), (Nat.le_of_ble_eq_true rfl)⟩ rfl (Nat.le_of_ble_eq_true rfl) dX2_spillPart_213 (fun S27 h => ?_)
  exact X_vret C E h dX2_spillPart_216
set_option maxRecDepth 100000 in
set_option maxHeartbeats 4000000 in
theorem K_X2_spillPart_80 {κ : Kx} (C : XC κ RX2 cX2_spillPart 7 3 68) {K : Mem → Prop} (E : XRet κ none (va_Qv K (XB (kG κ)) (XA (kG κ)))) {R17 : Mem → Int32 → Int32 → Int32 → Int32 → Int32 → Prop} (hR17 : ∀ (S : Mem) (x1 x2 x3 x4 x5 : Int32), R17 S x1 x2 x3 x4 x5 → XW κ S 17 [(0, .ref (xad (kG κ) 33)), (1, .int x1), (2, .int x2), (3, .int x3), (4, .int x4), (5, .int x5)] []) {S : Mem} {x1 : Int32} {x2 : Int32} {x3 : Int32} {x4 : Int32} {x5 : Int32} (h : B_X2_spillPart_80 R17 K S x1 x2 x3 x4 x5) : XW κ S 80 [(0, .ref (xad (kG κ) 33)), (1, .int x1), (2, .int x2), (3, .int x3), (4, .int x4), (5, .int x5)] [] := by
  refine X_iinc C (x5 + (1 : Int32)) 5 [(5, .int (x5 + (1 : Int32))), (0, .ref (xad (kG κ) 33)), (1, .int x1), (2, .int x2), (3, .int x3), (4, .int x4)] dX2_spillPart_80 rfl rfl (by decide) rfl ?_
  refine X_goto C 17 dX2_spillPart_83 (by decide) ?_
  refine X_sub [1, 2, 3, 4, 5, 0] rfl ?_
  exact hR17 _ _ _ _ _ _ h
set_option maxRecDepth 100000 in
set_option maxHeartbeats 4000000 in
theorem K_X2_spillPart_17 {κ : Kx} (C : XC κ RX2 cX2_spillPart 7 3 68) {K : Mem → Prop} (E : XRet κ none (va_Qv K (XB (kG κ)) (XA (kG κ)))) : ∀ (n : Nat) (S : Mem) (x1 : Int32) (x2 : Int32) (x3 : Int32) (x4 : Int32) (x5 : Int32), B_X2_spillPart_17 K n S x1 x2 x3 x4 x5 → XW κ S 17 [(0, .ref (xad (kG κ) 33)), (1, .int x1), (2, .int x2), (3, .int x3), (4, .int x4), (5, .int x5)] [] := by
  intro n
  induction n with
  | zero => intro S x1 x2 x3 x4 x5 h; exact h.elim
  | succ n ih =>
    intro S x1 x2 x3 x4 x5 h
    refine X_iload C 5 dX2_spillPart_17 rfl ?_
    refine X_aload_n C 0 0 dX2_spillPart_19 rfl rfl ?_
    refine X_get C (by decide) (wc_33 _ _) rfl inX2 5 (by decide) q_124 rfl dX2_spillPart_20 ?_
    refine X_callVi C eX4_length [] [.int x5] (M_X4_length C.g_J (by decide) h) (by decide) (wc_42 _ _) rfl q_364 rfl ⟨(Nat.le_of_ble_eq_true rfl), (Nat.le_of_ble_eq_true rfl)⟩ rfl (Nat.le_of_ble_eq_true rfl) dX2_spillPart_23 (fun r4 S3 h => ?_)
    refine X_icmp_ge C 86 dX2_spillPart_26 (by decide) (fun c => ?_) (fun c => ?_)
    · have h := h.1 c
      refine X_sub [0, 1, 2, 3, 4] rfl ?_
      exact K_X2_spillPart_86 C E h
    · have h := h.2 c
      refine X_aload_n C 0 0 dX2_spillPart_29 rfl rfl ?_
      refine X_get C (by decide) (wc_33 _ _) rfl inX2 5 (by decide) q_124 rfl dX2_spillPart_30 ?_
      refine X_iload C 5 dX2_spillPart_33 rfl ?_
      refine X_iconst C (0 : Int32) dX2_spillPart_35 (by decide) ?_
      refine X_callVi C eX4_at [.int x5, .int (0 : Int32)] [] (M_X4_at C.g_J (by decide) h) (by decide) (wc_42 _ _) rfl q_377 rfl ⟨(Nat.le_of_ble_eq_true rfl), (Nat.le_of_ble_eq_true rfl)⟩ rfl (Nat.le_of_ble_eq_true rfl) dX2_spillPart_36 (fun r30 S29 h => ?_)
      refine X_istore C [(6, .int r30), (0, .ref (xad (kG κ) 33)), (1, .int x1), (2, .int x2), (3, .int x3), (4, .int x4), (5, .int x5)] dX2_spillPart_39 (by decide) rfl ?_
      refine X_aload_n C 0 1 dX2_spillPart_41 rfl rfl ?_
      refine X_iload C 0 dX2_spillPart_42 rfl ?_
      refine X_iload_n C 3 4 dX2_spillPart_44 rfl rfl ?_
      refine X_callVi C eX2_partOf [.int r30, .int x3] [] (M_X2_partOf C.g_J h) (by decide) (wc_33 _ _) rfl q_386 rfl ⟨(Nat.le_of_ble_eq_true rfl), (Nat.le_of_ble_eq_true rfl)⟩ rfl (Nat.le_of_ble_eq_true rfl) dX2_spillPart_45 (fun r32 S31 h => ?_)
      refine X_iload_n C 2 3 dX2_spillPart_48 rfl rfl ?_
      refine X_icmp_ne C 65 dX2_spillPart_49 (by decide) (fun c => ?_) (fun c => ?_)
      · have h := h.1 c
        refine X_aload_n C 0 1 dX2_spillPart_65 rfl rfl ?_
        refine X_get C (by decide) (wc_33 _ _) rfl inX2 5 (by decide) q_124 rfl dX2_spillPart_66 ?_
        refine X_iload C 5 dX2_spillPart_69 rfl ?_
        refine X_iconst C (0 : Int32) dX2_spillPart_71 (by decide) ?_
        refine X_iload C 0 dX2_spillPart_72 rfl ?_
        refine X_callVv C eX4_put [.int x4, .int (0 : Int32), .int r30] [] (M_X4_put C.g_J (by decide) h) (by decide) (wc_42 _ _) rfl q_376 rfl ⟨(Nat.le_of_ble_eq_true rfl), (Nat.le_of_ble_eq_true rfl)⟩ rfl (Nat.le_of_ble_eq_true rfl) dX2_spillPart_74 (fun S33 h => ?_)
        refine X_iinc C (x4 + (1 : Int32)) 5 [(4, .int (x4 + (1 : Int32))), (6, .int r30), (0, .ref (xad (kG κ) 33)), (1, .int x1), (2, .int x2), (3, .int x3), (5, .int x5)] dX2_spillPart_77 rfl rfl (by decide) rfl ?_
        refine X_sub [2, 3, 4, 5, 0, 6] rfl ?_
        exact K_X2_spillPart_80 C E (fun _ _ _ _ _ _ h => ih _ _ _ _ _ _ h) h
      · have h := h.2 c
        refine X_aload_n C 0 1 dX2_spillPart_52 rfl rfl ?_
        refine X_get C (by decide) (wc_33 _ _) rfl inX2 7 (by decide) q_126 rfl dX2_spillPart_53 ?_
        refine X_iload C 0 dX2_spillPart_56 rfl ?_
        refine X_callVi C eX4_append [.int r30] [] (M_X4_append C.g_J (by decide) h) (by decide) (wc_46 _ _) rfl q_375 rfl ⟨(Nat.le_of_ble_eq_true rfl), (Nat.le_of_ble_eq_true rfl)⟩ rfl (Nat.le_of_ble_eq_true rfl) dX2_spillPart_58 (fun r36 S35 h => ?_)
        refine X_pop C dX2_spillPart_61 rfl ?_
        refine X_goto C 80 dX2_spillPart_62 (by decide) ?_
        refine X_sub [1, 2, 3, 4, 5, 6] rfl ?_
        exact K_X2_spillPart_80 C E (fun _ _ _ _ _ _ h => ih _ _ _ _ _ _ h) h
set_option maxRecDepth 100000 in
set_option maxHeartbeats 4000000 in
theorem M_X2_spillPart {l : Launch} {G : XG} (hJ : XJ G) {S : Mem} {a1 : Int32} {a2 : Int32} {K : Mem → Prop} (h : P_X2_spillPart S a1 a2 K) : XMv l G yX2_spillPart cX2_spillPart 7 3 68 [.ref (xad G 33), .int a1, .int a2] S K := by
  refine X_meth RX2 rfl (by decide +kernel) hJ (Nat.le_of_ble_eq_true rfl) (fun κ hl hG C E => ?_)
  subst hl hG
  show XW κ S 0 [(0, .ref (xad (kG κ) 33)), (1, .int a1), (2, .int a2)] []
  refine X_aload_n C 0 0 dX2_spillPart_0 rfl rfl ?_
  refine X_get C (by decide) (wc_33 _ _) rfl inX2 1 (by decide) q_116 rfl dX2_spillPart_1 ?_
  refine X_iload_n C 1 1 dX2_spillPart_4 rfl rfl ?_
  refine X_bipush C (6 : Int32) dX2_spillPart_5 (by decide) ?_
  refine X_callVi C eX4_at [.int a1, .int (6 : Int32)] [] (M_X4_at C.g_J (by decide) h) (by decide) (wc_34 _ _) rfl q_377 rfl ⟨(Nat.le_of_ble_eq_true rfl), (Nat.le_of_ble_eq_true rfl)⟩ rfl (Nat.le_of_ble_eq_true rfl) dX2_spillPart_7 (fun r2 S1 h => ?_)
  refine X_istore_n C 3 [(3, .int r2), (0, .ref (xad (kG κ) 33)), (1, .int a1), (2, .int a2)] dX2_spillPart_10 rfl (by decide) rfl ?_
  refine X_iconst C (0 : Int32) dX2_spillPart_11 (by decide) ?_
  refine X_istore C [(4, .int (0 : Int32)), (3, .int r2), (0, .ref (xad (kG κ) 33)), (1, .int a1), (2, .int a2)] dX2_spillPart_12 (by decide) rfl ?_
  refine X_iconst C (0 : Int32) dX2_spillPart_14 (by decide) ?_
  refine X_istore C [(5, .int (0 : Int32)), (4, .int (0 : Int32)), (3, .int r2), (0, .ref (xad (kG κ) 33)), (1, .int a1), (2, .int a2)] dX2_spillPart_15 (by decide) rfl ?_
  refine X_sub [3, 4, 5, 2, 1, 0] rfl ?_
  obtain ⟨n37, h⟩ := h
  exact K_X2_spillPart_17 C E n37 _ _ _ _ _ _ h
set_option maxRecDepth 100000 in
set_option maxHeartbeats 4000000 in
theorem K_X2_layGroup_24 {κ : Kx} (C : XC κ RX2 cX2_layGroup 4 3 83) {K : Mem → Prop} (E : XRet κ none (va_Qv K (XB (kG κ)) (XA (kG κ)))) {S : Mem} {x1 : Int32} {x2 : Int32} {x3 : Int32} (h : B_X2_layGroup_24 K S x1 x2 x3) : XW κ S 24 [(0, .ref (xad (kG κ) 33)), (1, .int x1), (2, .int x2), (3, .int x3)] [] := by
  refine X_aload_n C 0 0 dX2_layGroup_24 rfl rfl ?_
  refine X_get C (by decide) (wc_33 _ _) rfl inX2 5 (by decide) q_124 rfl dX2_layGroup_25 ?_
  refine X_aload_n C 0 0 dX2_layGroup_28 rfl rfl ?_
  refine X_get C (by decide) (wc_33 _ _) rfl inX2 5 (by decide) q_124 rfl dX2_layGroup_29 ?_
  refine X_iload_n C 3 3 dX2_layGroup_32 rfl rfl ?_
  refine X_callVi C eX4_placeOf [.int x3] [.ref (xad (kG κ) 42)] (M_X4_placeOf C.g_J (by decide) h) (by decide) (wc_42 _ _) rfl q_398 rfl ⟨(Nat.le_of_ble_eq_true rfl), (Nat.le_of_ble_eq_true rfl)⟩ rfl (Nat.le_of_ble_eq_true rfl) dX2_layGroup_33 (fun r4 S3 h => ?_)
  refine X_iload_n C 3 3 dX2_layGroup_36 rfl rfl ?_
  refine X_callVv C eX4_insert [.int r4, .int x3] [] (M_X4_insert C.g_J (by decide) h) (by decide) (wc_42 _ _) rfl q_416 rfl ⟨(Nat.le_of_ble_eq_true rfl), (Nat.le_of_ble_eq_true rfl)⟩ rfl (Nat.le_of_ble_eq_true rfl) dX2_layGroup_37 (fun S5 h => ?_)
  refine X_aload_n C 0 0 dX2_layGroup_40 rfl rfl ?_
  refine X_get C (by decide) (wc_33 _ _) rfl inX2 6 (by decide) q_125 rfl dX2_layGroup_41 ?_
  refine X_iload_n C 2 2 dX2_layGroup_44 rfl rfl ?_
  refine X_iconst C (0 : Int32) dX2_layGroup_45 (by decide) ?_
  refine X_iconst C (1 : Int32) dX2_layGroup_46 (by decide) ?_
  refine X_callVv C eX4_raise [.int x2, .int (0 : Int32), .int (1 : Int32)] [] (M_X4_raise C.g_J (by decide) h) (by decide) (wc_44 _ _) rfl q_407 rfl ⟨(Nat.le_of_ble_eq_true rfl), (Nat.le_of_ble_eq_true rfl)⟩ rfl (Nat.le_of_ble_eq_true rfl) dX2_layGroup_47 (fun S7 h => ?_)
  refine X_aload_n C 0 0 dX2_layGroup_50 rfl rfl ?_
  refine X_get C (by decide) (wc_33 _ _) rfl inX2 1 (by decide) q_116 rfl dX2_layGroup_51 ?_
  refine X_iload_n C 1 1 dX2_layGroup_54 rfl rfl ?_
  refine X_iconst C (4 : Int32) dX2_layGroup_55 (by decide) ?_
  refine X_aload_n C 0 0 dX2_layGroup_56 rfl rfl ?_
  refine X_get C (by decide) (wc_33 _ _) rfl inX2 1 (by decide) q_116 rfl dX2_layGroup_57 ?_
  refine X_iload_n C 1 1 dX2_layGroup_60 rfl rfl ?_
  refine X_iconst C (4 : Int32) dX2_layGroup_61 (by decide) ?_
  refine X_callVi C eX4_at [.int x1, .int (4 : Int32)] [.int (4 : Int32), .int x1, .ref (xad (kG κ) 34)] (M_X4_at C.g_J (by decide) h) (by decide) (wc_34 _ _) rfl q_377 rfl ⟨(Nat.le_of_ble_eq_true rfl), (Nat.le_of_ble_eq_true rfl)⟩ rfl (Nat.le_of_ble_eq_true rfl) dX2_layGroup_62 (fun r10 S9 h => ?_)
  refine X_aload_n C 0 0 dX2_layGroup_65 rfl rfl ?_
  refine X_get C (by decide) (wc_33 _ _) rfl inX2 5 (by decide) q_124 rfl dX2_layGroup_66 ?_
  refine X_callVi C eX4_length [] [.int r10, .int (4 : Int32), .int x1, .ref (xad (kG κ) 34)] (M_X4_length C.g_J (by decide) h) (by decide) (wc_42 _ _) rfl q_364 rfl ⟨(Nat.le_of_ble_eq_true rfl), (Nat.le_of_ble_eq_true rfl)⟩ rfl (Nat.le_of_ble_eq_true rfl) dX2_layGroup_69 (fun r12 S11 h => ?_)
  refine X_max C q_417 q_33 q_4 q_34 (Nat.le_of_ble_eq_true rfl) (Nat.le_trans (show _ ≤ 21 from Nat.le_of_ble_eq_true rfl) (Nat.le_of_ble_eq_true rfl)) dX2_layGroup_72 ?_
  refine X_callVv C eX4_put [.int x1, .int (4 : Int32), .int (if r10 < r12 then r12 else r10)] [] (M_X4_put C.g_J (by decide) h) (by decide) (wc_34 _ _) rfl q_376 rfl ⟨(Nat.le_of_ble_eq_true rfl), (Nat.le_of_ble_eq_true rfl)⟩ rfl (Nat.le_of_ble_eq_true rfl) dX2_layGroup_75 (fun S13 h => ?_)
  exact X_vret C E h dX2_layGroup_78
set_option maxRecDepth 100000 in
set_option maxHeartbeats 4000000 in
theorem M_X2_layGroup {l : Launch} {G : XG} (hJ : XJ G) {S : Mem} {a1 : Int32} {a2 : Int32} {a3 : Int32} {K : Mem → Prop} (h : P_X2_layGroup S a1 a2 a3 K) : XMv l G yX2_layGroup cX2_layGroup 4 3 83 [.ref (xad G 33), .int a1, .int a2, .int a3] S K := by
  refine X_meth RX2 rfl (by decide +kernel) hJ (Nat.le_of_ble_eq_true rfl) (fun κ hl hG C E => ?_)
  subst hl hG
  show XW κ S 0 [(0, .ref (xad (kG κ) 33)), (1, .int a1), (2, .int a2), (3, .int a3)] []
  refine X_aload_n C 0 0 dX2_layGroup_0 rfl rfl ?_
  refine X_get C (by decide) (wc_33 _ _) rfl inX2 5 (by decide) q_124 rfl dX2_layGroup_1 ?_
  refine X_callVi C eX4_length [] [] (M_X4_length C.g_J (by decide) h) (by decide) (wc_42 _ _) rfl q_364 rfl ⟨(Nat.le_of_ble_eq_true rfl), (Nat.le_of_ble_eq_true rfl)⟩ rfl (Nat.le_of_ble_eq_true rfl) dX2_layGroup_4 (fun r2 S1 h => ?_)
  refine X_aload_n C 0 0 dX2_layGroup_7 rfl rfl ?_
  refine X_get C (by decide) (wc_33 _ _) rfl inX2 9 (by decide) q_129 rfl dX2_layGroup_8 ?_
  refine X_icmp_lt C 24 dX2_layGroup_11 (by decide) (fun c => ?_) (fun c => ?_)
  · have h := h.1 c
    exact K_X2_layGroup_24 C E h
  · have h := h.2 c
    refine X_aload_n C 0 0 dX2_layGroup_14 rfl rfl ?_
    refine X_dup C dX2_layGroup_15 rfl ?_
    refine X_get C (by decide) (wc_33 _ _) rfl inX2 8 (by decide) q_127 rfl dX2_layGroup_16 ?_
    refine X_iconst C (1 : Int32) dX2_layGroup_19 (by decide) ?_
    refine X_iadd C dX2_layGroup_20 ?_
    obtain ⟨S15, eS15⟩ : ∃ z, z = mput S1 33 8 ((S1 33 8) + (1 : Int32)) := ⟨_, rfl⟩
    have h := h S15 eS15
    refine X_put C (by decide) (wc_33 _ _) rfl inX2 tyX2_ok nmX2 8 (by decide) q_127 rfl rfl rfl (Nat.le_of_ble_eq_true rfl) eS15 (wc_33 _ _) dX2_layGroup_21 ?_
    exact K_X2_layGroup_24 C E h
set_option maxRecDepth 100000 in
set_option maxHeartbeats 4000000 in
theorem M_X2_takeItem {l : Launch} {G : XG} (hJ : XJ G) {S : Mem} {a1 : Int32} {a2 : Int32} {a3 : Int32} {K : Mem → Prop} (h : P_X2_takeItem S a1 a2 a3 K) : XMv l G yX2_takeItem cX2_takeItem 5 4 106 [.ref (xad G 33), .int a1, .int a2, .int a3] S K := by
  refine X_meth RX2 rfl (by decide +kernel) hJ (Nat.le_of_ble_eq_true rfl) (fun κ hl hG C E => ?_)
  subst hl hG
  show XW κ S 0 [(0, .ref (xad (kG κ) 33)), (1, .int a1), (2, .int a2), (3, .int a3)] []
  refine X_aload_n C 0 0 dX2_takeItem_0 rfl rfl ?_
  refine X_get C (by decide) (wc_33 _ _) rfl inX2 1 (by decide) q_116 rfl dX2_takeItem_1 ?_
  refine X_iload_n C 1 1 dX2_takeItem_4 rfl rfl ?_
  refine X_iconst C (0 : Int32) dX2_takeItem_5 (by decide) ?_
  refine X_iconst C (1 : Int32) dX2_takeItem_6 (by decide) ?_
  refine X_callVv C eX4_raise [.int a1, .int (0 : Int32), .int (1 : Int32)] [] (M_X4_raise C.g_J (by decide) h) (by decide) (wc_34 _ _) rfl q_407 rfl ⟨(Nat.le_of_ble_eq_true rfl), (Nat.le_of_ble_eq_true rfl)⟩ rfl (Nat.le_of_ble_eq_true rfl) dX2_takeItem_7 (fun S1 h => ?_)
  refine X_aload_n C 0 0 dX2_takeItem_10 rfl rfl ?_
  refine X_iload_n C 3 3 dX2_takeItem_11 rfl rfl ?_
  refine X_iload_n C 2 2 dX2_takeItem_12 rfl rfl ?_
  refine X_callVi C eX2_partOf [.int a3, .int a2] [] (M_X2_partOf C.g_J h) (by decide) (wc_33 _ _) rfl q_386 rfl ⟨(Nat.le_of_ble_eq_true rfl), (Nat.le_of_ble_eq_true rfl)⟩ rfl (Nat.le_of_ble_eq_true rfl) dX2_takeItem_13 (fun r4 S3 h => ?_)
  refine X_istore C [(4, .int r4), (0, .ref (xad (kG κ) 33)), (1, .int a1), (2, .int a2), (3, .int a3)] dX2_takeItem_16 (by decide) rfl ?_
  refine X_aload_n C 0 1 dX2_takeItem_18 rfl rfl ?_
  refine X_iload_n C 1 2 dX2_takeItem_19 rfl rfl ?_
  refine X_iload C 0 dX2_takeItem_20 rfl ?_
  refine X_callVi C eX2_isSpilled [.int a1, .int r4] [] (M_X2_isSpilled C.g_J h) (by decide) (wc_33 _ _) rfl q_390 rfl ⟨(Nat.le_of_ble_eq_true rfl), (Nat.le_of_ble_eq_true rfl)⟩ rfl (Nat.le_of_ble_eq_true rfl) dX2_takeItem_22 (fun r6 S5 h => ?_)
  refine X_if_eq C 69 dX2_takeItem_25 (by decide) (fun c => ?_) (fun c => ?_)
  · have h := h.1 c
    refine X_aload_n C 0 1 dX2_takeItem_69 rfl rfl ?_
    refine X_iload_n C 3 4 dX2_takeItem_70 rfl rfl ?_
    refine X_callVi C eX2_isHeld [.int a3] [] (M_X2_isHeld C.g_J h) (by decide) (wc_33 _ _) rfl q_394 rfl ⟨(Nat.le_of_ble_eq_true rfl), (Nat.le_of_ble_eq_true rfl)⟩ rfl (Nat.le_of_ble_eq_true rfl) dX2_takeItem_71 (fun r8 S7 h => ?_)
    refine X_if_ne C 85 dX2_takeItem_74 (by decide) (fun c => ?_) (fun c => ?_)
    · have h := h.1 c
      exact X_vret C E h dX2_takeItem_85
    · have h := h.2 c
      refine X_aload_n C 0 1 dX2_takeItem_77 rfl rfl ?_
      refine X_iload_n C 1 2 dX2_takeItem_78 rfl rfl ?_
      refine X_iload C 0 dX2_takeItem_79 rfl ?_
      refine X_iload_n C 3 4 dX2_takeItem_81 rfl rfl ?_
      refine X_callVv C eX2_layGroup [.int a1, .int r4, .int a3] [] (M_X2_layGroup C.g_J h) (by decide) (wc_33 _ _) rfl q_412 rfl ⟨(Nat.le_of_ble_eq_true rfl), (Nat.le_of_ble_eq_true rfl)⟩ rfl (Nat.le_of_ble_eq_true rfl) dX2_takeItem_82 (fun S9 h => ?_)
      exact X_vret C E h dX2_takeItem_85
  · have h := h.2 c
    refine X_aload_n C 0 1 dX2_takeItem_28 rfl rfl ?_
    refine X_get C (by decide) (wc_33 _ _) rfl inX2 7 (by decide) q_126 rfl dX2_takeItem_29 ?_
    refine X_iload_n C 3 4 dX2_takeItem_32 rfl rfl ?_
    refine X_callVi C eX4_append [.int a3] [] (M_X4_append C.g_J (by decide) h) (by decide) (wc_46 _ _) rfl q_375 rfl ⟨(Nat.le_of_ble_eq_true rfl), (Nat.le_of_ble_eq_true rfl)⟩ rfl (Nat.le_of_ble_eq_true rfl) dX2_takeItem_33 (fun r12 S11 h => ?_)
    refine X_pop C dX2_takeItem_36 rfl ?_
    refine X_aload_n C 0 1 dX2_takeItem_37 rfl rfl ?_
    refine X_get C (by decide) (wc_33 _ _) rfl inX2 1 (by decide) q_116 rfl dX2_takeItem_38 ?_
    refine X_iload_n C 1 2 dX2_takeItem_41 rfl rfl ?_
    refine X_iconst C (3 : Int32) dX2_takeItem_42 (by decide) ?_
    refine X_iconst C (1 : Int32) dX2_takeItem_43 (by decide) ?_
    refine X_callVv C eX4_raise [.int a1, .int (3 : Int32), .int (1 : Int32)] [] (M_X4_raise C.g_J (by decide) h) (by decide) (wc_34 _ _) rfl q_407 rfl ⟨(Nat.le_of_ble_eq_true rfl), (Nat.le_of_ble_eq_true rfl)⟩ rfl (Nat.le_of_ble_eq_true rfl) dX2_takeItem_44 (fun S13 h => ?_)
    refine X_aload_n C 0 1 dX2_takeItem_47 rfl rfl ?_
    refine X_get C (by decide) (wc_33 _ _) rfl inX2 2 (by decide) q_118 rfl dX2_takeItem_48 ?_
    refine X_aload_n C 0 1 dX2_takeItem_51 rfl rfl ?_
    refine X_get C (by decide) (wc_33 _ _) rfl inX2 6 (by decide) q_125 rfl dX2_takeItem_52 ?_
    refine X_iload C 0 dX2_takeItem_55 rfl ?_
    refine X_iconst C (1 : Int32) dX2_takeItem_57 (by decide) ?_
    refine X_callVi C eX4_at [.int r4, .int (1 : Int32)] [.ref (xad (kG κ) 36)] (M_X4_at C.g_J (by decide) h) (by decide) (wc_44 _ _) rfl q_377 rfl ⟨(Nat.le_of_ble_eq_true rfl), (Nat.le_of_ble_eq_true rfl)⟩ rfl (Nat.le_of_ble_eq_true rfl) dX2_takeItem_58 (fun r16 S15 h => ?_)
    refine X_iconst C (4 : Int32) dX2_takeItem_61 (by decide) ?_
    refine X_iconst C (1 : Int32) dX2_takeItem_62 (by decide) ?_
    refine X_callVv C eX4_raise [.int r16, .int (4 : Int32), .int (1 : Int32)] [] (M_X4_raise C.g_J (by decide) h) (by decide) (wc_36 _ _) rfl q_407 rfl ⟨(Nat.le_of_ble_eq_true rfl), (Nat.le_of_ble_eq_true rfl)⟩ rfl (Nat.le_of_ble_eq_true rfl) dX2_takeItem_63 (fun S17 h => ?_)
    refine X_goto C 85 dX2_takeItem_66 (by decide) ?_
    exact X_vret C E h dX2_takeItem_85
set_option maxRecDepth 100000 in
set_option maxHeartbeats 4000000 in
theorem K_X2_finishMemory_90 {κ : Kx} (C : XC κ RX2 cX2_finishMemory 6 3 68) {K : Mem → Prop} (E : XRet κ none (va_Qv K (XB (kG κ)) (XA (kG κ)))) {S : Mem} (h : B_X2_finishMemory_90 K S) : XW κ S 90 [(0, .ref (xad (kG κ) 33))] [] := by
  refine X_aload_n C 0 0 dX2_finishMemory_90 rfl rfl ?_
  refine X_get C (by decide) (wc_33 _ _) rfl inX2 5 (by decide) q_124 rfl dX2_finishMemory_91 ?_
  refine X_iconst C (0 : Int32) dX2_finishMemory_94 (by decide) ?_
  refine X_callVv C eX4_shorten [.int (0 : Int32)] [] (M_X4_shorten C.g_J (by decide) h) (by decide) (wc_42 _ _) rfl q_363 rfl ⟨(Nat.le_of_ble_eq_true rfl), (Nat.le_of_ble_eq_true rfl)⟩ rfl (Nat.le_of_ble_eq_true rfl) dX2_finishMemory_95 (fun S7 h => ?_)
  exact X_vret C E h dX2_finishMemory_98
set_option maxRecDepth 100000 in
set_option maxHeartbeats 4000000 in
theorem K_X2_finishMemory_19 {κ : Kx} (C : XC κ RX2 cX2_finishMemory 6 3 68) {K : Mem → Prop} (E : XRet κ none (va_Qv K (XB (kG κ)) (XA (kG κ)))) : ∀ (n : Nat) (S : Mem) (x2 : Int32) (x3 : Int32) (x4 : Int32), B_X2_finishMemory_19 K n S x2 x3 x4 → XW κ S 19 [(0, .ref (xad (kG κ) 33)), (2, .int x2), (3, .int x3), (4, .int x4)] [] := by
  intro n
  induction n with
  | zero => intro S x2 x3 x4 h; exact h.elim
  | succ n ih =>
    intro S x2 x3 x4 h
    refine X_iload C 3 dX2_finishMemory_19 rfl ?_
    refine X_aload_n C 0 0 dX2_finishMemory_21 rfl rfl ?_
    refine X_get C (by decide) (wc_33 _ _) rfl inX2 5 (by decide) q_124 rfl dX2_finishMemory_22 ?_
    refine X_callVi C eX4_length [] [.int x4] (M_X4_length C.g_J (by decide) h) (by decide) (wc_42 _ _) rfl q_364 rfl ⟨(Nat.le_of_ble_eq_true rfl), (Nat.le_of_ble_eq_true rfl)⟩ rfl (Nat.le_of_ble_eq_true rfl) dX2_finishMemory_25 (fun r6 S5 h => ?_)
    refine X_icmp_ge C 90 dX2_finishMemory_28 (by decide) (fun c => ?_) (fun c => ?_)
    · have h := h.1 c
      refine X_sub [0] rfl ?_
      exact K_X2_finishMemory_90 C E h
    · have h := h.2 c
      refine X_aload_n C 0 0 dX2_finishMemory_31 rfl rfl ?_
      refine X_get C (by decide) (wc_33 _ _) rfl inX2 5 (by decide) q_124 rfl dX2_finishMemory_32 ?_
      refine X_iload C 3 dX2_finishMemory_35 rfl ?_
      refine X_iconst C (0 : Int32) dX2_finishMemory_37 (by decide) ?_
      refine X_callVi C eX4_at [.int x4, .int (0 : Int32)] [] (M_X4_at C.g_J (by decide) h) (by decide) (wc_42 _ _) rfl q_377 rfl ⟨(Nat.le_of_ble_eq_true rfl), (Nat.le_of_ble_eq_true rfl)⟩ rfl (Nat.le_of_ble_eq_true rfl) dX2_finishMemory_38 (fun r10 S9 h => ?_)
      refine X_istore C [(5, .int r10), (0, .ref (xad (kG κ) 33)), (2, .int x2), (3, .int x3), (4, .int x4)] dX2_finishMemory_41 (by decide) rfl ?_
      refine X_aload_n C 0 1 dX2_finishMemory_43 rfl rfl ?_
      refine X_get C (by decide) (wc_33 _ _) rfl inX2 3 (by decide) q_120 rfl dX2_finishMemory_44 ?_
      refine X_iload C 0 dX2_finishMemory_47 rfl ?_
      refine X_iconst C (0 : Int32) dX2_finishMemory_49 (by decide) ?_
      refine X_iload_n C 2 2 dX2_finishMemory_50 rfl rfl ?_
      refine X_callVv C eX4_put [.int r10, .int (0 : Int32), .int x2] [] (M_X4_put C.g_J (by decide) h) (by decide) (wc_38 _ _) rfl q_376 rfl ⟨(Nat.le_of_ble_eq_true rfl), (Nat.le_of_ble_eq_true rfl)⟩ rfl (Nat.le_of_ble_eq_true rfl) dX2_finishMemory_51 (fun S11 h => ?_)
      refine X_aload_n C 0 1 dX2_finishMemory_54 rfl rfl ?_
      refine X_get C (by decide) (wc_33 _ _) rfl inX2 3 (by decide) q_120 rfl dX2_finishMemory_55 ?_
      refine X_iload C 0 dX2_finishMemory_58 rfl ?_
      refine X_iconst C (1 : Int32) dX2_finishMemory_60 (by decide) ?_
      refine X_iload_n C 3 3 dX2_finishMemory_61 rfl rfl ?_
      refine X_callVv C eX4_put [.int r10, .int (1 : Int32), .int x3] [] (M_X4_put C.g_J (by decide) h) (by decide) (wc_38 _ _) rfl q_376 rfl ⟨(Nat.le_of_ble_eq_true rfl), (Nat.le_of_ble_eq_true rfl)⟩ rfl (Nat.le_of_ble_eq_true rfl) dX2_finishMemory_62 (fun S13 h => ?_)
      refine X_aload_n C 0 1 dX2_finishMemory_65 rfl rfl ?_
      refine X_get C (by decide) (wc_33 _ _) rfl inX2 3 (by decide) q_120 rfl dX2_finishMemory_66 ?_
      refine X_iload C 0 dX2_finishMemory_69 rfl ?_
      refine X_iconst C (2 : Int32) dX2_finishMemory_71 (by decide) ?_
      refine X_aload_n C 0 1 dX2_finishMemory_72 rfl rfl ?_
      refine X_get C (by decide) (wc_33 _ _) rfl inX2 4 (by decide) q_122 rfl dX2_finishMemory_73 ?_
      refine X_iload C 0 dX2_finishMemory_76 rfl ?_
      refine X_callVi C eX4_append [.int r10] [.int (2 : Int32), .int r10, .ref (xad (kG κ) 38)] (M_X4_append C.g_J (by decide) h) (by decide) (wc_40 _ _) rfl q_375 rfl ⟨(Nat.le_of_ble_eq_true rfl), (Nat.le_of_ble_eq_true rfl)⟩ rfl (Nat.le_of_ble_eq_true rfl) dX2_finishMemory_78 (fun r16 S15 h => ?_)
      refine X_callVv C eX4_put [.int r10, .int (2 : Int32), .int r16] [] (M_X4_put C.g_J (by decide) h) (by decide) (wc_38 _ _) rfl q_376 rfl ⟨(Nat.le_of_ble_eq_true rfl), (Nat.le_of_ble_eq_true rfl)⟩ rfl (Nat.le_of_ble_eq_true rfl) dX2_finishMemory_81 (fun S17 h => ?_)
      refine X_iinc C (x4 + (1 : Int32)) 4 [(4, .int (x4 + (1 : Int32))), (5, .int r10), (0, .ref (xad (kG κ) 33)), (2, .int x2), (3, .int x3)] dX2_finishMemory_84 rfl rfl (by decide) rfl ?_
      refine X_goto C 19 dX2_finishMemory_87 (by decide) ?_
      refine X_sub [2, 3, 4, 0] rfl ?_
      exact ih _ _ _ _ h
set_option maxRecDepth 100000 in
set_option maxHeartbeats 4000000 in
theorem M_X2_finishMemory {l : Launch} {G : XG} (hJ : XJ G) {S : Mem} {a1 : Int32} {a2 : Int32} {a3 : Int32} {K : Mem → Prop} (h : P_X2_finishMemory S a1 a2 a3 K) : XMv l G yX2_finishMemory cX2_finishMemory 6 3 68 [.ref (xad G 33), .int a1, .int a2, .int a3] S K := by
  refine X_meth RX2 rfl (by decide +kernel) hJ (Nat.le_of_ble_eq_true rfl) (fun κ hl hG C E => ?_)
  subst hl hG
  show XW κ S 0 [(0, .ref (xad (kG κ) 33)), (1, .int a1), (2, .int a2), (3, .int a3)] []
  refine X_aload_n C 0 0 dX2_finishMemory_0 rfl rfl ?_
  refine X_get C (by decide) (wc_33 _ _) rfl inX2 1 (by decide) q_116 rfl dX2_finishMemory_1 ?_
  refine X_iload_n C 1 1 dX2_finishMemory_4 rfl rfl ?_
  refine X_iconst C (1 : Int32) dX2_finishMemory_5 (by decide) ?_
  refine X_aload_n C 0 0 dX2_finishMemory_6 rfl rfl ?_
  refine X_get C (by decide) (wc_33 _ _) rfl inX2 5 (by decide) q_124 rfl dX2_finishMemory_7 ?_
  refine X_callVi C eX4_length [] [.int (1 : Int32), .int a1, .ref (xad (kG κ) 34)] (M_X4_length C.g_J (by decide) h) (by decide) (wc_42 _ _) rfl q_364 rfl ⟨(Nat.le_of_ble_eq_true rfl), (Nat.le_of_ble_eq_true rfl)⟩ rfl (Nat.le_of_ble_eq_true rfl) dX2_finishMemory_10 (fun r2 S1 h => ?_)
  refine X_callVv C eX4_put [.int a1, .int (1 : Int32), .int r2] [] (M_X4_put C.g_J (by decide) h) (by decide) (wc_34 _ _) rfl q_376 rfl ⟨(Nat.le_of_ble_eq_true rfl), (Nat.le_of_ble_eq_true rfl)⟩ rfl (Nat.le_of_ble_eq_true rfl) dX2_finishMemory_13 (fun S3 h => ?_)
  refine X_iconst C (0 : Int32) dX2_finishMemory_16 (by decide) ?_
  refine X_istore C [(4, .int (0 : Int32)), (0, .ref (xad (kG κ) 33)), (1, .int a1), (2, .int a2), (3, .int a3)] dX2_finishMemory_17 (by decide) rfl ?_
  refine X_sub [1, 3, 4, 0] rfl ?_
  obtain ⟨n19, h⟩ := h
  exact K_X2_finishMemory_19 C E n19 _ _ _ _ h
set_option maxRecDepth 100000 in
set_option maxHeartbeats 4000000 in
theorem K_X2_runFiles_42 {κ : Kx} {RP : Mem → Int32 → Int32 → Int32 → (Mem → Prop) → Prop} {Fp Np : Nat} (C : XC κ RX2 cX2_runFiles 6 (Fp + 1) (Np + 27)) {K : Mem → Prop} (E : XRet κ none (va_Qv K (XB (kG κ)) (XA (kG κ)))) {R3 : Mem → Int32 → Int32 → Int32 → Int32 → Int32 → Prop} (hR3 : ∀ (S : Mem) (x1 x2 x3 x4 x5 : Int32), R3 S x1 x2 x3 x4 x5 → XW κ S 3 [(0, .ref (xad (kG κ) 33)), (1, .int x1), (2, .int x2), (3, .int x3), (4, .int x4), (5, .int x5)] []) (hRP : ∀ (S : Mem) (a b c : Int32) (K : Mem → Prop), RP S a b c K → XMv (kl κ) (kG κ) yX2_runPass cX2_runPass 8 Fp Np [.ref (xad (kG κ) 33), .int a, .int b, .int c] S K) {S : Mem} {x1 : Int32} {x2 : Int32} {x3 : Int32} {x4 : Int32} {x5 : Int32} (h : B_X2_runFiles_42 RP R3 K S x1 x2 x3 x4 x5) : XW κ S 42 [(0, .ref (xad (kG κ) 33)), (1, .int x1), (2, .int x2), (3, .int x3), (4, .int x4), (5, .int x5)] [] := by
  refine X_iinc C (x5 + (1 : Int32)) 5 [(5, .int (x5 + (1 : Int32))), (0, .ref (xad (kG κ) 33)), (1, .int x1), (2, .int x2), (3, .int x3), (4, .int x4)] dX2_runFiles_42 rfl rfl (by decide) rfl ?_
  refine X_goto C 3 dX2_runFiles_45 (by decide) ?_
  refine X_sub [1, 2, 3, 4, 5, 0] rfl ?_
  exact hR3 _ _ _ _ _ _ h
set_option maxRecDepth 100000 in
set_option maxHeartbeats 4000000 in
theorem K_X2_runFiles_3 {κ : Kx} {RP : Mem → Int32 → Int32 → Int32 → (Mem → Prop) → Prop} {Fp Np : Nat} (C : XC κ RX2 cX2_runFiles 6 (Fp + 1) (Np + 27)) {K : Mem → Prop} (E : XRet κ none (va_Qv K (XB (kG κ)) (XA (kG κ)))) (hRP : ∀ (S : Mem) (a b c : Int32) (K : Mem → Prop), RP S a b c K → XMv (kl κ) (kG κ) yX2_runPass cX2_runPass 8 Fp Np [.ref (xad (kG κ) 33), .int a, .int b, .int c] S K) : ∀ (n : Nat) (S : Mem) (x1 : Int32) (x2 : Int32) (x3 : Int32) (x4 : Int32) (x5 : Int32), B_X2_runFiles_3 RP K n S x1 x2 x3 x4 x5 → XW κ S 3 [(0, .ref (xad (kG κ) 33)), (1, .int x1), (2, .int x2), (3, .int x3), (4, .int x4), (5, .int x5)] [] := by
  intro n
  induction n with
  | zero => intro S x1 x2 x3 x4 x5 h; exact h.elim
  | succ n ih =>
    intro S x1 x2 x3 x4 x5 h
    refine X_iload C 5 dX2_runFiles_3 rfl ?_
    refine X_iconst C (1 : Int32) dX2_runFiles_5 (by decide) ?_
    refine X_aload_n C 0 0 dX2_runFiles_6 rfl rfl ?_
    refine X_get C (by decide) (wc_33 _ _) rfl inX2 10 (by decide) q_130 rfl dX2_runFiles_7 ?_
    refine X_ishl C dX2_runFiles_10 ?_
    refine X_icmp_ge C 48 dX2_runFiles_11 (by decide) (fun c => ?_) (fun c => ?_)
    · have h := h.1 c
      exact X_vret C E h dX2_runFiles_48
    · have h := h.2 c
      refine X_iload_n C 3 3 dX2_runFiles_14 rfl rfl ?_
      refine X_iload C 5 dX2_runFiles_15 rfl ?_
      refine X_ishr C dX2_runFiles_17 ?_
      refine X_iconst C (1 : Int32) dX2_runFiles_18 (by decide) ?_
      refine X_iand C dX2_runFiles_19 ?_
      refine X_iconst C (1 : Int32) dX2_runFiles_20 (by decide) ?_
      refine X_icmp_ne C 42 dX2_runFiles_21 (by decide) (fun c => ?_) (fun c => ?_)
      · have h := h.1 c
        exact K_X2_runFiles_42 C E (fun _ _ _ _ _ _ h => ih _ _ _ _ _ _ h) hRP h
      · have h := h.2 c
        refine X_aload_n C 0 0 dX2_runFiles_24 rfl rfl ?_
        refine X_iload_n C 1 1 dX2_runFiles_25 rfl rfl ?_
        refine X_iconst C (1 : Int32) dX2_runFiles_26 (by decide) ?_
        refine X_iadd C dX2_runFiles_27 ?_
        refine X_iload_n C 2 2 dX2_runFiles_28 rfl rfl ?_
        refine X_aload_n C 0 0 dX2_runFiles_29 rfl rfl ?_
        refine X_get C (by decide) (wc_33 _ _) rfl inX2 10 (by decide) q_130 rfl dX2_runFiles_30 ?_
        refine X_ishl C dX2_runFiles_33 ?_
        refine X_iload C 5 dX2_runFiles_34 rfl ?_
        refine X_ior C dX2_runFiles_36 ?_
        refine X_iload C 4 dX2_runFiles_37 rfl ?_
        refine X_callVv C eX2_runPass [.int (x1 + (1 : Int32)), .int ((x2 <<< ((S 33 10) &&& 31)) ||| x5), .int x4] [] (hRP _ _ _ _ _ h) (by decide) (wc_33 _ _) rfl q_371 rfl ⟨by omega, by omega⟩ rfl (Nat.le_of_ble_eq_true rfl) dX2_runFiles_39 (fun S1 h => ?_)
        exact K_X2_runFiles_42 C E (fun _ _ _ _ _ _ h => ih _ _ _ _ _ _ h) hRP h
set_option maxRecDepth 100000 in
set_option maxHeartbeats 4000000 in
theorem M_X2_runFiles {l : Launch} {G : XG} (hJ : XJ G) {RP : Mem → Int32 → Int32 → Int32 → (Mem → Prop) → Prop} {Fp Np : Nat} (hRP : ∀ (S : Mem) (a b c : Int32) (K : Mem → Prop), RP S a b c K → XMv l G yX2_runPass cX2_runPass 8 Fp Np [.ref (xad G 33), .int a, .int b, .int c] S K) {S : Mem} {a1 : Int32} {a2 : Int32} {a3 : Int32} {a4 : Int32} {K : Mem → Prop} (h : P_X2_runFiles RP S a1 a2 a3 a4 K) : XMv l G yX2_runFiles cX2_runFiles 6 (Fp + 1) (Np + 27) [.ref (xad G 33), .int a1, .int a2, .int a3, .int a4] S K := by
  refine X_meth RX2 rfl (by decide +kernel) hJ (Nat.le_of_ble_eq_true rfl) (fun κ hl hG C E => ?_)
  subst hl hG
  show XW κ S 0 [(0, .ref (xad (kG κ) 33)), (1, .int a1), (2, .int a2), (3, .int a3), (4, .int a4)] []
  refine X_iconst C (0 : Int32) dX2_runFiles_0 (by decide) ?_
  refine X_istore C [(5, .int (0 : Int32)), (0, .ref (xad (kG κ) 33)), (1, .int a1), (2, .int a2), (3, .int a3), (4, .int a4)] dX2_runFiles_1 (by decide) rfl ?_
  refine X_sub [1, 2, 3, 4, 5, 0] rfl ?_
  obtain ⟨n3, h⟩ := h
  exact K_X2_runFiles_3 C E hRP n3 _ _ _ _ _ _ h
set_option maxRecDepth 100000 in
set_option maxHeartbeats 4000000 in
theorem K_X2_runPass_147 {κ : Kx} {RP : Mem → Int32 → Int32 → Int32 → (Mem → Prop) → Prop} {Fp Np : Nat} (C : XC κ RX2 cX2_runPass 8 (Fp + 8) (Np + 182)) {K : Mem → Prop} (E : XRet κ none (va_Qv K (XB (kG κ)) (XA (kG κ)))) (hRP : ∀ (S : Mem) (a b c : Int32) (K : Mem → Prop), RP S a b c K → XMv (kl κ) (kG κ) yX2_runPass cX2_runPass 8 Fp Np [.ref (xad (kG κ) 33), .int a, .int b, .int c] S K) {S : Mem} {x1 : Int32} {x2 : Int32} {x4 : Int32} {x5 : Int32} (h : B_X2_runPass_147 RP K S x1 x2 x4 x5) : XW κ S 147 [(0, .ref (xad (kG κ) 33)), (1, .int x1), (2, .int x2), (4, .int x4), (5, .int x5)] [] := by
  refine X_aload_n C 0 0 dX2_runPass_147 rfl rfl ?_
  refine X_iload C 3 dX2_runPass_148 rfl ?_
  refine X_iload_n C 1 1 dX2_runPass_150 rfl rfl ?_
  refine X_iload_n C 2 2 dX2_runPass_151 rfl rfl ?_
  refine X_callVv C eX2_finishMemory [.int x4, .int x1, .int x2] [] (M_X2_finishMemory C.g_J h) (by decide) (wc_33 _ _) rfl q_418 rfl ⟨(by omega), (by omega)⟩ rfl (Nat.le_of_ble_eq_true rfl) dX2_runPass_152 (fun S13 h => ?_)
  refine X_aload_n C 0 0 dX2_runPass_155 rfl rfl ?_
  refine X_iload_n C 1 1 dX2_runPass_156 rfl rfl ?_
  refine X_iload_n C 2 2 dX2_runPass_157 rfl rfl ?_
  refine X_aload_n C 0 0 dX2_runPass_158 rfl rfl ?_
  refine X_get C (by decide) (wc_33 _ _) rfl inX2 1 (by decide) q_116 rfl dX2_runPass_159 ?_
  refine X_iload C 3 dX2_runPass_162 rfl ?_
  refine X_iconst C (2 : Int32) dX2_runPass_164 (by decide) ?_
  refine X_callVi C eX4_at [.int x4, .int (2 : Int32)] [.int x2, .int x1, .ref (xad (kG κ) 33)] (M_X4_at C.g_J (by decide) h) (by decide) (wc_34 _ _) rfl q_377 rfl ⟨(by omega), (by omega)⟩ rfl (Nat.le_of_ble_eq_true rfl) dX2_runPass_165 (fun r16 S15 h => ?_)
  refine X_iload C 4 dX2_runPass_168 rfl ?_
  refine X_callVv C eX2_runFiles [.int x1, .int x2, .int r16, .int x5] [] (M_X2_runFiles C.g_J hRP h) (by decide) (wc_33 _ _) rfl q_422 rfl ⟨(by omega), (by omega)⟩ rfl (Nat.le_of_ble_eq_true rfl) dX2_runPass_170 (fun S17 h => ?_)
  refine X_aload_n C 0 0 dX2_runPass_173 rfl rfl ?_
  refine X_get C (by decide) (wc_33 _ _) rfl inX2 7 (by decide) q_126 rfl dX2_runPass_174 ?_
  refine X_iload C 4 dX2_runPass_177 rfl ?_
  refine X_callVv C eX4_shorten [.int x5] [] (M_X4_shorten C.g_J (by decide) h) (by decide) (wc_46 _ _) rfl q_363 rfl ⟨(by omega), (by omega)⟩ rfl (Nat.le_of_ble_eq_true rfl) dX2_runPass_179 (fun S19 h => ?_)
  exact X_vret C E h dX2_runPass_182
set_option maxRecDepth 100000 in
set_option maxHeartbeats 4000000 in
theorem K_X2_runPass_141 {κ : Kx} {RP : Mem → Int32 → Int32 → Int32 → (Mem → Prop) → Prop} {Fp Np : Nat} (C : XC κ RX2 cX2_runPass 8 (Fp + 8) (Np + 182)) {K : Mem → Prop} (E : XRet κ none (va_Qv K (XB (kG κ)) (XA (kG κ)))) {R80 : Mem → Int32 → Int32 → Int32 → Int32 → Int32 → Prop} (hR80 : ∀ (S : Mem) (x1 x2 x4 x5 x6 : Int32), R80 S x1 x2 x4 x5 x6 → XW κ S 80 [(0, .ref (xad (kG κ) 33)), (1, .int x1), (2, .int x2), (4, .int x4), (5, .int x5), (6, .int x6)] []) (hRP : ∀ (S : Mem) (a b c : Int32) (K : Mem → Prop), RP S a b c K → XMv (kl κ) (kG κ) yX2_runPass cX2_runPass 8 Fp Np [.ref (xad (kG κ) 33), .int a, .int b, .int c] S K) {S : Mem} {x1 : Int32} {x2 : Int32} {x4 : Int32} {x5 : Int32} {x6 : Int32} (h : B_X2_runPass_141 RP R80 K S x1 x2 x4 x5 x6) : XW κ S 141 [(0, .ref (xad (kG κ) 33)), (1, .int x1), (2, .int x2), (4, .int x4), (5, .int x5), (6, .int x6)] [] := by
  refine X_iinc C (x6 + (1 : Int32)) 5 [(6, .int (x6 + (1 : Int32))), (0, .ref (xad (kG κ) 33)), (1, .int x1), (2, .int x2), (4, .int x4), (5, .int x5)] dX2_runPass_141 rfl rfl (by decide) rfl ?_
  refine X_goto C 80 dX2_runPass_144 (by decide) ?_
  refine X_sub [1, 2, 3, 4, 5, 0] rfl ?_
  exact hR80 _ _ _ _ _ _ h
set_option maxRecDepth 100000 in
set_option maxHeartbeats 4000000 in
theorem K_X2_runPass_132 {κ : Kx} {RP : Mem → Int32 → Int32 → Int32 → (Mem → Prop) → Prop} {Fp Np : Nat} (C : XC κ RX2 cX2_runPass 8 (Fp + 8) (Np + 182)) {K : Mem → Prop} (E : XRet κ none (va_Qv K (XB (kG κ)) (XA (kG κ)))) {R80 : Mem → Int32 → Int32 → Int32 → Int32 → Int32 → Prop} (hR80 : ∀ (S : Mem) (x1 x2 x4 x5 x6 : Int32), R80 S x1 x2 x4 x5 x6 → XW κ S 80 [(0, .ref (xad (kG κ) 33)), (1, .int x1), (2, .int x2), (4, .int x4), (5, .int x5), (6, .int x6)] []) (hRP : ∀ (S : Mem) (a b c : Int32) (K : Mem → Prop), RP S a b c K → XMv (kl κ) (kG κ) yX2_runPass cX2_runPass 8 Fp Np [.ref (xad (kG κ) 33), .int a, .int b, .int c] S K) {S : Mem} {x1 : Int32} {x2 : Int32} {x4 : Int32} {x5 : Int32} {x6 : Int32} {x7 : Int32} (h : B_X2_runPass_132 RP R80 K S x1 x2 x4 x5 x6 x7) : XW κ S 132 [(0, .ref (xad (kG κ) 33)), (1, .int x1), (2, .int x2), (4, .int x4), (5, .int x5), (6, .int x6), (7, .int x7)] [] := by
  refine X_aload_n C 0 0 dX2_runPass_132 rfl rfl ?_
  refine X_iload C 3 dX2_runPass_133 rfl ?_
  refine X_iload_n C 1 1 dX2_runPass_135 rfl rfl ?_
  refine X_iload C 6 dX2_runPass_136 rfl ?_
  refine X_callVv C eX2_takeItem [.int x4, .int x1, .int x7] [] (M_X2_takeItem C.g_J h) (by decide) (wc_33 _ _) rfl q_408 rfl ⟨(by omega), (by omega)⟩ rfl (Nat.le_of_ble_eq_true rfl) dX2_runPass_138 (fun S27 h => ?_)
  refine X_sub [0, 1, 2, 3, 4, 5] rfl ?_
  exact K_X2_runPass_141 C E hR80 hRP h
set_option maxRecDepth 100000 in
set_option maxHeartbeats 4000000 in
theorem K_X2_runPass_80 {κ : Kx} {RP : Mem → Int32 → Int32 → Int32 → (Mem → Prop) → Prop} {Fp Np : Nat} (C : XC κ RX2 cX2_runPass 8 (Fp + 8) (Np + 182)) {K : Mem → Prop} (E : XRet κ none (va_Qv K (XB (kG κ)) (XA (kG κ)))) (hRP : ∀ (S : Mem) (a b c : Int32) (K : Mem → Prop), RP S a b c K → XMv (kl κ) (kG κ) yX2_runPass cX2_runPass 8 Fp Np [.ref (xad (kG κ) 33), .int a, .int b, .int c] S K) : ∀ (n : Nat) (S : Mem) (x1 : Int32) (x2 : Int32) (x4 : Int32) (x5 : Int32) (x6 : Int32), B_X2_runPass_80 RP K n S x1 x2 x4 x5 x6 → XW κ S 80 [(0, .ref (xad (kG κ) 33)), (1, .int x1), (2, .int x2), (4, .int x4), (5, .int x5), (6, .int x6)] [] := by
  intro n
  induction n with
  | zero => intro S x1 x2 x4 x5 x6 h; exact h.elim
  | succ n ih =>
    intro S x1 x2 x4 x5 x6 h
    refine X_iload C 5 dX2_runPass_80 rfl ?_
    refine X_iload C 4 dX2_runPass_82 rfl ?_
    refine X_icmp_ge C 147 dX2_runPass_84 (by decide) (fun c => ?_) (fun c => ?_)
    · have h := h.1 c
      refine X_sub [0, 1, 2, 3, 4] rfl ?_
      exact K_X2_runPass_147 C E hRP h
    · have h := h.2 c
      refine X_aload_n C 0 0 dX2_runPass_87 rfl rfl ?_
      refine X_get C (by decide) (wc_33 _ _) rfl inX2 7 (by decide) q_126 rfl dX2_runPass_88 ?_
      refine X_iload C 5 dX2_runPass_91 rfl ?_
      refine X_iconst C (0 : Int32) dX2_runPass_93 (by decide) ?_
      refine X_callVi C eX4_at [.int x6, .int (0 : Int32)] [] (M_X4_at C.g_J (by decide) h) (by decide) (wc_46 _ _) rfl q_377 rfl ⟨(by omega), (by omega)⟩ rfl (Nat.le_of_ble_eq_true rfl) dX2_runPass_94 (fun r22 S21 h => ?_)
      refine X_istore C [(7, .int r22), (0, .ref (xad (kG κ) 33)), (1, .int x1), (2, .int x2), (4, .int x4), (5, .int x5), (6, .int x6)] dX2_runPass_97 (by decide) rfl ?_
      refine X_aload_n C 0 1 dX2_runPass_99 rfl rfl ?_
      refine X_iload C 0 dX2_runPass_100 rfl ?_
      refine X_iload_n C 1 2 dX2_runPass_102 rfl rfl ?_
      refine X_callVi C eX2_prefixOf [.int r22, .int x1] [] (M_X2_prefixOf C.g_J h) (by decide) (wc_33 _ _) rfl q_378 rfl ⟨(by omega), (by omega)⟩ rfl (Nat.le_of_ble_eq_true rfl) dX2_runPass_103 (fun r24 S23 h => ?_)
      refine X_iload_n C 2 3 dX2_runPass_106 rfl rfl ?_
      refine X_icmp_ne C 141 dX2_runPass_107 (by decide) (fun c => ?_) (fun c => ?_)
      · have h := h.1 c
        refine X_sub [1, 2, 3, 4, 5, 6] rfl ?_
        exact K_X2_runPass_141 C E (fun _ _ _ _ _ _ h => ih _ _ _ _ _ _ h) hRP h
      · have h := h.2 c
        refine X_aload_n C 0 1 dX2_runPass_110 rfl rfl ?_
        refine X_iload C 4 dX2_runPass_111 rfl ?_
        refine X_iload_n C 1 2 dX2_runPass_113 rfl rfl ?_
        refine X_iload C 0 dX2_runPass_114 rfl ?_
        refine X_callVi C eX2_needsSpill [.int x4, .int x1, .int r22] [] (M_X2_needsSpill C.g_J h) (by decide) (wc_33 _ _) rfl q_382 rfl ⟨(by omega), (by omega)⟩ rfl (Nat.le_of_ble_eq_true rfl) dX2_runPass_116 (fun r26 S25 h => ?_)
        refine X_if_eq C 132 dX2_runPass_119 (by decide) (fun c => ?_) (fun c => ?_)
        · have h := h.1 c
          refine X_sub [1, 2, 3, 4, 5, 6, 0] rfl ?_
          exact K_X2_runPass_132 C E (fun _ _ _ _ _ _ h => ih _ _ _ _ _ _ h) hRP h
        · have h := h.2 c
          refine X_aload_n C 0 1 dX2_runPass_122 rfl rfl ?_
          refine X_iload C 4 dX2_runPass_123 rfl ?_
          refine X_aload_n C 0 1 dX2_runPass_125 rfl rfl ?_
          refine X_callVi C eX2_fullestPart [] [.int x4, .ref (xad (kG κ) 33)] (M_X2_fullestPart C.g_J h) (by decide) (wc_33 _ _) rfl q_399 rfl ⟨(by omega), (by omega)⟩ rfl (Nat.le_of_ble_eq_true rfl) dX2_runPass_126 (fun r30 S29 h => ?_)
          refine X_callVv C eX2_spillPart [.int x4, .int r30] [] (M_X2_spillPart C.g_J h) (by decide) (wc_33 _ _) rfl q_403 rfl ⟨(by omega), (by omega)⟩ rfl (Nat.le_of_ble_eq_true rfl) dX2_runPass_129 (fun S31 h => ?_)
          refine X_sub [1, 2, 3, 4, 5, 6, 0] rfl ?_
          exact K_X2_runPass_132 C E (fun _ _ _ _ _ _ h => ih _ _ _ _ _ _ h) hRP h
set_option maxRecDepth 100000 in
set_option maxHeartbeats 4000000 in
theorem M_X2_runPassF {l : Launch} {G : XG} (hJ : XJ G) {RP : Mem → Int32 → Int32 → Int32 → (Mem → Prop) → Prop} {Fp Np : Nat} (hRP : ∀ (S : Mem) (a b c : Int32) (K : Mem → Prop), RP S a b c K → XMv l G yX2_runPass cX2_runPass 8 Fp Np [.ref (xad G 33), .int a, .int b, .int c] S K) {S : Mem} {a1 : Int32} {a2 : Int32} {a3 : Int32} {K : Mem → Prop} (h : P_X2_runPassF RP S a1 a2 a3 K) : XMv l G yX2_runPass cX2_runPass 8 (Fp + 8) (Np + 182) [.ref (xad G 33), .int a1, .int a2, .int a3] S K := by
  refine X_meth RX2 rfl (by decide +kernel) hJ (Nat.le_of_ble_eq_true rfl) (fun κ hl hG C E => ?_)
  subst hl hG
  show XW κ S 0 [(0, .ref (xad (kG κ) 33)), (1, .int a1), (2, .int a2), (3, .int a3)] []
  refine X_iload_n C 1 1 dX2_runPass_0 rfl rfl ?_
  refine X_aload_n C 0 0 dX2_runPass_1 rfl rfl ?_
  refine X_get C (by decide) (wc_33 _ _) rfl inX2 11 (by decide) q_131 rfl dX2_runPass_2 ?_
  refine X_icmp_le C 9 dX2_runPass_5 (by decide) (fun c => ?_) (fun c => ?_)
  · have h := h.1 c
    refine X_aload_n C 0 0 dX2_runPass_9 rfl rfl ?_
    refine X_get C (by decide) (wc_33 _ _) rfl inX2 1 (by decide) q_116 rfl dX2_runPass_10 ?_
    refine X_iconst C (0 : Int32) dX2_runPass_13 (by decide) ?_
    refine X_callVi C eX4_append [.int (0 : Int32)] [] (M_X4_append C.g_J (by decide) h) (by decide) (wc_34 _ _) rfl q_375 rfl ⟨(by omega), (by omega)⟩ rfl (Nat.le_of_ble_eq_true rfl) dX2_runPass_14 (fun r2 S1 h => ?_)
    refine X_istore C [(4, .int r2), (0, .ref (xad (kG κ) 33)), (1, .int a1), (2, .int a2), (3, .int a3)] dX2_runPass_17 (by decide) rfl ?_
    refine X_aload_n C 0 1 dX2_runPass_19 rfl rfl ?_
    refine X_get C (by decide) (wc_33 _ _) rfl inX2 1 (by decide) q_116 rfl dX2_runPass_20 ?_
    refine X_iload C 0 dX2_runPass_23 rfl ?_
    refine X_iconst C (5 : Int32) dX2_runPass_25 (by decide) ?_
    refine X_iload C 0 dX2_runPass_26 rfl ?_
    refine X_callVv C eX4_put [.int r2, .int (5 : Int32), .int r2] [] (M_X4_put C.g_J (by decide) h) (by decide) (wc_34 _ _) rfl q_376 rfl ⟨(by omega), (by omega)⟩ rfl (Nat.le_of_ble_eq_true rfl) dX2_runPass_28 (fun S3 h => ?_)
    refine X_aload_n C 0 1 dX2_runPass_31 rfl rfl ?_
    refine X_get C (by decide) (wc_33 _ _) rfl inX2 1 (by decide) q_116 rfl dX2_runPass_32 ?_
    refine X_iload C 0 dX2_runPass_35 rfl ?_
    refine X_bipush C (6 : Int32) dX2_runPass_37 (by decide) ?_
    refine X_iload_n C 1 2 dX2_runPass_39 rfl rfl ?_
    refine X_callVv C eX4_put [.int r2, .int (6 : Int32), .int a1] [] (M_X4_put C.g_J (by decide) h) (by decide) (wc_34 _ _) rfl q_376 rfl ⟨(by omega), (by omega)⟩ rfl (Nat.le_of_ble_eq_true rfl) dX2_runPass_40 (fun S5 h => ?_)
    refine X_aload_n C 0 1 dX2_runPass_43 rfl rfl ?_
    refine X_get C (by decide) (wc_33 _ _) rfl inX2 1 (by decide) q_116 rfl dX2_runPass_44 ?_
    refine X_iload C 0 dX2_runPass_47 rfl ?_
    refine X_bipush C (7 : Int32) dX2_runPass_49 (by decide) ?_
    refine X_iload_n C 2 3 dX2_runPass_51 rfl rfl ?_
    refine X_callVv C eX4_put [.int r2, .int (7 : Int32), .int a2] [] (M_X4_put C.g_J (by decide) h) (by decide) (wc_34 _ _) rfl q_376 rfl ⟨(by omega), (by omega)⟩ rfl (Nat.le_of_ble_eq_true rfl) dX2_runPass_52 (fun S7 h => ?_)
    refine X_aload_n C 0 1 dX2_runPass_55 rfl rfl ?_
    refine X_get C (by decide) (wc_33 _ _) rfl inX2 6 (by decide) q_125 rfl dX2_runPass_56 ?_
    refine X_iconst C (1 : Int32) dX2_runPass_59 (by decide) ?_
    refine X_aload_n C 0 1 dX2_runPass_60 rfl rfl ?_
    refine X_get C (by decide) (wc_33 _ _) rfl inX2 10 (by decide) q_130 rfl dX2_runPass_61 ?_
    refine X_ishl C dX2_runPass_64 ?_
    refine X_callVv C eX4_reset [.int ((1 : Int32) <<< ((S7 33 10) &&& 31))] [] (M_X4_reset C.g_J (by decide) h) (by decide) (wc_44 _ _) rfl q_365 rfl ⟨(by omega), (by omega)⟩ rfl (Nat.le_of_ble_eq_true rfl) dX2_runPass_65 (fun S9 h => ?_)
    refine X_aload_n C 0 1 dX2_runPass_68 rfl rfl ?_
    refine X_get C (by decide) (wc_33 _ _) rfl inX2 7 (by decide) q_126 rfl dX2_runPass_69 ?_
    refine X_callVi C eX4_length [] [] (M_X4_length C.g_J (by decide) h) (by decide) (wc_46 _ _) rfl q_364 rfl ⟨(by omega), (by omega)⟩ rfl (Nat.le_of_ble_eq_true rfl) dX2_runPass_72 (fun r12 S11 h => ?_)
    refine X_istore C [(5, .int r12), (4, .int r2), (0, .ref (xad (kG κ) 33)), (1, .int a1), (2, .int a2), (3, .int a3)] dX2_runPass_75 (by decide) rfl ?_
    refine X_iload_n C 3 5 dX2_runPass_77 rfl rfl ?_
    refine X_istore C [(6, .int a3), (5, .int r12), (4, .int r2), (0, .ref (xad (kG κ) 33)), (1, .int a1), (2, .int a2), (3, .int a3)] dX2_runPass_78 (by decide) rfl ?_
    refine X_sub [3, 4, 5, 2, 1, 0] rfl ?_
    obtain ⟨n33, h⟩ := h
    exact K_X2_runPass_80 C E hRP n33 _ _ _ _ _ _ h
  · have h := h.2 c
    exact X_vret C E h dX2_runPass_8
theorem M_X2_runPass {l : Launch} {G : XG} (hJ : XJ G) : ∀ (d : Nat) {S : Mem} {a1 a2 a3 : Int32} {K : Mem → Prop} (h : P_X2_runPass d S a1 a2 a3 K), XMv l G yX2_runPass cX2_runPass 8 (8 * d) (182 * d) [.ref (xad G 33), .int a1, .int a2, .int a3] S K := by
  intro d
  induction d with
  | zero => intro S a1 a2 a3 K h; exact h.elim
  | succ d ih => intro S a1 a2 a3 K h; exact M_X2_runPassF hJ (Fp := 8 * d) (Np := 182 * d) (fun S a b c K h => ih h) h
set_option maxRecDepth 100000 in
set_option maxHeartbeats 4000000 in
theorem K_X2_run_22 {κ : Kx} (C : XC κ RX2 cX2_run 3 137 3121) {K : Mem → Prop} (E : XRet κ none (va_Qv K (XB (kG κ)) (XA (kG κ)))) {S : Mem} {x1 : Int32} {x2 : Int32} (h : B_X2_run_22 K S x1 x2) : XW κ S 22 [(0, .ref (xad (kG κ) 33)), (1, .int x1), (2, .int x2)] [] := by
  refine X_aload_n C 0 0 dX2_run_22 rfl rfl ?_
  refine X_iload_n C 1 1 dX2_run_23 rfl rfl ?_
  obtain ⟨S1, eS1⟩ : ∃ z, z = mput S 33 9 x1 := ⟨_, rfl⟩
  have h := h S1 eS1
  refine X_put C (by decide) (wc_33 _ _) rfl inX2 tyX2_ok nmX2 9 (by decide) q_129 rfl rfl rfl (Nat.le_of_ble_eq_true rfl) eS1 (wc_33 _ _) dX2_run_24 ?_
  refine X_aload_n C 0 0 dX2_run_27 rfl rfl ?_
  refine X_iload_n C 2 2 dX2_run_28 rfl rfl ?_
  obtain ⟨S2, eS2⟩ : ∃ z, z = mput S1 33 10 x2 := ⟨_, rfl⟩
  have h := h S2 eS2
  refine X_put C (by decide) (wc_33 _ _) rfl inX2 tyX2_ok nmX2 10 (by decide) q_130 rfl rfl rfl (Nat.le_of_ble_eq_true rfl) eS2 (wc_33 _ _) dX2_run_29 ?_
  refine X_aload_n C 0 0 dX2_run_32 rfl rfl ?_
  refine X_bipush C (16 : Int32) dX2_run_33 (by decide) ?_
  refine X_iload_n C 2 2 dX2_run_35 rfl rfl ?_
  obtain ⟨hne, h⟩ := h
  refine X_idiv C dX2_run_36 hne ?_
  refine X_iconst C (1 : Int32) dX2_run_37 (by decide) ?_
  refine X_isub C dX2_run_38 ?_
  obtain ⟨S3, eS3⟩ : ∃ z, z = mput S2 33 11 (((16 : Int32) / x2) - (1 : Int32)) := ⟨_, rfl⟩
  have h := h S3 eS3
  refine X_put C (by decide) (wc_33 _ _) rfl inX2 tyX2_ok nmX2 11 (by decide) q_131 rfl rfl rfl (Nat.le_of_ble_eq_true rfl) eS3 (wc_33 _ _) dX2_run_39 ?_
  refine X_aload_n C 0 0 dX2_run_42 rfl rfl ?_
  refine X_iconst C (0 : Int32) dX2_run_43 (by decide) ?_
  obtain ⟨S4, eS4⟩ : ∃ z, z = mput S3 33 8 (0 : Int32) := ⟨_, rfl⟩
  have h := h S4 eS4
  refine X_put C (by decide) (wc_33 _ _) rfl inX2 tyX2_ok nmX2 8 (by decide) q_127 rfl rfl rfl (Nat.le_of_ble_eq_true rfl) eS4 (wc_33 _ _) dX2_run_44 ?_
  refine X_aload_n C 0 0 dX2_run_47 rfl rfl ?_
  refine X_get C (by decide) (wc_33 _ _) rfl inX2 1 (by decide) q_116 rfl dX2_run_48 ?_
  refine X_iconst C (0 : Int32) dX2_run_51 (by decide) ?_
  refine X_callVv C eX4_shorten [.int (0 : Int32)] [] (M_X4_shorten C.g_J (by decide) h) (by decide) (wc_34 _ _) rfl q_363 rfl ⟨(Nat.le_of_ble_eq_true rfl), (Nat.le_of_ble_eq_true rfl)⟩ rfl (Nat.le_of_ble_eq_true rfl) dX2_run_52 (fun S5 h => ?_)
  refine X_aload_n C 0 0 dX2_run_55 rfl rfl ?_
  refine X_get C (by decide) (wc_33 _ _) rfl inX2 2 (by decide) q_118 rfl dX2_run_56 ?_
  refine X_iconst C (0 : Int32) dX2_run_59 (by decide) ?_
  refine X_callVv C eX4_shorten [.int (0 : Int32)] [] (M_X4_shorten C.g_J (by decide) h) (by decide) (wc_36 _ _) rfl q_363 rfl ⟨(Nat.le_of_ble_eq_true rfl), (Nat.le_of_ble_eq_true rfl)⟩ rfl (Nat.le_of_ble_eq_true rfl) dX2_run_60 (fun S7 h => ?_)
  refine X_aload_n C 0 0 dX2_run_63 rfl rfl ?_
  refine X_get C (by decide) (wc_33 _ _) rfl inX2 4 (by decide) q_122 rfl dX2_run_64 ?_
  refine X_iconst C (0 : Int32) dX2_run_67 (by decide) ?_
  refine X_callVv C eX4_shorten [.int (0 : Int32)] [] (M_X4_shorten C.g_J (by decide) h) (by decide) (wc_40 _ _) rfl q_363 rfl ⟨(Nat.le_of_ble_eq_true rfl), (Nat.le_of_ble_eq_true rfl)⟩ rfl (Nat.le_of_ble_eq_true rfl) dX2_run_68 (fun S9 h => ?_)
  refine X_aload_n C 0 0 dX2_run_71 rfl rfl ?_
  refine X_get C (by decide) (wc_33 _ _) rfl inX2 3 (by decide) q_120 rfl dX2_run_72 ?_
  refine X_aload_n C 0 0 dX2_run_75 rfl rfl ?_
  refine X_get C (by decide) (wc_33 _ _) rfl inX2 0 (by decide) q_115 rfl dX2_run_76 ?_
  refine X_getN C (by decide) (wc_28 _ _) rfl inX0 0 (by decide) z_98 rfl dX2_run_79 ?_
  refine X_callVi C eX4_length [] [.ref (xad (kG κ) 38)] (M_X4_length C.g_J (by decide) h) (by decide) (wc_29 _ _) rfl q_364 rfl ⟨(Nat.le_of_ble_eq_true rfl), (Nat.le_of_ble_eq_true rfl)⟩ rfl (Nat.le_of_ble_eq_true rfl) dX2_run_82 (fun r12 S11 h => ?_)
  refine X_callVv C eX4_reset [.int r12] [] (M_X4_reset C.g_J (by decide) h) (by decide) (wc_38 _ _) rfl q_365 rfl ⟨(Nat.le_of_ble_eq_true rfl), (Nat.le_of_ble_eq_true rfl)⟩ rfl (Nat.le_of_ble_eq_true rfl) dX2_run_85 (fun S13 h => ?_)
  refine X_aload_n C 0 0 dX2_run_88 rfl rfl ?_
  refine X_get C (by decide) (wc_33 _ _) rfl inX2 7 (by decide) q_126 rfl dX2_run_89 ?_
  refine X_aload_n C 0 0 dX2_run_92 rfl rfl ?_
  refine X_get C (by decide) (wc_33 _ _) rfl inX2 0 (by decide) q_115 rfl dX2_run_93 ?_
  refine X_getN C (by decide) (wc_28 _ _) rfl inX0 1 (by decide) z_101 rfl dX2_run_96 ?_
  refine X_callVv C eX4_copyFrom [.ref (xad (kG κ) 31)] [] (M_X4_copyFrom C.g_J (by decide) (by decide) h) (by decide) (wc_46 _ _) rfl q_370 rfl ⟨(Nat.le_of_ble_eq_true rfl), (Nat.le_of_ble_eq_true rfl)⟩ rfl (Nat.le_of_ble_eq_true rfl) dX2_run_99 (fun S15 h => ?_)
  refine X_aload_n C 0 0 dX2_run_102 rfl rfl ?_
  refine X_iconst C (0 : Int32) dX2_run_103 (by decide) ?_
  refine X_iconst C (0 : Int32) dX2_run_104 (by decide) ?_
  refine X_iconst C (0 : Int32) dX2_run_105 (by decide) ?_
  refine X_callVv C eX2_runPass [.int (0 : Int32), .int (0 : Int32), .int (0 : Int32)] [] (M_X2_runPass C.g_J 17 h) (by decide) (wc_33 _ _) rfl q_371 rfl ⟨(Nat.le_of_ble_eq_true rfl), (Nat.le_of_ble_eq_true rfl)⟩ rfl (Nat.le_of_ble_eq_true rfl) dX2_run_106 (fun S17 h => ?_)
  exact X_vret C E h dX2_run_109
set_option maxRecDepth 100000 in
set_option maxHeartbeats 4000000 in
theorem M_X2_run {l : Launch} {G : XG} (hJ : XJ G) {S : Mem} {a1 : Int32} {a2 : Int32} {K : Mem → Prop} (h : P_X2_run S a1 a2 K) : XMv l G yX2_run cX2_run 3 137 3121 [.ref (xad G 33), .int a1, .int a2] S K := by
  refine X_meth RX2 rfl (by decide +kernel) hJ (Nat.le_of_ble_eq_true rfl) (fun κ hl hG C E => ?_)
  subst hl hG
  show XW κ S 0 [(0, .ref (xad (kG κ) 33)), (1, .int a1), (2, .int a2)] []
  refine X_iload_n C 2 2 dX2_run_0 rfl rfl ?_
  refine X_iconst C (1 : Int32) dX2_run_1 (by decide) ?_
  refine X_icmp_lt C 21 dX2_run_2 (by decide) (fun c => ?_) (fun c => ?_)
  · have h := h.1 c
    exact X_vret C E h dX2_run_21
  · have h := h.2 c
    refine X_aload_n C 0 0 dX2_run_5 rfl rfl ?_
    refine X_get C (by decide) (wc_33 _ _) rfl inX2 9 (by decide) q_129 rfl dX2_run_6 ?_
    refine X_iload_n C 1 1 dX2_run_9 rfl rfl ?_
    refine X_icmp_ne C 22 dX2_run_10 (by decide) (fun c => ?_) (fun c => ?_)
    · have h := h.1 c
      exact K_X2_run_22 C E h
    · have h := h.2 c
      refine X_aload_n C 0 0 dX2_run_13 rfl rfl ?_
      refine X_get C (by decide) (wc_33 _ _) rfl inX2 10 (by decide) q_130 rfl dX2_run_14 ?_
      refine X_iload_n C 2 2 dX2_run_17 rfl rfl ?_
      refine X_icmp_ne C 22 dX2_run_18 (by decide) (fun c => ?_) (fun c => ?_)
      · have h := h.1 c
        exact K_X2_run_22 C E h
      · have h := h.2 c
        exact X_vret C E h dX2_run_21
set_option maxRecDepth 100000 in
set_option maxHeartbeats 4000000 in
theorem K_X2_find_43 {κ : Kx} (C : XC κ RX2 cX2_find 4 1 22) {K : Int32 → Mem → Prop} (E : XRet κ (some .int) (va_Qi K (XB (kG κ)) (XA (kG κ)))) {R2 : Mem → Int32 → Int32 → Int32 → Prop} (hR2 : ∀ (S : Mem) (x1 x2 x3 : Int32), R2 S x1 x2 x3 → XW κ S 2 [(0, .ref (xad (kG κ) 33)), (1, .int x1), (2, .int x2), (3, .int x3)] []) {S : Mem} {x1 : Int32} {x2 : Int32} {x3 : Int32} (h : B_X2_find_43 R2 K S x1 x2 x3) : XW κ S 43 [(0, .ref (xad (kG κ) 33)), (1, .int x1), (2, .int x2), (3, .int x3)] [] := by
  refine X_iinc C (x3 + (1 : Int32)) 3 [(3, .int (x3 + (1 : Int32))), (0, .ref (xad (kG κ) 33)), (1, .int x1), (2, .int x2)] dX2_find_43 rfl rfl (by decide) rfl ?_
  refine X_goto C 2 dX2_find_46 (by decide) ?_
  refine X_sub [1, 2, 3, 0] rfl ?_
  exact hR2 _ _ _ _ h
set_option maxRecDepth 100000 in
set_option maxHeartbeats 4000000 in
theorem K_X2_find_2 {κ : Kx} (C : XC κ RX2 cX2_find 4 1 22) {K : Int32 → Mem → Prop} (E : XRet κ (some .int) (va_Qi K (XB (kG κ)) (XA (kG κ)))) : ∀ (n : Nat) (S : Mem) (x1 : Int32) (x2 : Int32) (x3 : Int32), B_X2_find_2 K n S x1 x2 x3 → XW κ S 2 [(0, .ref (xad (kG κ) 33)), (1, .int x1), (2, .int x2), (3, .int x3)] [] := by
  intro n
  induction n with
  | zero => intro S x1 x2 x3 h; exact h.elim
  | succ n ih =>
    intro S x1 x2 x3 h
    refine X_iload_n C 3 3 dX2_find_2 rfl rfl ?_
    refine X_aload_n C 0 0 dX2_find_3 rfl rfl ?_
    refine X_get C (by decide) (wc_33 _ _) rfl inX2 1 (by decide) q_116 rfl dX2_find_4 ?_
    refine X_callVi C eX4_length [] [.int x3] (M_X4_length C.g_J (by decide) h) (by decide) (wc_34 _ _) rfl q_364 rfl ⟨(Nat.le_of_ble_eq_true rfl), (Nat.le_of_ble_eq_true rfl)⟩ rfl (Nat.le_of_ble_eq_true rfl) dX2_find_7 (fun r2 S1 h => ?_)
    refine X_icmp_ge C 49 dX2_find_10 (by decide) (fun c => ?_) (fun c => ?_)
    · have h := h.1 c
      refine X_iconst C (-1 : Int32) dX2_find_49 (by decide) ?_
      exact X_iret C E rfl h dX2_find_50
    · have h := h.2 c
      refine X_aload_n C 0 0 dX2_find_13 rfl rfl ?_
      refine X_get C (by decide) (wc_33 _ _) rfl inX2 1 (by decide) q_116 rfl dX2_find_14 ?_
      refine X_iload_n C 3 3 dX2_find_17 rfl rfl ?_
      refine X_bipush C (6 : Int32) dX2_find_18 (by decide) ?_
      refine X_callVi C eX4_at [.int x3, .int (6 : Int32)] [] (M_X4_at C.g_J (by decide) h) (by decide) (wc_34 _ _) rfl q_377 rfl ⟨(Nat.le_of_ble_eq_true rfl), (Nat.le_of_ble_eq_true rfl)⟩ rfl (Nat.le_of_ble_eq_true rfl) dX2_find_20 (fun r4 S3 h => ?_)
      refine X_iload_n C 1 1 dX2_find_23 rfl rfl ?_
      refine X_icmp_ne C 43 dX2_find_24 (by decide) (fun c => ?_) (fun c => ?_)
      · have h := h.1 c
        exact K_X2_find_43 C E (fun _ _ _ _ h => ih _ _ _ _ h) h
      · have h := h.2 c
        refine X_aload_n C 0 0 dX2_find_27 rfl rfl ?_
        refine X_get C (by decide) (wc_33 _ _) rfl inX2 1 (by decide) q_116 rfl dX2_find_28 ?_
        refine X_iload_n C 3 3 dX2_find_31 rfl rfl ?_
        refine X_bipush C (7 : Int32) dX2_find_32 (by decide) ?_
        refine X_callVi C eX4_at [.int x3, .int (7 : Int32)] [] (M_X4_at C.g_J (by decide) h) (by decide) (wc_34 _ _) rfl q_377 rfl ⟨(Nat.le_of_ble_eq_true rfl), (Nat.le_of_ble_eq_true rfl)⟩ rfl (Nat.le_of_ble_eq_true rfl) dX2_find_34 (fun r6 S5 h => ?_)
        refine X_iload_n C 2 2 dX2_find_37 rfl rfl ?_
        refine X_icmp_ne C 43 dX2_find_38 (by decide) (fun c => ?_) (fun c => ?_)
        · have h := h.1 c
          exact K_X2_find_43 C E (fun _ _ _ _ h => ih _ _ _ _ h) h
        · have h := h.2 c
          refine X_iload_n C 3 3 dX2_find_41 rfl rfl ?_
          exact X_iret C E rfl h dX2_find_42
set_option maxRecDepth 100000 in
set_option maxHeartbeats 4000000 in
theorem M_X2_find {l : Launch} {G : XG} (hJ : XJ G) {S : Mem} {a1 : Int32} {a2 : Int32} {K : Int32 → Mem → Prop} (h : P_X2_find S a1 a2 K) : XMi l G yX2_find cX2_find 4 .int 1 22 [.ref (xad G 33), .int a1, .int a2] S K := by
  refine X_meth RX2 rfl (by decide +kernel) hJ (Nat.le_of_ble_eq_true rfl) (fun κ hl hG C E => ?_)
  subst hl hG
  show XW κ S 0 [(0, .ref (xad (kG κ) 33)), (1, .int a1), (2, .int a2)] []
  refine X_iconst C (0 : Int32) dX2_find_0 (by decide) ?_
  refine X_istore_n C 3 [(3, .int (0 : Int32)), (0, .ref (xad (kG κ) 33)), (1, .int a1), (2, .int a2)] dX2_find_1 rfl (by decide) rfl ?_
  refine X_sub [1, 2, 3, 0] rfl ?_
  obtain ⟨n7, h⟩ := h
  exact K_X2_find_2 C E n7 _ _ _ _ h
set_option maxRecDepth 100000 in
set_option maxHeartbeats 4000000 in
theorem M_X2_itemsFiled {l : Launch} {G : XG} (hJ : XJ G) {S : Mem} {K : Int32 → Mem → Prop} (h : P_X2_itemsFiled S K) : XMi l G yX2_itemsFiled cX2_itemsFiled 1 .int 2 45 [.ref (xad G 33)] S K := by
  refine X_meth RX2 rfl (by decide +kernel) hJ (Nat.le_of_ble_eq_true rfl) (fun κ hl hG C E => ?_)
  subst hl hG
  show XW κ S 0 [(0, .ref (xad (kG κ) 33))] []
  refine X_aload_n C 0 0 dX2_itemsFiled_0 rfl rfl ?_
  refine X_get C (by decide) (wc_33 _ _) rfl inX2 1 (by decide) q_116 rfl dX2_itemsFiled_1 ?_
  refine X_iconst C (3 : Int32) dX2_itemsFiled_4 (by decide) ?_
  refine X_callVi C eX4_sumOf [.int (3 : Int32)] [] (M_X4_sumOf C.g_J (by decide) h) (by decide) (wc_34 _ _) rfl q_450 rfl ⟨(Nat.le_of_ble_eq_true rfl), (Nat.le_of_ble_eq_true rfl)⟩ rfl (Nat.le_of_ble_eq_true rfl) dX2_itemsFiled_5 (fun r2 S1 h => ?_)
  exact X_iret C E rfl h dX2_itemsFiled_8
set_option maxRecDepth 100000 in
set_option maxHeartbeats 4000000 in
theorem M_X2_itemsRead {l : Launch} {G : XG} (hJ : XJ G) {S : Mem} {K : Int32 → Mem → Prop} (h : P_X2_itemsRead S K) : XMi l G yX2_itemsRead cX2_itemsRead 1 .int 2 45 [.ref (xad G 33)] S K := by
  refine X_meth RX2 rfl (by decide +kernel) hJ (Nat.le_of_ble_eq_true rfl) (fun κ hl hG C E => ?_)
  subst hl hG
  show XW κ S 0 [(0, .ref (xad (kG κ) 33))] []
  refine X_aload_n C 0 0 dX2_itemsRead_0 rfl rfl ?_
  refine X_get C (by decide) (wc_33 _ _) rfl inX2 1 (by decide) q_116 rfl dX2_itemsRead_1 ?_
  refine X_iconst C (0 : Int32) dX2_itemsRead_4 (by decide) ?_
  refine X_callVi C eX4_sumOf [.int (0 : Int32)] [] (M_X4_sumOf C.g_J (by decide) h) (by decide) (wc_34 _ _) rfl q_450 rfl ⟨(Nat.le_of_ble_eq_true rfl), (Nat.le_of_ble_eq_true rfl)⟩ rfl (Nat.le_of_ble_eq_true rfl) dX2_itemsRead_5 (fun r2 S1 h => ?_)
  refine X_aload_n C 0 0 dX2_itemsRead_8 rfl rfl ?_
  refine X_get C (by decide) (wc_33 _ _) rfl inX2 1 (by decide) q_116 rfl dX2_itemsRead_9 ?_
  refine X_iconst C (0 : Int32) dX2_itemsRead_12 (by decide) ?_
  refine X_iconst C (0 : Int32) dX2_itemsRead_13 (by decide) ?_
  refine X_callVi C eX4_at [.int (0 : Int32), .int (0 : Int32)] [.int r2] (M_X4_at C.g_J (by decide) h) (by decide) (wc_34 _ _) rfl q_377 rfl ⟨(Nat.le_of_ble_eq_true rfl), (Nat.le_of_ble_eq_true rfl)⟩ rfl (Nat.le_of_ble_eq_true rfl) dX2_itemsRead_14 (fun r4 S3 h => ?_)
  refine X_isub C dX2_itemsRead_17 ?_
  exact X_iret C E rfl h dX2_itemsRead_18
end
