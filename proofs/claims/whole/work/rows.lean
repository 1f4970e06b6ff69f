section
-- ===== PART A: goes FIRST, ahead of the names: the tables' words, and 'selects' of the private methods out of them =====
/-- a private method of a class that the tables say can be made, by its rows of tables_1 -/
def lw_okq (q : MethodName × Nat) : Prop := (q.1.cls ≠ "java/lang/invoke/MethodHandle" ∧ q.1.cls ≠ "java/lang/invoke/VarHandle") ∧ Cond.instantiable q.1.cls q.2 ∈ tables_1 ∧ Cond.privateMethod q.1 ∈ tables_1 ∧ Cond.instanceMethod q.1 ∈ tables_1
theorem lw_p0 : lw_okq (⟨"DescriptorDesk", "leastAbsent", "()I"⟩, 7) := ⟨⟨by decide +kernel, by decide +kernel⟩, List.mem_of_getElem? (i := 16) (by decide +kernel), List.mem_of_getElem? (i := 170) (by decide +kernel), List.mem_of_getElem? (i := 171) (by decide +kernel)⟩
theorem lw_p1 : lw_okq (⟨"DescriptorDesk", "freeOpening", "(LDescriptorDesk$Opening;)LDescriptorDesk$Opening;"⟩, 7) := ⟨⟨by decide +kernel, by decide +kernel⟩, List.mem_of_getElem? (i := 16) (by decide +kernel), List.mem_of_getElem? (i := 174) (by decide +kernel), List.mem_of_getElem? (i := 175) (by decide +kernel)⟩
theorem lw_p2 : lw_okq (⟨"DescriptorDesk", "procThere", "(I)LDescriptorDesk$Proc;"⟩, 7) := ⟨⟨by decide +kernel, by decide +kernel⟩, List.mem_of_getElem? (i := 16) (by decide +kernel), List.mem_of_getElem? (i := 226) (by decide +kernel), List.mem_of_getElem? (i := 227) (by decide +kernel)⟩
theorem lw_p3 : lw_okq (⟨"DescriptorDesk", "bytesIn", "(LDescriptorDesk$Opening;)I"⟩, 7) := ⟨⟨by decide +kernel, by decide +kernel⟩, List.mem_of_getElem? (i := 16) (by decide +kernel), List.mem_of_getElem? (i := 254) (by decide +kernel), List.mem_of_getElem? (i := 255) (by decide +kernel)⟩
theorem lw_p4 : lw_okq (⟨"DescriptorDesk", "procsThere", "()I"⟩, 7) := ⟨⟨by decide +kernel, by decide +kernel⟩, List.mem_of_getElem? (i := 16) (by decide +kernel), List.mem_of_getElem? (i := 262) (by decide +kernel), List.mem_of_getElem? (i := 263) (by decide +kernel)⟩
theorem lw_p5 : lw_okq (⟨"DescriptorDesk", "procsWaiting", "()I"⟩, 7) := ⟨⟨by decide +kernel, by decide +kernel⟩, List.mem_of_getElem? (i := 16) (by decide +kernel), List.mem_of_getElem? (i := 266) (by decide +kernel), List.mem_of_getElem? (i := 267) (by decide +kernel)⟩
theorem lw_p6 : lw_okq (⟨"DescriptorDesk", "openingsThere", "()I"⟩, 7) := ⟨⟨by decide +kernel, by decide +kernel⟩, List.mem_of_getElem? (i := 16) (by decide +kernel), List.mem_of_getElem? (i := 274) (by decide +kernel), List.mem_of_getElem? (i := 275) (by decide +kernel)⟩
theorem lw_p7 : lw_okq (⟨"DescriptorDesk", "pipesThere", "()I"⟩, 7) := ⟨⟨by decide +kernel, by decide +kernel⟩, List.mem_of_getElem? (i := 16) (by decide +kernel), List.mem_of_getElem? (i := 278) (by decide +kernel), List.mem_of_getElem? (i := 279) (by decide +kernel)⟩
theorem lw_p8 : lw_okq (⟨"DescriptorDesk", "filesThere", "()I"⟩, 7) := ⟨⟨by decide +kernel, by decide +kernel⟩, List.mem_of_getElem? (i := 16) (by decide +kernel), List.mem_of_getElem? (i := 283) (by decide +kernel), List.mem_of_getElem? (i := 284) (by decide +kernel)⟩
theorem lw_p9 : lw_okq (⟨"DescriptorDesk", "filesWithNames", "()I"⟩, 7) := ⟨⟨by decide +kernel, by decide +kernel⟩, List.mem_of_getElem? (i := 16) (by decide +kernel), List.mem_of_getElem? (i := 291) (by decide +kernel), List.mem_of_getElem? (i := 292) (by decide +kernel)⟩
theorem lw_p10 : lw_okq (⟨"DescriptorDesk", "bytesInPipes", "()I"⟩, 7) := ⟨⟨by decide +kernel, by decide +kernel⟩, List.mem_of_getElem? (i := 16) (by decide +kernel), List.mem_of_getElem? (i := 295) (by decide +kernel), List.mem_of_getElem? (i := 296) (by decide +kernel)⟩
theorem lw_p11 : lw_okq (⟨"DescriptorDesk", "waitingInVain", "()I"⟩, 7) := ⟨⟨by decide +kernel, by decide +kernel⟩, List.mem_of_getElem? (i := 16) (by decide +kernel), List.mem_of_getElem? (i := 299) (by decide +kernel), List.mem_of_getElem? (i := 300) (by decide +kernel)⟩
theorem lw_p12 : lw_okq (⟨"DescriptorDesk", "vainAmong", "(I)I"⟩, 7) := ⟨⟨by decide +kernel, by decide +kernel⟩, List.mem_of_getElem? (i := 16) (by decide +kernel), List.mem_of_getElem? (i := 303) (by decide +kernel), List.mem_of_getElem? (i := 304) (by decide +kernel)⟩
theorem lw_p13 : lw_okq (⟨"DescriptorDesk", "waitsForNoneBut", "(LDescriptorDesk$Proc;I)Z"⟩, 7) := ⟨⟨by decide +kernel, by decide +kernel⟩, List.mem_of_getElem? (i := 16) (by decide +kernel), List.mem_of_getElem? (i := 307) (by decide +kernel), List.mem_of_getElem? (i := 308) (by decide +kernel)⟩
theorem lw_p14 : lw_okq (⟨"DescriptorDesk", "holdersOfEnd", "(LDescriptorDesk$Pipe;I)I"⟩, 7) := ⟨⟨by decide +kernel, by decide +kernel⟩, List.mem_of_getElem? (i := 16) (by decide +kernel), List.mem_of_getElem? (i := 311) (by decide +kernel), List.mem_of_getElem? (i := 312) (by decide +kernel)⟩
theorem lw_p15 : lw_okq (⟨"DescriptorDesk", "readyProc", "(I)LDescriptorDesk$Proc;"⟩, 7) := ⟨⟨by decide +kernel, by decide +kernel⟩, List.mem_of_getElem? (i := 16) (by decide +kernel), List.mem_of_getElem? (i := 337) (by decide +kernel), List.mem_of_getElem? (i := 338) (by decide +kernel)⟩
def lw_privs_1 : List (MethodName × Nat) := [(⟨"DescriptorDesk", "leastAbsent", "()I"⟩, 7), (⟨"DescriptorDesk", "freeOpening", "(LDescriptorDesk$Opening;)LDescriptorDesk$Opening;"⟩, 7), (⟨"DescriptorDesk", "procThere", "(I)LDescriptorDesk$Proc;"⟩, 7), (⟨"DescriptorDesk", "bytesIn", "(LDescriptorDesk$Opening;)I"⟩, 7), (⟨"DescriptorDesk", "procsThere", "()I"⟩, 7), (⟨"DescriptorDesk", "procsWaiting", "()I"⟩, 7), (⟨"DescriptorDesk", "openingsThere", "()I"⟩, 7), (⟨"DescriptorDesk", "pipesThere", "()I"⟩, 7), (⟨"DescriptorDesk", "filesThere", "()I"⟩, 7), (⟨"DescriptorDesk", "filesWithNames", "()I"⟩, 7), (⟨"DescriptorDesk", "bytesInPipes", "()I"⟩, 7), (⟨"DescriptorDesk", "waitingInVain", "()I"⟩, 7), (⟨"DescriptorDesk", "vainAmong", "(I)I"⟩, 7), (⟨"DescriptorDesk", "waitsForNoneBut", "(LDescriptorDesk$Proc;I)Z"⟩, 7), (⟨"DescriptorDesk", "holdersOfEnd", "(LDescriptorDesk$Pipe;I)I"⟩, 7), (⟨"DescriptorDesk", "readyProc", "(I)LDescriptorDesk$Proc;"⟩, 7)]
theorem lw_r1 : ∀ q ∈ lw_privs_1, lw_okq q := List.forall_mem_cons.mpr ⟨lw_p0, List.forall_mem_cons.mpr ⟨lw_p1, List.forall_mem_cons.mpr ⟨lw_p2, List.forall_mem_cons.mpr ⟨lw_p3, List.forall_mem_cons.mpr ⟨lw_p4, List.forall_mem_cons.mpr ⟨lw_p5, List.forall_mem_cons.mpr ⟨lw_p6, List.forall_mem_cons.mpr ⟨lw_p7, List.forall_mem_cons.mpr ⟨lw_p8, List.forall_mem_cons.mpr ⟨lw_p9, List.forall_mem_cons.mpr ⟨lw_p10, List.forall_mem_cons.mpr ⟨lw_p11, List.forall_mem_cons.mpr ⟨lw_p12, List.forall_mem_cons.mpr ⟨lw_p13, List.forall_mem_cons.mpr ⟨lw_p14, List.forall_mem_cons.mpr ⟨lw_p15, fun _ h => absurd h List.not_mem_nil⟩⟩⟩⟩⟩⟩⟩⟩⟩⟩⟩⟩⟩⟩⟩⟩
theorem lw_p16 : lw_okq (⟨"java/lang/Throwable", "fillInStackTrace", "(I)Ljava/lang/Throwable;"⟩, 6) := ⟨⟨by decide +kernel, by decide +kernel⟩, List.mem_of_getElem? (i := 378) (by decide +kernel), List.mem_of_getElem? (i := 376) (by decide +kernel), List.mem_of_getElem? (i := 377) (by decide +kernel)⟩
theorem lw_p17 : lw_okq (⟨"DescriptorDesk", "wakeAll", "()I"⟩, 7) := ⟨⟨by decide +kernel, by decide +kernel⟩, List.mem_of_getElem? (i := 16) (by decide +kernel), List.mem_of_getElem? (i := 420) (by decide +kernel), List.mem_of_getElem? (i := 421) (by decide +kernel)⟩
theorem lw_p18 : lw_okq (⟨"DescriptorDesk", "mustWait", "(LDescriptorDesk$Proc;)Z"⟩, 7) := ⟨⟨by decide +kernel, by decide +kernel⟩, List.mem_of_getElem? (i := 16) (by decide +kernel), List.mem_of_getElem? (i := 424) (by decide +kernel), List.mem_of_getElem? (i := 425) (by decide +kernel)⟩
theorem lw_p19 : lw_okq (⟨"DescriptorDesk", "hindranceToRead", "(LDescriptorDesk$Opening;I)I"⟩, 7) := ⟨⟨by decide +kernel, by decide +kernel⟩, List.mem_of_getElem? (i := 16) (by decide +kernel), List.mem_of_getElem? (i := 428) (by decide +kernel), List.mem_of_getElem? (i := 429) (by decide +kernel)⟩
theorem lw_p20 : lw_okq (⟨"DescriptorDesk", "fileNamed", "(I)LDescriptorDesk$StoredFile;"⟩, 7) := ⟨⟨by decide +kernel, by decide +kernel⟩, List.mem_of_getElem? (i := 16) (by decide +kernel), List.mem_of_getElem? (i := 470) (by decide +kernel), List.mem_of_getElem? (i := 471) (by decide +kernel)⟩
theorem lw_p21 : lw_okq (⟨"DescriptorDesk", "freeFile", "()LDescriptorDesk$StoredFile;"⟩, 7) := ⟨⟨by decide +kernel, by decide +kernel⟩, List.mem_of_getElem? (i := 16) (by decide +kernel), List.mem_of_getElem? (i := 474) (by decide +kernel), List.mem_of_getElem? (i := 475) (by decide +kernel)⟩
theorem lw_p22 : lw_okq (⟨"DescriptorDesk", "freePipe", "()LDescriptorDesk$Pipe;"⟩, 7) := ⟨⟨by decide +kernel, by decide +kernel⟩, List.mem_of_getElem? (i := 16) (by decide +kernel), List.mem_of_getElem? (i := 492) (by decide +kernel), List.mem_of_getElem? (i := 493) (by decide +kernel)⟩
theorem lw_p23 : lw_okq (⟨"DescriptorDesk", "take", "(LDescriptorDesk$Proc;LDescriptorDesk$Opening;I)I"⟩, 7) := ⟨⟨by decide +kernel, by decide +kernel⟩, List.mem_of_getElem? (i := 16) (by decide +kernel), List.mem_of_getElem? (i := 511) (by decide +kernel), List.mem_of_getElem? (i := 512) (by decide +kernel)⟩
theorem lw_p24 : lw_okq (⟨"DescriptorDesk", "takeFromConsole", "(LDescriptorDesk$Proc;I)I"⟩, 7) := ⟨⟨by decide +kernel, by decide +kernel⟩, List.mem_of_getElem? (i := 16) (by decide +kernel), List.mem_of_getElem? (i := 537) (by decide +kernel), List.mem_of_getElem? (i := 538) (by decide +kernel)⟩
theorem lw_p25 : lw_okq (⟨"DescriptorDesk", "put", "(LDescriptorDesk$Opening;JI)V"⟩, 7) := ⟨⟨by decide +kernel, by decide +kernel⟩, List.mem_of_getElem? (i := 16) (by decide +kernel), List.mem_of_getElem? (i := 548) (by decide +kernel), List.mem_of_getElem? (i := 549) (by decide +kernel)⟩
theorem lw_p26 : lw_okq (⟨"DescriptorDesk", "putByte", "(LDescriptorDesk$Opening;I)V"⟩, 7) := ⟨⟨by decide +kernel, by decide +kernel⟩, List.mem_of_getElem? (i := 16) (by decide +kernel), List.mem_of_getElem? (i := 552) (by decide +kernel), List.mem_of_getElem? (i := 553) (by decide +kernel)⟩
theorem lw_p27 : lw_okq (⟨"DescriptorDesk", "showByte", "(I)V"⟩, 7) := ⟨⟨by decide +kernel, by decide +kernel⟩, List.mem_of_getElem? (i := 16) (by decide +kernel), List.mem_of_getElem? (i := 565) (by decide +kernel), List.mem_of_getElem? (i := 566) (by decide +kernel)⟩
theorem lw_p28 : lw_okq (⟨"DescriptorDeskModel", "freeProcess", "()I"⟩, 21) := ⟨⟨by decide +kernel, by decide +kernel⟩, List.mem_of_getElem? (i := 616) (by decide +kernel), List.mem_of_getElem? (i := 696) (by decide +kernel), List.mem_of_getElem? (i := 697) (by decide +kernel)⟩
theorem lw_p29 : lw_okq (⟨"DescriptorDeskModel", "freeOpening", "()I"⟩, 21) := ⟨⟨by decide +kernel, by decide +kernel⟩, List.mem_of_getElem? (i := 616) (by decide +kernel), List.mem_of_getElem? (i := 700) (by decide +kernel), List.mem_of_getElem? (i := 701) (by decide +kernel)⟩
theorem lw_p30 : lw_okq (⟨"DescriptorDeskModel", "begin", "(I)V"⟩, 21) := ⟨⟨by decide +kernel, by decide +kernel⟩, List.mem_of_getElem? (i := 616) (by decide +kernel), List.mem_of_getElem? (i := 704) (by decide +kernel), List.mem_of_getElem? (i := 705) (by decide +kernel)⟩
theorem lw_p31 : lw_okq (⟨"DescriptorDeskModel", "newOpening", "(III)I"⟩, 21) := ⟨⟨by decide +kernel, by decide +kernel⟩, List.mem_of_getElem? (i := 616) (by decide +kernel), List.mem_of_getElem? (i := 708) (by decide +kernel), List.mem_of_getElem? (i := 709) (by decide +kernel)⟩
def lw_privs_2 : List (MethodName × Nat) := [(⟨"java/lang/Throwable", "fillInStackTrace", "(I)Ljava/lang/Throwable;"⟩, 6), (⟨"DescriptorDesk", "wakeAll", "()I"⟩, 7), (⟨"DescriptorDesk", "mustWait", "(LDescriptorDesk$Proc;)Z"⟩, 7), (⟨"DescriptorDesk", "hindranceToRead", "(LDescriptorDesk$Opening;I)I"⟩, 7), (⟨"DescriptorDesk", "fileNamed", "(I)LDescriptorDesk$StoredFile;"⟩, 7), (⟨"DescriptorDesk", "freeFile", "()LDescriptorDesk$StoredFile;"⟩, 7), (⟨"DescriptorDesk", "freePipe", "()LDescriptorDesk$Pipe;"⟩, 7), (⟨"DescriptorDesk", "take", "(LDescriptorDesk$Proc;LDescriptorDesk$Opening;I)I"⟩, 7), (⟨"DescriptorDesk", "takeFromConsole", "(LDescriptorDesk$Proc;I)I"⟩, 7), (⟨"DescriptorDesk", "put", "(LDescriptorDesk$Opening;JI)V"⟩, 7), (⟨"DescriptorDesk", "putByte", "(LDescriptorDesk$Opening;I)V"⟩, 7), (⟨"DescriptorDesk", "showByte", "(I)V"⟩, 7), (⟨"DescriptorDeskModel", "freeProcess", "()I"⟩, 21), (⟨"DescriptorDeskModel", "freeOpening", "()I"⟩, 21), (⟨"DescriptorDeskModel", "begin", "(I)V"⟩, 21), (⟨"DescriptorDeskModel", "newOpening", "(III)I"⟩, 21)]
theorem lw_r2 : ∀ q ∈ lw_privs_2, lw_okq q := List.forall_mem_cons.mpr ⟨lw_p16, List.forall_mem_cons.mpr ⟨lw_p17, List.forall_mem_cons.mpr ⟨lw_p18, List.forall_mem_cons.mpr ⟨lw_p19, List.forall_mem_cons.mpr ⟨lw_p20, List.forall_mem_cons.mpr ⟨lw_p21, List.forall_mem_cons.mpr ⟨lw_p22, List.forall_mem_cons.mpr ⟨lw_p23, List.forall_mem_cons.mpr ⟨lw_p24, List.forall_mem_cons.mpr ⟨lw_p25, List.forall_mem_cons.mpr ⟨lw_p26, List.forall_mem_cons.mpr ⟨lw_p27, List.forall_mem_cons.mpr ⟨lw_p28, List.forall_mem_cons.mpr ⟨lw_p29, List.forall_mem_cons.mpr ⟨lw_p30, List.forall_mem_cons.mpr ⟨lw_p31, fun _ h => absurd h List.not_mem_nil⟩⟩⟩⟩⟩⟩⟩⟩⟩⟩⟩⟩⟩⟩⟩⟩
theorem lw_p32 : lw_okq (⟨"DescriptorDeskModel", "give", "(II)I"⟩, 21) := ⟨⟨by decide +kernel, by decide +kernel⟩, List.mem_of_getElem? (i := 616) (by decide +kernel), List.mem_of_getElem? (i := 712) (by decide +kernel), List.mem_of_getElem? (i := 713) (by decide +kernel)⟩
theorem lw_p33 : lw_okq (⟨"DescriptorDeskModel", "freeDescriptor", "(I)I"⟩, 21) := ⟨⟨by decide +kernel, by decide +kernel⟩, List.mem_of_getElem? (i := 616) (by decide +kernel), List.mem_of_getElem? (i := 716) (by decide +kernel), List.mem_of_getElem? (i := 717) (by decide +kernel)⟩
theorem lw_p34 : lw_okq (⟨"DescriptorDeskModel", "isReady", "(I)Z"⟩, 21) := ⟨⟨by decide +kernel, by decide +kernel⟩, List.mem_of_getElem? (i := 616) (by decide +kernel), List.mem_of_getElem? (i := 724) (by decide +kernel), List.mem_of_getElem? (i := 725) (by decide +kernel)⟩
theorem lw_p35 : lw_okq (⟨"DescriptorDeskModel", "fails", "(ZZ)Z"⟩, 21) := ⟨⟨by decide +kernel, by decide +kernel⟩, List.mem_of_getElem? (i := 616) (by decide +kernel), List.mem_of_getElem? (i := 731) (by decide +kernel), List.mem_of_getElem? (i := 732) (by decide +kernel)⟩
theorem lw_p36 : lw_okq (⟨"DescriptorDeskModel", "isThere", "(I)Z"⟩, 21) := ⟨⟨by decide +kernel, by decide +kernel⟩, List.mem_of_getElem? (i := 616) (by decide +kernel), List.mem_of_getElem? (i := 739) (by decide +kernel), List.mem_of_getElem? (i := 740) (by decide +kernel)⟩
theorem lw_p37 : lw_okq (⟨"DescriptorDeskModel", "sweep", "()V"⟩, 21) := ⟨⟨by decide +kernel, by decide +kernel⟩, List.mem_of_getElem? (i := 616) (by decide +kernel), List.mem_of_getElem? (i := 743) (by decide +kernel), List.mem_of_getElem? (i := 744) (by decide +kernel)⟩
theorem lw_p38 : lw_okq (⟨"DescriptorDeskModel", "holders", "(I)I"⟩, 21) := ⟨⟨by decide +kernel, by decide +kernel⟩, List.mem_of_getElem? (i := 616) (by decide +kernel), List.mem_of_getElem? (i := 747) (by decide +kernel), List.mem_of_getElem? (i := 748) (by decide +kernel)⟩
theorem lw_p39 : lw_okq (⟨"DescriptorDeskModel", "openings", "(II)I"⟩, 21) := ⟨⟨by decide +kernel, by decide +kernel⟩, List.mem_of_getElem? (i := 616) (by decide +kernel), List.mem_of_getElem? (i := 751) (by decide +kernel), List.mem_of_getElem? (i := 752) (by decide +kernel)⟩
theorem lw_p40 : lw_okq (⟨"DescriptorDeskModel", "wake", "()I"⟩, 21) := ⟨⟨by decide +kernel, by decide +kernel⟩, List.mem_of_getElem? (i := 616) (by decide +kernel), List.mem_of_getElem? (i := 755) (by decide +kernel), List.mem_of_getElem? (i := 756) (by decide +kernel)⟩
theorem lw_p41 : lw_okq (⟨"DescriptorDeskModel", "waits", "(IZI)Z"⟩, 21) := ⟨⟨by decide +kernel, by decide +kernel⟩, List.mem_of_getElem? (i := 616) (by decide +kernel), List.mem_of_getElem? (i := 759) (by decide +kernel), List.mem_of_getElem? (i := 760) (by decide +kernel)⟩
theorem lw_p42 : lw_okq (⟨"DescriptorDeskModel", "named", "(I)I"⟩, 21) := ⟨⟨by decide +kernel, by decide +kernel⟩, List.mem_of_getElem? (i := 616) (by decide +kernel), List.mem_of_getElem? (i := 767) (by decide +kernel), List.mem_of_getElem? (i := 768) (by decide +kernel)⟩
theorem lw_p43 : lw_okq (⟨"DescriptorDeskModel", "freeFile", "()I"⟩, 21) := ⟨⟨by decide +kernel, by decide +kernel⟩, List.mem_of_getElem? (i := 616) (by decide +kernel), List.mem_of_getElem? (i := 771) (by decide +kernel), List.mem_of_getElem? (i := 772) (by decide +kernel)⟩
theorem lw_p44 : lw_okq (⟨"DescriptorDeskModel", "openingOf", "(II)I"⟩, 21) := ⟨⟨by decide +kernel, by decide +kernel⟩, List.mem_of_getElem? (i := 616) (by decide +kernel), List.mem_of_getElem? (i := 787) (by decide +kernel), List.mem_of_getElem? (i := 788) (by decide +kernel)⟩
theorem lw_p45 : lw_okq (⟨"DescriptorDeskModel", "freeDescriptors", "(I)I"⟩, 21) := ⟨⟨by decide +kernel, by decide +kernel⟩, List.mem_of_getElem? (i := 616) (by decide +kernel), List.mem_of_getElem? (i := 796) (by decide +kernel), List.mem_of_getElem? (i := 797) (by decide +kernel)⟩
theorem lw_p46 : lw_okq (⟨"DescriptorDeskModel", "countOpenings", "()I"⟩, 21) := ⟨⟨by decide +kernel, by decide +kernel⟩, List.mem_of_getElem? (i := 616) (by decide +kernel), List.mem_of_getElem? (i := 800) (by decide +kernel), List.mem_of_getElem? (i := 801) (by decide +kernel)⟩
theorem lw_p47 : lw_okq (⟨"DescriptorDeskModel", "waitFor", "(IIII)I"⟩, 21) := ⟨⟨by decide +kernel, by decide +kernel⟩, List.mem_of_getElem? (i := 616) (by decide +kernel), List.mem_of_getElem? (i := 808) (by decide +kernel), List.mem_of_getElem? (i := 809) (by decide +kernel)⟩
def lw_privs_3 : List (MethodName × Nat) := [(⟨"DescriptorDeskModel", "give", "(II)I"⟩, 21), (⟨"DescriptorDeskModel", "freeDescriptor", "(I)I"⟩, 21), (⟨"DescriptorDeskModel", "isReady", "(I)Z"⟩, 21), (⟨"DescriptorDeskModel", "fails", "(ZZ)Z"⟩, 21), (⟨"DescriptorDeskModel", "isThere", "(I)Z"⟩, 21), (⟨"DescriptorDeskModel", "sweep", "()V"⟩, 21), (⟨"DescriptorDeskModel", "holders", "(I)I"⟩, 21), (⟨"DescriptorDeskModel", "openings", "(II)I"⟩, 21), (⟨"DescriptorDeskModel", "wake", "()I"⟩, 21), (⟨"DescriptorDeskModel", "waits", "(IZI)Z"⟩, 21), (⟨"DescriptorDeskModel", "named", "(I)I"⟩, 21), (⟨"DescriptorDeskModel", "freeFile", "()I"⟩, 21), (⟨"DescriptorDeskModel", "openingOf", "(II)I"⟩, 21), (⟨"DescriptorDeskModel", "freeDescriptors", "(I)I"⟩, 21), (⟨"DescriptorDeskModel", "countOpenings", "()I"⟩, 21), (⟨"DescriptorDeskModel", "waitFor", "(IIII)I"⟩, 21)]
theorem lw_r3 : ∀ q ∈ lw_privs_3, lw_okq q := List.forall_mem_cons.mpr ⟨lw_p32, List.forall_mem_cons.mpr ⟨lw_p33, List.forall_mem_cons.mpr ⟨lw_p34, List.forall_mem_cons.mpr ⟨lw_p35, List.forall_mem_cons.mpr ⟨lw_p36, List.forall_mem_cons.mpr ⟨lw_p37, List.forall_mem_cons.mpr ⟨lw_p38, List.forall_mem_cons.mpr ⟨lw_p39, List.forall_mem_cons.mpr ⟨lw_p40, List.forall_mem_cons.mpr ⟨lw_p41, List.forall_mem_cons.mpr ⟨lw_p42, List.forall_mem_cons.mpr ⟨lw_p43, List.forall_mem_cons.mpr ⟨lw_p44, List.forall_mem_cons.mpr ⟨lw_p45, List.forall_mem_cons.mpr ⟨lw_p46, List.forall_mem_cons.mpr ⟨lw_p47, fun _ h => absurd h List.not_mem_nil⟩⟩⟩⟩⟩⟩⟩⟩⟩⟩⟩⟩⟩⟩⟩⟩
theorem lw_p48 : lw_okq (⟨"DescriptorDeskModel", "readPipe", "(III)I"⟩, 21) := ⟨⟨by decide +kernel, by decide +kernel⟩, List.mem_of_getElem? (i := 616) (by decide +kernel), List.mem_of_getElem? (i := 812) (by decide +kernel), List.mem_of_getElem? (i := 813) (by decide +kernel)⟩
theorem lw_p49 : lw_okq (⟨"DescriptorDeskModel", "take", "(III)V"⟩, 21) := ⟨⟨by decide +kernel, by decide +kernel⟩, List.mem_of_getElem? (i := 616) (by decide +kernel), List.mem_of_getElem? (i := 816) (by decide +kernel), List.mem_of_getElem? (i := 817) (by decide +kernel)⟩
theorem lw_p50 : lw_okq (⟨"DescriptorDeskModel", "readFile", "(III)I"⟩, 21) := ⟨⟨by decide +kernel, by decide +kernel⟩, List.mem_of_getElem? (i := 616) (by decide +kernel), List.mem_of_getElem? (i := 820) (by decide +kernel), List.mem_of_getElem? (i := 821) (by decide +kernel)⟩
theorem lw_p51 : lw_okq (⟨"DescriptorDeskModel", "readConsole", "(II)I"⟩, 21) := ⟨⟨by decide +kernel, by decide +kernel⟩, List.mem_of_getElem? (i := 616) (by decide +kernel), List.mem_of_getElem? (i := 824) (by decide +kernel), List.mem_of_getElem? (i := 825) (by decide +kernel)⟩
theorem lw_p52 : lw_okq (⟨"DescriptorDeskModel", "writeFile", "(IJI)I"⟩, 21) := ⟨⟨by decide +kernel, by decide +kernel⟩, List.mem_of_getElem? (i := 616) (by decide +kernel), List.mem_of_getElem? (i := 836) (by decide +kernel), List.mem_of_getElem? (i := 837) (by decide +kernel)⟩
theorem lw_p53 : lw_okq (⟨"DescriptorDeskModel", "show", "(I)V"⟩, 21) := ⟨⟨by decide +kernel, by decide +kernel⟩, List.mem_of_getElem? (i := 616) (by decide +kernel), List.mem_of_getElem? (i := 840) (by decide +kernel), List.mem_of_getElem? (i := 841) (by decide +kernel)⟩
theorem lw_p54 : lw_okq (⟨"DescriptorDeskModel", "vain", "()I"⟩, 21) := ⟨⟨by decide +kernel, by decide +kernel⟩, List.mem_of_getElem? (i := 616) (by decide +kernel), List.mem_of_getElem? (i := 873) (by decide +kernel), List.mem_of_getElem? (i := 874) (by decide +kernel)⟩
theorem lw_p55 : lw_okq (⟨"DescriptorDeskModel", "isOnly", "(III)Z"⟩, 21) := ⟨⟨by decide +kernel, by decide +kernel⟩, List.mem_of_getElem? (i := 616) (by decide +kernel), List.mem_of_getElem? (i := 877) (by decide +kernel), List.mem_of_getElem? (i := 878) (by decide +kernel)⟩
def lw_privs_4 : List (MethodName × Nat) := [(⟨"DescriptorDeskModel", "readPipe", "(III)I"⟩, 21), (⟨"DescriptorDeskModel", "take", "(III)V"⟩, 21), (⟨"DescriptorDeskModel", "readFile", "(III)I"⟩, 21), (⟨"DescriptorDeskModel", "readConsole", "(II)I"⟩, 21), (⟨"DescriptorDeskModel", "writeFile", "(IJI)I"⟩, 21), (⟨"DescriptorDeskModel", "show", "(I)V"⟩, 21), (⟨"DescriptorDeskModel", "vain", "()I"⟩, 21), (⟨"DescriptorDeskModel", "isOnly", "(III)Z"⟩, 21)]
theorem lw_r4 : ∀ q ∈ lw_privs_4, lw_okq q := List.forall_mem_cons.mpr ⟨lw_p48, List.forall_mem_cons.mpr ⟨lw_p49, List.forall_mem_cons.mpr ⟨lw_p50, List.forall_mem_cons.mpr ⟨lw_p51, List.forall_mem_cons.mpr ⟨lw_p52, List.forall_mem_cons.mpr ⟨lw_p53, List.forall_mem_cons.mpr ⟨lw_p54, List.forall_mem_cons.mpr ⟨lw_p55, fun _ h => absurd h List.not_mem_nil⟩⟩⟩⟩⟩⟩⟩⟩
def lw_privs : List (MethodName × Nat) := lw_privs_1 ++ (lw_privs_2 ++ (lw_privs_3 ++ (lw_privs_4)))
def lw_tbl : List Cond := k2_sels lw_privs ++ tables_1
theorem lw_privs_ok : ∀ q ∈ lw_privs, lw_okq q := by
  show ∀ q ∈ lw_privs_1 ++ (lw_privs_2 ++ (lw_privs_3 ++ (lw_privs_4))), lw_okq q
  exact List.forall_mem_append.mpr ⟨lw_r1, List.forall_mem_append.mpr ⟨lw_r2, List.forall_mem_append.mpr ⟨lw_r3, lw_r4⟩⟩⟩
-- ===== end of PART A; then your names; then what follows =====
end
section
/-! NAMES, by program (wip/gen): classes, fields, pools, the words that keep, the methods' names and decoded code -/
def x_tb : List Cond := lw_tbl.filter goodWord
def cn_0 : String := "DescriptorDesk"
def ft_0 : u_T := fun k => match k with
  | 0 => ("DescriptorDesk", "procs", "[LDescriptorDesk$Proc;", true)
  | 1 => ("DescriptorDesk", "openings", "[LDescriptorDesk$Opening;", true)
  | 2 => ("DescriptorDesk", "pipes", "[LDescriptorDesk$Pipe;", true)
  | 3 => ("DescriptorDesk", "files", "[LDescriptorDesk$StoredFile;", true)
  | 4 => ("DescriptorDesk", "typedBytes", "LDescriptorDesk$ByteRow;", true)
  | 5 => ("DescriptorDesk", "shownBytes", "LDescriptorDesk$ByteRow;", true)
  | _ => ("DescriptorDesk", "shownInAll", "I", false)
def cn_1 : String := "DescriptorDesk$Proc"
def ft_1 : u_T := fun k => match k with
  | 0 => ("DescriptorDesk$Proc", "descriptors", "[LDescriptorDesk$Opening;", true)
  | 1 => ("DescriptorDesk$Proc", "condition", "I", false)
  | 2 => ("DescriptorDesk$Proc", "waitsThrough", "I", false)
  | 3 => ("DescriptorDesk$Proc", "wants", "I", false)
  | _ => ("DescriptorDesk$Proc", "latest", "J", false)
def cn_2 : String := "DescriptorDesk$Opening"
def ft_2 : u_T := fun k => match k with
  | 0 => ("DescriptorDesk$Opening", "pipe", "LDescriptorDesk$Pipe;", false)
  | 1 => ("DescriptorDesk$Opening", "file", "LDescriptorDesk$StoredFile;", false)
  | 2 => ("DescriptorDesk$Opening", "position", "I", false)
  | 3 => ("DescriptorDesk$Opening", "rights", "I", false)
  | _ => ("DescriptorDesk$Opening", "holders", "I", false)
def cn_3 : String := "DescriptorDesk$Pipe"
def ft_3 : u_T := fun k => match k with
  | 0 => ("DescriptorDesk$Pipe", "bytes", "LDescriptorDesk$ByteRow;", true)
  | 1 => ("DescriptorDesk$Pipe", "readers", "I", false)
  | _ => ("DescriptorDesk$Pipe", "writers", "I", false)
def cn_4 : String := "DescriptorDesk$StoredFile"
def ft_4 : u_T := fun k => match k with
  | 0 => ("DescriptorDesk$StoredFile", "bytes", "[I", true)
  | 1 => ("DescriptorDesk$StoredFile", "length", "I", false)
  | 2 => ("DescriptorDesk$StoredFile", "name", "I", false)
  | _ => ("DescriptorDesk$StoredFile", "users", "I", false)
def cn_5 : String := "DescriptorDesk$ByteRow"
def ft_5 : u_T := fun k => match k with
  | 0 => ("DescriptorDesk$ByteRow", "places", "[I", true)
  | 1 => ("DescriptorDesk$ByteRow", "first", "I", false)
  | _ => ("DescriptorDesk$ByteRow", "size", "I", false)
def cn_6 : String := "DescriptorDeskModel"
def ft_6 : u_T := fun k => match k with
  | 0 => ("DescriptorDeskModel", "code", "I", false)
  | 1 => ("DescriptorDeskModel", "life", "[I", true)
  | 2 => ("DescriptorDeskModel", "through", "[I", true)
  | 3 => ("DescriptorDeskModel", "wanted", "[I", true)
  | 4 => ("DescriptorDeskModel", "descriptor", "[I", true)
  | 5 => ("DescriptorDeskModel", "given", "[J", true)
  | 6 => ("DescriptorDeskModel", "kind", "[I", true)
  | 7 => ("DescriptorDeskModel", "thing", "[I", true)
  | 8 => ("DescriptorDeskModel", "position", "[I", true)
  | 9 => ("DescriptorDeskModel", "right", "[I", true)
  | 10 => ("DescriptorDeskModel", "piped", "[I", true)
  | 11 => ("DescriptorDeskModel", "pipeBytes", "[I", true)
  | 12 => ("DescriptorDeskModel", "isPipe", "[Z", true)
  | 13 => ("DescriptorDeskModel", "isFile", "[Z", true)
  | 14 => ("DescriptorDeskModel", "name", "[I", true)
  | 15 => ("DescriptorDeskModel", "length", "[I", true)
  | 16 => ("DescriptorDeskModel", "fileBytes", "[I", true)
  | 17 => ("DescriptorDeskModel", "typed", "I", false)
  | 18 => ("DescriptorDeskModel", "typedBytes", "[I", true)
  | 19 => ("DescriptorDeskModel", "shown", "J", false)
  | _ => ("DescriptorDeskModel", "shownBytes", "[I", true)
abbrev xk_cl : List vw_C := [(cn_0, ft_0, 7), (cn_1, ft_1, 5), (cn_2, ft_2, 5), (cn_3, ft_3, 3), (cn_4, ft_4, 4), (cn_5, ft_5, 3), (cn_6, ft_6, 21)]
/-- the type of a field: by the class's number and the field's -/
def xk_ty : Nat → Nat → FieldType := fun c k => match c, k with
  | 0, 0 => .array (.object "DescriptorDesk$Proc")
  | 0, 1 => .array (.object "DescriptorDesk$Opening")
  | 0, 2 => .array (.object "DescriptorDesk$Pipe")
  | 0, 3 => .array (.object "DescriptorDesk$StoredFile")
  | 0, 4 => .object "DescriptorDesk$ByteRow"
  | 0, 5 => .object "DescriptorDesk$ByteRow"
  | 0, 6 => .int
  | 1, 0 => .array (.object "DescriptorDesk$Opening")
  | 1, 1 => .int
  | 1, 2 => .int
  | 1, 3 => .int
  | 1, 4 => .long
  | 2, 0 => .object "DescriptorDesk$Pipe"
  | 2, 1 => .object "DescriptorDesk$StoredFile"
  | 2, 2 => .int
  | 2, 3 => .int
  | 2, 4 => .int
  | 3, 0 => .object "DescriptorDesk$ByteRow"
  | 3, 1 => .int
  | 3, 2 => .int
  | 4, 0 => .array .int
  | 4, 1 => .int
  | 4, 2 => .int
  | 4, 3 => .int
  | 5, 0 => .array .int
  | 5, 1 => .int
  | 5, 2 => .int
  | 6, 0 => .int
  | 6, 1 => .array .int
  | 6, 2 => .array .int
  | 6, 3 => .array .int
  | 6, 4 => .array .int
  | 6, 5 => .array .long
  | 6, 6 => .array .int
  | 6, 7 => .array .int
  | 6, 8 => .array .int
  | 6, 9 => .array .int
  | 6, 10 => .array .int
  | 6, 11 => .array .int
  | 6, 12 => .array .boolean
  | 6, 13 => .array .boolean
  | 6, 14 => .array .int
  | 6, 15 => .array .int
  | 6, 16 => .array .int
  | 6, 17 => .int
  | 6, 18 => .array .int
  | 6, 19 => .long
  | 6, 20 => .array .int
  | _, _ => .int
/-- a pool's class by number; none: a pool of arrays -/
def xk_c : Nat → Option Nat := fun q => match q with
  | 0 => some 0
  | 1 => some 1
  | 2 => some 2
  | 3 => some 3
  | 4 => some 4
  | 5 => some 5
  | 32 => some 6
  | _ => none
/-- how many slots an object of the pool has -/
def xk_n : Nat → Nat := fun q => match q with
  | 0 => 7
  | 1 => 5
  | 2 => 5
  | 3 => 3
  | 4 => 4
  | 5 => 3
  | 32 => 21
  | 6 => 8
  | 7 => 20
  | 8 => 6
  | 9 => 6
  | 10 => 8
  | 11 => 64
  | 12 => 64
  | 33 => 8
  | 34 => 8
  | 35 => 8
  | 36 => 64
  | 37 => 8
  | 38 => 20
  | 39 => 20
  | 40 => 20
  | 41 => 20
  | 42 => 6
  | 43 => 192
  | 44 => 6
  | 45 => 6
  | 46 => 6
  | 47 => 6
  | 48 => 384
  | 49 => 40
  | 50 => 60
  | 64 => 1
  | _ => 0
/-- a slot's sort: 0 an int, 1 a long, 2 a reference -/
def xk_s : Nat → Nat → Nat := fun q => match q with
  | 0 => fun k => match k with
    | 0 => 2
    | 1 => 2
    | 2 => 2
    | 3 => 2
    | 4 => 2
    | 5 => 2
    | 6 => 0
    | _ => 0
  | 1 => fun k => match k with
    | 0 => 2
    | 1 => 0
    | 2 => 0
    | 3 => 0
    | 4 => 1
    | _ => 0
  | 2 => fun k => match k with
    | 0 => 2
    | 1 => 2
    | 2 => 0
    | 3 => 0
    | 4 => 0
    | _ => 0
  | 3 => fun k => match k with
    | 0 => 2
    | 1 => 0
    | 2 => 0
    | _ => 0
  | 4 => fun k => match k with
    | 0 => 2
    | 1 => 0
    | 2 => 0
    | 3 => 0
    | _ => 0
  | 5 => fun k => match k with
    | 0 => 2
    | 1 => 0
    | 2 => 0
    | _ => 0
  | 32 => fun k => match k with
    | 0 => 0
    | 1 => 2
    | 2 => 2
    | 3 => 2
    | 4 => 2
    | 5 => 2
    | 6 => 2
    | 7 => 2
    | 8 => 2
    | 9 => 2
    | 10 => 2
    | 11 => 2
    | 12 => 2
    | 13 => 2
    | 14 => 2
    | 15 => 2
    | 16 => 2
    | 17 => 0
    | 18 => 2
    | 19 => 1
    | 20 => 2
    | _ => 0
  | 6 => fun _ => 2
  | 7 => fun _ => 2
  | 8 => fun _ => 2
  | 9 => fun _ => 2
  | 10 => fun _ => 2
  | 11 => fun _ => 0
  | 12 => fun _ => 0
  | 33 => fun _ => 0
  | 34 => fun _ => 0
  | 35 => fun _ => 0
  | 36 => fun _ => 0
  | 37 => fun _ => 1
  | 38 => fun _ => 0
  | 39 => fun _ => 0
  | 40 => fun _ => 0
  | 41 => fun _ => 0
  | 42 => fun _ => 0
  | 43 => fun _ => 0
  | 44 => fun _ => 0
  | 45 => fun _ => 0
  | 46 => fun _ => 0
  | 47 => fun _ => 0
  | 48 => fun _ => 0
  | 49 => fun _ => 0
  | 50 => fun _ => 0
  | 64 => fun _ => 1
  | _ => fun _ => 0
/-- the pool to which a slot's reference leads -/
def xk_t : Nat → Nat → Nat := fun q => match q with
  | 0 => fun k => match k with
    | 0 => 6
    | 1 => 7
    | 2 => 8
    | 3 => 9
    | 4 => 5
    | 5 => 5
    | _ => 0
  | 1 => fun k => match k with
    | 0 => 10
    | _ => 0
  | 2 => fun k => match k with
    | 0 => 3
    | 1 => 4
    | _ => 0
  | 3 => fun k => match k with
    | 0 => 5
    | _ => 0
  | 4 => fun k => match k with
    | 0 => 11
    | _ => 0
  | 5 => fun k => match k with
    | 0 => 12
    | _ => 0
  | 32 => fun k => match k with
    | 1 => 33
    | 2 => 34
    | 3 => 35
    | 4 => 36
    | 5 => 37
    | 6 => 38
    | 7 => 39
    | 8 => 40
    | 9 => 41
    | 10 => 42
    | 11 => 43
    | 12 => 44
    | 13 => 45
    | 14 => 46
    | 15 => 47
    | 16 => 48
    | 18 => 49
    | 20 => 50
    | _ => 0
  | 6 => fun _ => 1
  | 7 => fun _ => 2
  | 8 => fun _ => 3
  | 9 => fun _ => 4
  | 10 => fun _ => 2
  | _ => fun _ => 0
/-- an array pool's component type -/
def xk_a : Nat → Option FieldType := fun q => match q with
  | 6 => some (.object "DescriptorDesk$Proc")
  | 7 => some (.object "DescriptorDesk$Opening")
  | 8 => some (.object "DescriptorDesk$Pipe")
  | 9 => some (.object "DescriptorDesk$StoredFile")
  | 10 => some (.object "DescriptorDesk$Opening")
  | 11 => some (.int)
  | 12 => some (.int)
  | 33 => some (.int)
  | 34 => some (.int)
  | 35 => some (.int)
  | 36 => some (.int)
  | 37 => some (.long)
  | 38 => some (.int)
  | 39 => some (.int)
  | 40 => some (.int)
  | 41 => some (.int)
  | 42 => some (.int)
  | 43 => some (.int)
  | 44 => some (.boolean)
  | 45 => some (.boolean)
  | 46 => some (.int)
  | 47 => some (.int)
  | 48 => some (.int)
  | 49 => some (.int)
  | 50 => some (.int)
  | 64 => some (.long)
  | _ => none
/-- the words on nest mates -/
def xk_nest : List Cond := [(Jvm.Cond.methodLinkNest "DescriptorDesk" (35 : Nat) ({ cls := "DescriptorDesk$ByteRow", name := "<init>", desc := "()V" } : Jvm.MethodName) "DescriptorDesk"), (Jvm.Cond.fieldLinkNest "DescriptorDesk" (169 : Nat) "DescriptorDesk$ByteRow" "size" "I" "DescriptorDesk"), (Jvm.Cond.methodLinkNest "DescriptorDesk" (47 : Nat) ({ cls := "DescriptorDesk$Proc", name := "<init>", desc := "()V" } : Jvm.MethodName) "DescriptorDesk"), (Jvm.Cond.fieldLinkNest "DescriptorDesk" (178 : Nat) "DescriptorDesk$Proc" "condition" "I" "DescriptorDesk"), (Jvm.Cond.fieldLinkNest "DescriptorDesk" (181 : Nat) "DescriptorDesk$Proc" "waitsThrough" "I" "DescriptorDesk"), (Jvm.Cond.fieldLinkNest "DescriptorDesk" (184 : Nat) "DescriptorDesk$Proc" "wants" "I" "DescriptorDesk"), (Jvm.Cond.fieldLinkNest "DescriptorDesk" (133 : Nat) "DescriptorDesk$Proc" "latest" "J" "DescriptorDesk"), (Jvm.Cond.methodLinkNest "DescriptorDesk" (48 : Nat) ({ cls := "DescriptorDesk$Opening", name := "<init>", desc := "()V" } : Jvm.MethodName) "DescriptorDesk"), (Jvm.Cond.fieldLinkNest "DescriptorDesk" (246 : Nat) "DescriptorDesk$Opening" "pipe" "LDescriptorDesk$Pipe;" "DescriptorDesk"), (Jvm.Cond.fieldLinkNest "DescriptorDesk" (158 : Nat) "DescriptorDesk$Opening" "file" "LDescriptorDesk$StoredFile;" "DescriptorDesk"), (Jvm.Cond.fieldLinkNest "DescriptorDesk" (162 : Nat) "DescriptorDesk$Opening" "position" "I" "DescriptorDesk"), (Jvm.Cond.fieldLinkNest "DescriptorDesk" (197 : Nat) "DescriptorDesk$Opening" "rights" "I" "DescriptorDesk"), (Jvm.Cond.fieldLinkNest "DescriptorDesk$Proc" (44 : Nat) "DescriptorDesk$Opening" "holders" "I" "DescriptorDesk"), (Jvm.Cond.fieldLinkNest "DescriptorDesk" (191 : Nat) "DescriptorDesk$Opening" "holders" "I" "DescriptorDesk"), (Jvm.Cond.methodLinkNest "DescriptorDesk" (49 : Nat) ({ cls := "DescriptorDesk$Pipe", name := "<init>", desc := "()V" } : Jvm.MethodName) "DescriptorDesk"), (Jvm.Cond.methodLinkNest "DescriptorDesk$Pipe" (11 : Nat) ({ cls := "DescriptorDesk$ByteRow", name := "<init>", desc := "()V" } : Jvm.MethodName) "DescriptorDesk"), (Jvm.Cond.fieldLinkNest "DescriptorDesk" (250 : Nat) "DescriptorDesk$Pipe" "bytes" "LDescriptorDesk$ByteRow;" "DescriptorDesk"), (Jvm.Cond.fieldLinkNest "DescriptorDesk" (256 : Nat) "DescriptorDesk$Pipe" "readers" "I" "DescriptorDesk"), (Jvm.Cond.fieldLinkNest "DescriptorDesk" (253 : Nat) "DescriptorDesk$Pipe" "writers" "I" "DescriptorDesk"), (Jvm.Cond.methodLinkNest "DescriptorDesk" (50 : Nat) ({ cls := "DescriptorDesk$StoredFile", name := "<init>", desc := "()V" } : Jvm.MethodName) "DescriptorDesk"), (Jvm.Cond.fieldLinkNest "DescriptorDesk" (115 : Nat) "DescriptorDesk$StoredFile" "length" "I" "DescriptorDesk"), (Jvm.Cond.fieldLinkNest "DescriptorDesk" (112 : Nat) "DescriptorDesk$StoredFile" "name" "I" "DescriptorDesk"), (Jvm.Cond.fieldLinkNest "DescriptorDesk$Opening" (33 : Nat) "DescriptorDesk$StoredFile" "users" "I" "DescriptorDesk")]
theorem xk_in : ∀ c, c < 7 → ∀ w ∈ u_ws (xk_cl.getD c ("", ft_0, 0)).1 (xk_cl.getD c ("", ft_0, 0)).2.1 (xk_cl.getD c ("", ft_0, 0)).2.2, w ∈ x_tb := by decide +kernel
theorem xk_tyok : ∀ c, c < 7 → ∀ k, k < (xk_cl.getD c ("", ft_0, 0)).2.2 → parseFieldDescriptor ((xk_cl.getD c ("", ft_0, 0)).2.1 k).2.2.1 = some (xk_ty c k) := by decide +kernel
theorem xk_nm : ∀ c, c < 7 → ∀ a, a < (xk_cl.getD c ("", ft_0, 0)).2.2 → ∀ b, b < (xk_cl.getD c ("", ft_0, 0)).2.2 → a ≠ b → ((xk_cl.getD c ("", ft_0, 0)).2.1 a).2.1 ≠ ((xk_cl.getD c ("", ft_0, 0)).2.1 b).2.1 := by decide +kernel
theorem xk_nestok : ∀ w ∈ xk_nest, w ∈ lw_tbl := by decide +kernel
theorem xk_un : ∀ q, xk_c q = none → ∀ k, xk_s q k = xk_s q 0 ∧ xk_t q k = xk_t q 0 := by
  intro q h k
  unfold xk_c at h
  constructor
  · unfold xk_s; split <;> first | rfl | cases h
  · unfold xk_t; split <;> first | rfl | cases h
theorem xk_s_le : ∀ q k, xk_s q k ≤ 2 := by
  intro q k
  unfold xk_s; split <;> first | (show _ ≤ 2; dsimp only; split <;> decide) | (dsimp only; decide)
/-- the texts of the exceptions -/
def xk_str : List (String × Nat × String) := [("DescriptorDesk", 229, "the process is absent or waits"), ("DescriptorDesk", 82, "no such process"), ("DescriptorDesk", 231, "a name is 1 .. 9"), ("DescriptorDesk", 235, "there is no such way to open"), ("DescriptorDesk", 233, "n is not 0 .. 8"), ("DescriptorDesk", 153, "no such descriptor to copy to"), ("DescriptorDesk", 156, "from is not 0 .. 2"), ("DescriptorDesk", 167, "not a byte")]
def xk_over : List String := ["DescriptorDesk$Proc", "DescriptorDesk$Opening", "DescriptorDesk$Pipe", "DescriptorDesk$StoredFile"]
def xk_unc : List (String × String) := [("java/lang/IllegalStateException", "java/lang/IllegalArgumentException"), ("java/lang/IllegalArgumentException", "java/lang/IllegalStateException")]
theorem xk_nestform : ∀ w ∈ xk_nest, (∃ a i b n d ho, w = .fieldLinkNest a i b n d ho) ∨ (∃ a i x ho, w = .methodLinkNest a i x ho) := by
  intro w hw
  simp only [xk_nest, List.mem_cons, List.not_mem_nil, or_false] at hw
  rcases hw with rfl | rfl | rfl | rfl | rfl | rfl | rfl | rfl | rfl | rfl | rfl | rfl | rfl | rfl | rfl | rfl | rfl | rfl | rfl | rfl | rfl | rfl | rfl <;> first | exact Or.inl ⟨_, _, _, _, _, _, rfl⟩ | exact Or.inr ⟨_, _, _, _, rfl⟩
end
section
/-! THE OBJECTS BY POOL AND NUMBER: every object of class, reference and law lies in a pool (one for each class, one for each array field) and bears a number there; g gives its address. -/
/-- a value: an int, a long, a reference by pool and number (none: null), a bare address -/
abbrev XV : Type := Int32 ⊕ (Int64 ⊕ ((Nat × Option Nat) ⊕ Nat))
abbrev xI (x : Int32) : XV := .inl x
abbrev xL (x : Int64) : XV := .inr (.inl x)
abbrev xR (q : Nat) (o : Option Nat) : XV := .inr (.inr (.inl (q, o)))
abbrev xA (a : Nat) : XV := .inr (.inr (.inr a))
/-- what all objects hold: ints, longs, references, by pool, number and slot; and how many of each pool there are -/
abbrev XS : Type := (Nat → Nat → Nat → Int32) × (Nat → Nat → Nat → Int64) × (Nat → Nat → Nat → Option Nat) × (Nat → Nat)
abbrev XS.I (st : XS) : Nat → Nat → Nat → Int32 := st.1
abbrev XS.J (st : XS) : Nat → Nat → Nat → Int64 := st.2.1
abbrev XS.R (st : XS) : Nat → Nat → Nat → Option Nat := st.2.2.1
abbrev XS.N (st : XS) : Nat → Nat := st.2.2.2
def x_up {α : Type} (f : Nat → Nat → Nat → α) (q i k : Nat) (v : α) : Nat → Nat → Nat → α := fun a b c => if a = q ∧ b = i ∧ c = k then v else f a b c
def xsI (st : XS) (q i k : Nat) (v : Int32) : XS := (x_up st.1 q i k v, st.2)
def xsJ (st : XS) (q i k : Nat) (v : Int64) : XS := (st.1, x_up st.2.1 q i k v, st.2.2)
def xsR (st : XS) (q i k : Nat) (v : Option Nat) : XS := (st.1, st.2.1, x_up st.2.2.1 q i k v, st.2.2.2)
/-- a new object of the pool q: all its slots 0 or null -/
def xsN (st : XS) (q : Nat) : XS := (fun a b c => if a = q ∧ b = st.2.2.2 q then 0 else st.1 a b c, fun a b c => if a = q ∧ b = st.2.2.2 q then 0 else st.2.1 a b c, fun a b c => if a = q ∧ b = st.2.2.2 q then none else st.2.2.1 a b c, fun a => if a = q then st.2.2.2 q + 1 else st.2.2.2 a)
def xrf (g : Nat → Nat → Nat) (q : Nat) (o : Option Nat) : Value := match o with
  | none => .null
  | some i => .ref (g q i)
def xv (g : Nat → Nat → Nat) : XV → Value
  | .inl x => .int x
  | .inr (.inl y) => .long y
  | .inr (.inr (.inl (q, o))) => xrf g q o
  | .inr (.inr (.inr a)) => .ref a
def xok (cnt : Nat → Nat) : XV → Prop
  | .inr (.inr (.inl (q, some i))) => i < cnt q
  | _ => True
/-- which pool is what: its class's number (none: an array), how many slots, each slot's sort (0 int, 1 long, else a reference) and the pool that a reference leads to, an array's type -/
def xval (g : Nat → Nat → Nat) (st : XS) (q i k : Nat) : Value := match xk_s q k with
  | 0 => .int (st.1 q i k)
  | 1 => .long (st.2.1 q i k)
  | _ => xrf g (xk_t q k) (st.2.2.1 q i k)
def xarr (g : Nat → Nat → Nat) (st : XS) (q i : Nat) : vp_A := (xk_n q, match xk_s q 0 with
  | 0 => .inl (fun k => st.1 q i k)
  | 1 => .inr (.inl (fun k => st.2.1 q i k))
  | _ => .inr (.inr (.inr (.inr (fun k => (st.2.2.1 q i k).map (g (xk_t q 0)))))))
def xent (cA : Nat → ClassId) (g : Nat → Nat → Nat) (st : XS) (q i : Nat) : va_E := match xk_c q with
  | some ci => .inr (ci, (List.range (xk_n q)).map (xval g st q i))
  | none => .inl (cA q, xarr g st q i)
/-- the world: each object as st says, at its address; the addresses apart; every reference leads to an object that is there -/
def x_W (D : va_G) (cA : Nat → ClassId) (A : Nat → Prop) (g : Nat → Nat → Nat) (st : XS) (H : Heap) : Prop :=
  (∀ q i, i < st.2.2.2 q → va_at D xk_cl (g q i, xent cA g st q i) H ∧ A (g q i)) ∧
  (∀ q i r j, i < st.2.2.2 q → j < st.2.2.2 r → g q i = g r j → q = r ∧ i = j) ∧
  (∀ q i k j, i < st.2.2.2 q → xk_s q k = 2 → st.2.2.1 q i k = some j → j < st.2.2.2 (xk_t q k))
/-- what the tables say of the classes and the array classes -/
def x_K (D : va_G) (cA : Nat → ClassId) (U : State) : Prop :=
  (∀ (c : Nat) (q : vw_C), xk_cl[c]? = some q → u_Kn U q.1 q.2.1 q.2.2 (D.1 c) (D.2 c)) ∧
  (∀ (q : Nat) (ty : FieldType), xk_a q = some ty → ArrOfT U (cA q) ty ∧ va_RA U (cA q) ty) ∧
  (∀ w ∈ xk_nest, va_Nw w U)
def xcat : XV → Nat
  | .inr (.inl _) => 2
  | _ => 1
theorem xcat_v (g : Nat → Nat → Nat) (v : XV) : (xv g v).category = xcat v := by
  rcases v with x | y | ⟨q, _ | i⟩ | a <;> rfl
theorem xok_cs {cnt : Nat → Nat} {a : XV} {K : List XV} (h : xok cnt a) (hK : ∀ v ∈ K, xok cnt v) : ∀ v ∈ a :: K, xok cnt v := fun v hv => (List.mem_cons.mp hv).elim (fun e => e ▸ h) (hK v)
theorem xok_tl {cnt : Nat → Nat} {a : XV} {K : List XV} (hK : ∀ v ∈ a :: K, xok cnt v) : ∀ v ∈ K, xok cnt v := fun v hv => hK v (List.mem_cons_of_mem _ hv)
theorem xok_hd {cnt : Nat → Nat} {a : XV} {K : List XV} (hK : ∀ v ∈ a :: K, xok cnt v) : xok cnt a := hK a List.mem_cons_self
theorem x_lat {g : Nat → Nat → Nat} {L : List (Nat × XV)} {w i : Nat} {v : XV} (h : L[w]? = some (i, v)) : (L.map fun z => (z.1, xv g z.2))[w]? = some (i, xv g v) := by
  rw [List.getElem?_map, h]; rfl
def x_f1 (i : Nat) : Nat × XV → Bool := fun z => !(z.1 == i) && !(z.1 + 1 == i && xcat z.2 == 2)
def x_f2 (i : Nat) : Nat × XV → Bool := fun z => !(z.1 == i) && (!(z.1 == i + 1) && !(z.1 + 1 == i && xcat z.2 == 2))
theorem x_m1 (g : Nat → Nat → Nat) (i : Nat) (v : XV) (L : List (Nat × XV)) : (i, xv g v) :: (L.map fun z => (z.1, xv g z.2)).filter (fun q => !(q.1 == i) && !(q.1 + 1 == i && q.2.category == 2)) = ((i, v) :: L.filter (x_f1 i)).map fun z => (z.1, xv g z.2) := by
  rw [List.map_cons, List.filter_map]
  congr 2
  refine congrArg (fun f => List.filter f L) (funext fun z => ?_)
  simp [x_f1, xcat_v, Function.comp]
theorem x_m2 (g : Nat → Nat → Nat) (i : Nat) (v : XV) (L : List (Nat × XV)) : (i, xv g v) :: (L.map fun z => (z.1, xv g z.2)).filter (fun q => !(q.1 == i) && (!(q.1 == i + 1) && !(q.1 + 1 == i && q.2.category == 2))) = ((i, v) :: L.filter (x_f2 i)).map fun z => (z.1, xv g z.2) := by
  rw [List.map_cons, List.filter_map]
  congr 2
  refine congrArg (fun f => List.filter f L) (funext fun z => ?_)
  simp [x_f2, xcat_v, Function.comp]
theorem xokL_cs {cnt : Nat → Nat} {i : Nat} {v : XV} {L : List (Nat × XV)} (h : xok cnt v) (hL : ∀ z ∈ L, xok cnt z.2) : ∀ z ∈ (i, v) :: L, xok cnt z.2 := fun z hz => (List.mem_cons.mp hz).elim (fun e => by rw [e]; exact h) (hL z)
theorem xokL_f {cnt : Nat → Nat} {L : List (Nat × XV)} {f : Nat × XV → Bool} (hL : ∀ z ∈ L, xok cnt z.2) : ∀ z ∈ L.filter f, xok cnt z.2 := fun z hz => hL z (List.mem_filter.mp hz).1
/-- which cells a method may change: those of its world, and those that it makes -/
def x_A (g : Nat → Nat → Nat) (n : Nat → Nat) (sz : Nat) : Nat → Prop := fun a => (∃ q i, i < n q ∧ a = g q i) ∨ sz ≤ a
/-- a static of Throwable that holds a reference or null, at a cell that is not in A -/
def x_St (n d : String) (A : Nat → Prop) (U : State) (H : Heap) : Prop := ∃ (c : ClassId) (k : Class) (i : Nat) (f : Field) (a : Nat) (cell : Cell) (v : Value), U.vm.findClass Bundle.tN = some c ∧ U.fieldFound? Bundle.tN n d = some (c, k, i, f) ∧ f.isStatic = true ∧ k.statics = some a ∧ H[a]? = some cell ∧ cell.vm.isStatics = true ∧ cell.cls = c ∧ f.slot < cell.slots.size ∧ k.staticTypes[f.slot]? = some f.type ∧ cell.slots[f.slot]? = some v ∧ (v = .null ∨ ∃ b, v = .ref b) ∧ ¬ A a
theorem x_St.moved {n d : String} {A : Nat → Prop} {u U : State} {H : Heap} (hvm : u.vm.Alike U.vm) (h : x_St n d A u H) : x_St n d A U H := by
  obtain ⟨c, k, i, f, a, cell, v, h0, h1, h2, h3, h4, h5, h6, h7, h8, h9⟩ := h
  obtain ⟨k', hi', he⟩ := State.fieldFound?_setVm hvm h1
  exact ⟨c, k', i, f, a, cell, v, by rw [hvm.findClass]; exact h0, hi', h2, by rw [he]; exact h3, h4, h5, h6, h7, by rw [he]; exact h8, h9⟩
theorem x_St.kept {n d : String} {A : Nat → Prop} {U : State} {H H1 : Heap} (h : x_St n d A U H) (hq : ∀ a : Nat, a < H.size → ¬ A a → H1[a]? = H[a]?) : x_St n d A U H1 := by
  obtain ⟨c, k, i, f, a, cell, v, h0, h1, h2, h3, h4, h5, h6, h7, h8, h9, h10, h11⟩ := h
  exact ⟨c, k, i, f, a, cell, v, h0, h1, h2, h3, by rw [hq a (Array.getElem?_eq_some_iff.mp h4).1 h11]; exact h4, h5, h6, h7, h8, h9, h10, h11⟩
theorem x_St.narrow {n d : String} {A B : Nat → Prop} {U : State} {H : Heap} (h : x_St n d A U H) (hAB : ∀ q, q < H.size → B q → A q) : x_St n d B U H := by
  obtain ⟨c, k, i, f, a, cell, v, h0, h1, h2, h3, h4, h5, h6, h7, h8, h9, h10, h11⟩ := h
  exact ⟨c, k, i, f, a, cell, v, h0, h1, h2, h3, h4, h5, h6, h7, h8, h9, h10, fun z => h11 (hAB a (Array.getElem?_eq_some_iff.mp h4).1 z)⟩
/-- what a throw needs beside the words that keep -/
def x_Th (A : Nat → Prop) (U : State) (H : Heap) : Prop := (va_Nw (.castable "java/lang/IllegalStateException" "java/lang/IllegalStateException") U ∧ va_Nw (.castable "java/lang/IllegalArgumentException" "java/lang/IllegalArgumentException") U) ∧ x_St "UNASSIGNED_STACK" Bundle.steD A U H ∧ x_St "SUPPRESSED_SENTINEL" Bundle.listD A U H ∧ (∀ z ∈ xk_str, ∃ a, vk_R z.1 z.2.1 z.2.2 a U) ∧ (∀ nm ∈ xk_over, va_AO nm U) ∧ (∀ z ∈ xk_unc, va_Nc z.1 z.2 U)
theorem x_Th.moved {A : Nat → Prop} {u U : State} {H : Heap} (hW : u.WarmedH U.vm) (h : x_Th A u H) : x_Th A U H :=
  ⟨⟨va_Nw.warmC hW h.1.1, va_Nw.warmC hW h.1.2⟩, h.2.1.moved hW.alike, h.2.2.1.moved hW.alike, fun z hz => (h.2.2.2.1 z hz).imp fun _ q => q.warm hW, fun nm hn => (h.2.2.2.2.1 nm hn).moved hW.alike, fun z hz => (h.2.2.2.2.2 z hz).moved hW.alike⟩
theorem x_Th.kept {A : Nat → Prop} {U : State} {H H1 : Heap} (h : x_Th A U H) (hq : ∀ a : Nat, a < H.size → ¬ A a → H1[a]? = H[a]?) : x_Th A U H1 := ⟨h.1, h.2.1.kept hq, h.2.2.1.kept hq, h.2.2.2⟩
theorem x_Th.narrow {A B : Nat → Prop} {U : State} {H : Heap} (h : x_Th A U H) (hAB : ∀ q, q < H.size → B q → A q) : x_Th B U H := ⟨h.1, h.2.1.narrow hAB, h.2.2.1.narrow hAB, h.2.2.2⟩
/-- the fixed facts of an invocation -/
def x_C (p : Program) (e : Env) (R : Room) (s : State) (m : MethodId) (args : Array Value) (meth : Method) (c : Code) (D : va_G) (cA : Nat → ClassId) (A : Nat → Prop) (cc : ByteArray) (own : String) (nL : Nat) : Prop :=
  p.tables.exec = Jvm.exec ∧ c.code = cc ∧ c.maxLocals = nL ∧ s.vm.findClass own = some m.cls ∧ (∀ w ∈ x_tb, w.before args s = true) ∧ x_K D cA s ∧ meth.locks = false ∧ (∀ q, s.heap.size ≤ q → A q) ∧ x_Th A s s.heap
/-- the addresses of the start are kept, and no pool has fewer objects than at the start -/
def x_E (g0 : Nat → Nat → Nat) (n0 : Nat → Nat) (g : Nat → Nat → Nat) (cnt : Nat → Nat) : Prop := (∀ q i, i < n0 q → g q i = g0 q i) ∧ ∀ q, n0 q ≤ cnt q
/-- THE WALK over pools: from every heap that holds st (at addresses g, which keep those of the start), with the locals L and the stack K, the machine comes to Q -/
def x_V (p : Program) (l : Launch) (e : Env) (R : Room) (s : State) (m : MethodId) (args : Array Value) (below : List Frame) (meth : Method) (c : Code) (D : va_G) (cA : Nat → ClassId) (A : Nat → Prop) (nL : Nat) (g0 : Nat → Nat → Nat) (n0 : Nat → Nat) (Q : State → Prop) (pc : Nat) (L : List (Nat × XV)) (K : List XV) (st : XS) (cells slots : Nat) : Prop :=
  ∀ (g : Nat → Nat → Nat) (H : Heap) (locs : List Loc) (ls : Array Slot), x_W D cA A g st H → x_E g0 n0 g st.2.2.2 → va_S A s.heap H locs → lv_has ls nL (L.map fun z => (z.1, xv g z.2)) → (∀ z ∈ L, xok st.2.2.2 z.2) → (∀ v ∈ K, xok st.2.2.2 v) → W p l e R s m args below meth c H locs cells slots Q (F0 m pc ls (K.map (xv g)))
section XF
variable {p : Program} {l : Launch} {e : Env} {R : Room} {s : State} {m : MethodId} {args : Array Value} {below : List Frame} {meth : Method} {c : Code} {D : va_G} {cA : Nat → ClassId} {A : Nat → Prop} {nL : Nat} {g0 : Nat → Nat → Nat} {n0 : Nat → Nat} {Q : State → Prop} {cc : ByteArray} {own : String} {pc : Nat} {L : List (Nat × XV)} {K : List XV} {st : XS} {cells slots : Nat}
theorem x_iconst (C : x_C p e R s m args meth c D cA A cc own nL) {n : Int} {v : Int32} (hv : Int32.ofInt n = v) (hd : decode cc pc = .ok (.iconst n, 1)) (k : x_V p l e R s m args below meth c D cA A nL g0 n0 Q (pc + 1) L (xI v :: K) st cells slots) : x_V p l e R s m args below meth c D cA A nL g0 n0 Q pc L (K) st cells slots := by
  intro g H locs ls hW hg hS hl hL hK
  exact lv_iconst C.1 C.2.1 hd hv (k g H locs ls hW hg hS hl hL (xok_cs trivial hK))
theorem x_bipush (C : x_C p e R s m args meth c D cA A cc own nL) {n : Int} {v : Int32} (hv : (Int8.ofInt n).toInt32 = v) (hd : decode cc pc = .ok (.bipush n, 2)) (k : x_V p l e R s m args below meth c D cA A nL g0 n0 Q (pc + 2) L (xI v :: K) st cells slots) : x_V p l e R s m args below meth c D cA A nL g0 n0 Q pc L (K) st cells slots := by
  intro g H locs ls hW hg hS hl hL hK
  exact lv_bipush C.1 C.2.1 hd hv (k g H locs ls hW hg hS hl hL (xok_cs trivial hK))
theorem x_sipush (C : x_C p e R s m args meth c D cA A cc own nL) {n : Int} {v : Int32} (hv : (Int16.ofInt n).toInt32 = v) (hd : decode cc pc = .ok (.sipush n, 3)) (k : x_V p l e R s m args below meth c D cA A nL g0 n0 Q (pc + 3) L (xI v :: K) st cells slots) : x_V p l e R s m args below meth c D cA A nL g0 n0 Q pc L (K) st cells slots := by
  intro g H locs ls hW hg hS hl hL hK
  exact lv_sipush C.1 C.2.1 hd hv (k g H locs ls hW hg hS hl hL (xok_cs trivial hK))
theorem x_lconst (C : x_C p e R s m args meth c D cA A cc own nL) {n : Fin 2} {v : Int64} (hv : Int64.ofNat (n : Nat) = v) (hd : decode cc pc = .ok (.lconst n, 1)) (k : x_V p l e R s m args below meth c D cA A nL g0 n0 Q (pc + 1) L (xL v :: K) st cells slots) : x_V p l e R s m args below meth c D cA A nL g0 n0 Q pc L (K) st cells slots := by
  intro g H locs ls hW hg hS hl hL hK
  exact lv_lconst C.1 C.2.1 hd hv (k g H locs ls hW hg hS hl hL (xok_cs trivial hK))
theorem x_null (C : x_C p e R s m args meth c D cA A cc own nL)  (hd : decode cc pc = .ok (.aconst_null, 1)) (k : x_V p l e R s m args below meth c D cA A nL g0 n0 Q (pc + 1) L (xR 0 none :: K) st cells slots) : x_V p l e R s m args below meth c D cA A nL g0 n0 Q pc L (K) st cells slots := by
  intro g H locs ls hW hg hS hl hL hK
  exact lv_null C.1 C.2.1 hd (k g H locs ls hW hg hS hl hL (xok_cs trivial hK))
theorem x_iadd (C : x_C p e R s m args meth c D cA A cc own nL) {x y : Int32} (hd : decode cc pc = .ok (.iadd, 1)) (k : x_V p l e R s m args below meth c D cA A nL g0 n0 Q (pc + 1) L (xI (x + y) :: K) st cells slots) : x_V p l e R s m args below meth c D cA A nL g0 n0 Q pc L (xI y :: xI x :: K) st cells slots := by
  intro g H locs ls hW hg hS hl hL hK
  exact lv_iadd C.1 C.2.1 hd (k g H locs ls hW hg hS hl hL (xok_cs trivial (xok_tl (xok_tl hK))))
theorem x_isub (C : x_C p e R s m args meth c D cA A cc own nL) {x y : Int32} (hd : decode cc pc = .ok (.isub, 1)) (k : x_V p l e R s m args below meth c D cA A nL g0 n0 Q (pc + 1) L (xI (x - y) :: K) st cells slots) : x_V p l e R s m args below meth c D cA A nL g0 n0 Q pc L (xI y :: xI x :: K) st cells slots := by
  intro g H locs ls hW hg hS hl hL hK
  exact lv_isub C.1 C.2.1 hd (k g H locs ls hW hg hS hl hL (xok_cs trivial (xok_tl (xok_tl hK))))
theorem x_imul (C : x_C p e R s m args meth c D cA A cc own nL) {x y : Int32} (hd : decode cc pc = .ok (.imul, 1)) (k : x_V p l e R s m args below meth c D cA A nL g0 n0 Q (pc + 1) L (xI (x * y) :: K) st cells slots) : x_V p l e R s m args below meth c D cA A nL g0 n0 Q pc L (xI y :: xI x :: K) st cells slots := by
  intro g H locs ls hW hg hS hl hL hK
  exact lv_imul C.1 C.2.1 hd (k g H locs ls hW hg hS hl hL (xok_cs trivial (xok_tl (xok_tl hK))))
theorem x_iand (C : x_C p e R s m args meth c D cA A cc own nL) {x y : Int32} (hd : decode cc pc = .ok (.iand, 1)) (k : x_V p l e R s m args below meth c D cA A nL g0 n0 Q (pc + 1) L (xI (x &&& y) :: K) st cells slots) : x_V p l e R s m args below meth c D cA A nL g0 n0 Q pc L (xI y :: xI x :: K) st cells slots := by
  intro g H locs ls hW hg hS hl hL hK
  exact lv_iand C.1 C.2.1 hd (k g H locs ls hW hg hS hl hL (xok_cs trivial (xok_tl (xok_tl hK))))
theorem x_ior (C : x_C p e R s m args meth c D cA A cc own nL) {x y : Int32} (hd : decode cc pc = .ok (.ior, 1)) (k : x_V p l e R s m args below meth c D cA A nL g0 n0 Q (pc + 1) L (xI (x ||| y) :: K) st cells slots) : x_V p l e R s m args below meth c D cA A nL g0 n0 Q pc L (xI y :: xI x :: K) st cells slots := by
  intro g H locs ls hW hg hS hl hL hK
  exact lv_ior C.1 C.2.1 hd (k g H locs ls hW hg hS hl hL (xok_cs trivial (xok_tl (xok_tl hK))))
theorem x_ixor (C : x_C p e R s m args meth c D cA A cc own nL) {x y : Int32} (hd : decode cc pc = .ok (.ixor, 1)) (k : x_V p l e R s m args below meth c D cA A nL g0 n0 Q (pc + 1) L (xI (x ^^^ y) :: K) st cells slots) : x_V p l e R s m args below meth c D cA A nL g0 n0 Q pc L (xI y :: xI x :: K) st cells slots := by
  intro g H locs ls hW hg hS hl hL hK
  exact lv_ixor C.1 C.2.1 hd (k g H locs ls hW hg hS hl hL (xok_cs trivial (xok_tl (xok_tl hK))))
theorem x_ishl (C : x_C p e R s m args meth c D cA A cc own nL) {x y : Int32} (hd : decode cc pc = .ok (.ishl, 1)) (k : x_V p l e R s m args below meth c D cA A nL g0 n0 Q (pc + 1) L (xI (x <<< (y &&& 31)) :: K) st cells slots) : x_V p l e R s m args below meth c D cA A nL g0 n0 Q pc L (xI y :: xI x :: K) st cells slots := by
  intro g H locs ls hW hg hS hl hL hK
  exact lv_ishl C.1 C.2.1 hd (k g H locs ls hW hg hS hl hL (xok_cs trivial (xok_tl (xok_tl hK))))
theorem x_ishr (C : x_C p e R s m args meth c D cA A cc own nL) {x y : Int32} (hd : decode cc pc = .ok (.ishr, 1)) (k : x_V p l e R s m args below meth c D cA A nL g0 n0 Q (pc + 1) L (xI (x >>> (y &&& 31)) :: K) st cells slots) : x_V p l e R s m args below meth c D cA A nL g0 n0 Q pc L (xI y :: xI x :: K) st cells slots := by
  intro g H locs ls hW hg hS hl hL hK
  exact lv_ishr C.1 C.2.1 hd (k g H locs ls hW hg hS hl hL (xok_cs trivial (xok_tl (xok_tl hK))))
theorem x_iushr (C : x_C p e R s m args meth c D cA A cc own nL) {x y : Int32} (hd : decode cc pc = .ok (.iushr, 1)) (k : x_V p l e R s m args below meth c D cA A nL g0 n0 Q (pc + 1) L (xI (x.toUInt32 >>> (y.toUInt32 &&& Int32.toUInt32 31)).toInt32 :: K) st cells slots) : x_V p l e R s m args below meth c D cA A nL g0 n0 Q pc L (xI y :: xI x :: K) st cells slots := by
  intro g H locs ls hW hg hS hl hL hK
  exact lv_iushr C.1 C.2.1 hd rfl (k g H locs ls hW hg hS hl hL (xok_cs trivial (xok_tl (xok_tl hK))))
theorem x_idiv (C : x_C p e R s m args meth c D cA A cc own nL) {x y : Int32} (hne : ¬ y = 0) (hd : decode cc pc = .ok (.idiv, 1)) (k : x_V p l e R s m args below meth c D cA A nL g0 n0 Q (pc + 1) L (xI (x / y) :: K) st cells slots) : x_V p l e R s m args below meth c D cA A nL g0 n0 Q pc L (xI y :: xI x :: K) st cells slots := by
  intro g H locs ls hW hg hS hl hL hK
  exact lv_idiv C.1 C.2.1 hd hne (k g H locs ls hW hg hS hl hL (xok_cs trivial (xok_tl (xok_tl hK))))
theorem x_ladd (C : x_C p e R s m args meth c D cA A cc own nL) {x y : Int64} (hd : decode cc pc = .ok (.ladd, 1)) (k : x_V p l e R s m args below meth c D cA A nL g0 n0 Q (pc + 1) L (xL (x + y) :: K) st cells slots) : x_V p l e R s m args below meth c D cA A nL g0 n0 Q pc L (xL y :: xL x :: K) st cells slots := by
  intro g H locs ls hW hg hS hl hL hK
  exact lv_ladd C.1 C.2.1 hd (k g H locs ls hW hg hS hl hL (xok_cs trivial (xok_tl (xok_tl hK))))
theorem x_lsub (C : x_C p e R s m args meth c D cA A cc own nL) {x y : Int64} (hd : decode cc pc = .ok (.lsub, 1)) (k : x_V p l e R s m args below meth c D cA A nL g0 n0 Q (pc + 1) L (xL (x - y) :: K) st cells slots) : x_V p l e R s m args below meth c D cA A nL g0 n0 Q pc L (xL y :: xL x :: K) st cells slots := by
  intro g H locs ls hW hg hS hl hL hK
  exact lv_lsub C.1 C.2.1 hd (k g H locs ls hW hg hS hl hL (xok_cs trivial (xok_tl (xok_tl hK))))
theorem x_land (C : x_C p e R s m args meth c D cA A cc own nL) {x y : Int64} (hd : decode cc pc = .ok (.land, 1)) (k : x_V p l e R s m args below meth c D cA A nL g0 n0 Q (pc + 1) L (xL (x &&& y) :: K) st cells slots) : x_V p l e R s m args below meth c D cA A nL g0 n0 Q pc L (xL y :: xL x :: K) st cells slots := by
  intro g H locs ls hW hg hS hl hL hK
  exact lv_land C.1 C.2.1 hd (k g H locs ls hW hg hS hl hL (xok_cs trivial (xok_tl (xok_tl hK))))
theorem x_lor (C : x_C p e R s m args meth c D cA A cc own nL) {x y : Int64} (hd : decode cc pc = .ok (.lor, 1)) (k : x_V p l e R s m args below meth c D cA A nL g0 n0 Q (pc + 1) L (xL (x ||| y) :: K) st cells slots) : x_V p l e R s m args below meth c D cA A nL g0 n0 Q pc L (xL y :: xL x :: K) st cells slots := by
  intro g H locs ls hW hg hS hl hL hK
  exact lv_lor C.1 C.2.1 hd (k g H locs ls hW hg hS hl hL (xok_cs trivial (xok_tl (xok_tl hK))))
theorem x_lshl (C : x_C p e R s m args meth c D cA A cc own nL) {x : Int64} {y : Int32} (hd : decode cc pc = .ok (.lshl, 1)) (k : x_V p l e R s m args below meth c D cA A nL g0 n0 Q (pc + 1) L (xL (x <<< (y.toInt64 &&& 63)) :: K) st cells slots) : x_V p l e R s m args below meth c D cA A nL g0 n0 Q pc L (xI y :: xL x :: K) st cells slots := by
  intro g H locs ls hW hg hS hl hL hK
  exact lv_lshl C.1 C.2.1 hd rfl (k g H locs ls hW hg hS hl hL (xok_cs trivial (xok_tl (xok_tl hK))))
theorem x_lshr (C : x_C p e R s m args meth c D cA A cc own nL) {x : Int64} {y : Int32} (hd : decode cc pc = .ok (.lshr, 1)) (k : x_V p l e R s m args below meth c D cA A nL g0 n0 Q (pc + 1) L (xL (x >>> (y.toInt64 &&& 63)) :: K) st cells slots) : x_V p l e R s m args below meth c D cA A nL g0 n0 Q pc L (xI y :: xL x :: K) st cells slots := by
  intro g H locs ls hW hg hS hl hL hK
  exact lv_lshr C.1 C.2.1 hd rfl (k g H locs ls hW hg hS hl hL (xok_cs trivial (xok_tl (xok_tl hK))))
theorem x_lushr (C : x_C p e R s m args meth c D cA A cc own nL) {x : Int64} {y : Int32} (hd : decode cc pc = .ok (.lushr, 1)) (k : x_V p l e R s m args below meth c D cA A nL g0 n0 Q (pc + 1) L (xL (x.toUInt64 >>> (y.toInt64.toUInt64 &&& Int64.toUInt64 63)).toInt64 :: K) st cells slots) : x_V p l e R s m args below meth c D cA A nL g0 n0 Q pc L (xI y :: xL x :: K) st cells slots := by
  intro g H locs ls hW hg hS hl hL hK
  exact lv_lushr C.1 C.2.1 hd rfl (k g H locs ls hW hg hS hl hL (xok_cs trivial (xok_tl (xok_tl hK))))
theorem x_i2l (C : x_C p e R s m args meth c D cA A cc own nL) {x : Int32} (hd : decode cc pc = .ok (.i2l, 1)) (k : x_V p l e R s m args below meth c D cA A nL g0 n0 Q (pc + 1) L (xL x.toInt64 :: K) st cells slots) : x_V p l e R s m args below meth c D cA A nL g0 n0 Q pc L (xI x :: K) st cells slots := by
  intro g H locs ls hW hg hS hl hL hK
  exact lv_i2l C.1 C.2.1 hd rfl (k g H locs ls hW hg hS hl hL (xok_cs trivial (xok_tl hK)))
theorem x_l2i (C : x_C p e R s m args meth c D cA A cc own nL) {x : Int64} (hd : decode cc pc = .ok (.l2i, 1)) (k : x_V p l e R s m args below meth c D cA A nL g0 n0 Q (pc + 1) L (xI x.toInt32 :: K) st cells slots) : x_V p l e R s m args below meth c D cA A nL g0 n0 Q pc L (xL x :: K) st cells slots := by
  intro g H locs ls hW hg hS hl hL hK
  exact lv_l2i C.1 C.2.1 hd rfl (k g H locs ls hW hg hS hl hL (xok_cs trivial (xok_tl hK)))
theorem x_lcmp (C : x_C p e R s m args meth c D cA A cc own nL) {x y : Int64} (hd : decode cc pc = .ok (.lcmp, 1)) (k : x_V p l e R s m args below meth c D cA A nL g0 n0 Q (pc + 1) L (xI (lg_cmp x y) :: K) st cells slots) : x_V p l e R s m args below meth c D cA A nL g0 n0 Q pc L (xL y :: xL x :: K) st cells slots := by
  intro g H locs ls hW hg hS hl hL hK
  exact W.lcmp C.1 C.2.1 hd (k g H locs ls hW hg hS hl hL (xok_cs trivial (xok_tl (xok_tl hK))))
theorem x_pop (C : x_C p e R s m args meth c D cA A cc own nL) {x : Int32} (hd : decode cc pc = .ok (.pop, 1)) (k : x_V p l e R s m args below meth c D cA A nL g0 n0 Q (pc + 1) L (K) st cells slots) : x_V p l e R s m args below meth c D cA A nL g0 n0 Q pc L (xI x :: K) st cells slots := by
  intro g H locs ls hW hg hS hl hL hK
  exact lv_pop C.1 C.2.1 hd rfl (k g H locs ls hW hg hS hl hL (xok_tl hK))
theorem x_dup (C : x_C p e R s m args meth c D cA A cc own nL) {v : XV} (hv : xcat v = 1) (hd : decode cc pc = .ok (.dup, 1)) (k : x_V p l e R s m args below meth c D cA A nL g0 n0 Q (pc + 1) L (v :: v :: K) st cells slots) : x_V p l e R s m args below meth c D cA A nL g0 n0 Q pc L (v :: K) st cells slots := by
  intro g H locs ls hW hg hS hl hL hK
  exact lv_dup C.1 C.2.1 hd ((xcat_v g v).trans hv) (k g H locs ls hW hg hS hl hL (xok_cs (xok_hd hK) hK))
theorem x_dup2 (C : x_C p e R s m args meth c D cA A cc own nL) {v w : XV} (hv : xcat v = 1) (hw : xcat w = 1) (hd : decode cc pc = .ok (.dup2, 1)) (k : x_V p l e R s m args below meth c D cA A nL g0 n0 Q (pc + 1) L (v :: w :: v :: w :: K) st cells slots) : x_V p l e R s m args below meth c D cA A nL g0 n0 Q pc L (v :: w :: K) st cells slots := by
  intro g H locs ls hW hg hS hl hL hK
  exact lv_dup2_11 C.1 C.2.1 hd ((xcat_v g v).trans hv) ((xcat_v g w).trans hw) (k g H locs ls hW hg hS hl hL (xok_cs (xok_hd hK) (xok_cs (xok_hd (xok_tl hK)) hK)))
theorem x_iload (C : x_C p e R s m args meth c D cA A cc own nL) {i : Nat} {x : Int32} (hd : decode cc pc = .ok (.iload i, 2)) (w : Nat) (hw : L[w]? = some (i, xI x)) (k : x_V p l e R s m args below meth c D cA A nL g0 n0 Q (pc + 2) L (xI x :: K) st cells slots) : x_V p l e R s m args below meth c D cA A nL g0 n0 Q pc L K st cells slots := by
  intro g H locs ls hW hg hS hl hL hK
  exact lv_iload C.1 C.2.1 hd (lv_at hl w (x_lat hw)) (k g H locs ls hW hg hS hl hL (xok_cs trivial hK))
theorem x_iload_n (C : x_C p e R s m args meth c D cA A cc own nL) {j : Fin 4} {i : Nat} {x : Int32} (hd : decode cc pc = .ok (.iload_n j, 1)) (hi : (j : Nat) = i) (w : Nat) (hw : L[w]? = some (i, xI x)) (k : x_V p l e R s m args below meth c D cA A nL g0 n0 Q (pc + 1) L (xI x :: K) st cells slots) : x_V p l e R s m args below meth c D cA A nL g0 n0 Q pc L K st cells slots := by
  intro g H locs ls hW hg hS hl hL hK
  exact lv_iload_n C.1 C.2.1 hd hi (lv_at hl w (x_lat hw)) (k g H locs ls hW hg hS hl hL (xok_cs trivial hK))
theorem x_lload (C : x_C p e R s m args meth c D cA A cc own nL) {i : Nat} {x : Int64} (hd : decode cc pc = .ok (.lload i, 2)) (w : Nat) (hw : L[w]? = some (i, xL x)) (k : x_V p l e R s m args below meth c D cA A nL g0 n0 Q (pc + 2) L (xL x :: K) st cells slots) : x_V p l e R s m args below meth c D cA A nL g0 n0 Q pc L K st cells slots := by
  intro g H locs ls hW hg hS hl hL hK
  exact lv_lload C.1 C.2.1 hd (lv_at hl w (x_lat hw)) (k g H locs ls hW hg hS hl hL (xok_cs trivial hK))
theorem x_lload_n (C : x_C p e R s m args meth c D cA A cc own nL) {j : Fin 4} {i : Nat} {x : Int64} (hd : decode cc pc = .ok (.lload_n j, 1)) (hi : (j : Nat) = i) (w : Nat) (hw : L[w]? = some (i, xL x)) (k : x_V p l e R s m args below meth c D cA A nL g0 n0 Q (pc + 1) L (xL x :: K) st cells slots) : x_V p l e R s m args below meth c D cA A nL g0 n0 Q pc L K st cells slots := by
  intro g H locs ls hW hg hS hl hL hK
  exact lv_lload_n C.1 C.2.1 hd hi (lv_at hl w (x_lat hw)) (k g H locs ls hW hg hS hl hL (xok_cs trivial hK))
theorem x_aload (C : x_C p e R s m args meth c D cA A cc own nL) {i : Nat} {z : (Nat × Option Nat) ⊕ Nat} (hd : decode cc pc = .ok (.aload i, 2)) (w : Nat) (hw : L[w]? = some (i, .inr (.inr z))) (k : x_V p l e R s m args below meth c D cA A nL g0 n0 Q (pc + 2) L (.inr (.inr z) :: K) st cells slots) : x_V p l e R s m args below meth c D cA A nL g0 n0 Q pc L K st cells slots := by
  intro g H locs ls hW hg hS hl hL hK
  have hz := hL _ (List.mem_of_getElem? hw)
  have ha := lv_at hl w (x_lat (g := g) hw)
  have kk := k g H locs ls hW hg hS hl hL (xok_cs hz hK)
  rcases z with ⟨q, _ | a⟩ | a
  · exact lv_aloadN C.1 C.2.1 hd ha kk
  · exact lv_aload C.1 C.2.1 hd ha kk
  · exact lv_aload C.1 C.2.1 hd ha kk
theorem x_aload_n (C : x_C p e R s m args meth c D cA A cc own nL) {j : Fin 4} {i : Nat} {z : (Nat × Option Nat) ⊕ Nat} (hd : decode cc pc = .ok (.aload_n j, 1)) (hi : (j : Nat) = i) (w : Nat) (hw : L[w]? = some (i, .inr (.inr z))) (k : x_V p l e R s m args below meth c D cA A nL g0 n0 Q (pc + 1) L (.inr (.inr z) :: K) st cells slots) : x_V p l e R s m args below meth c D cA A nL g0 n0 Q pc L K st cells slots := by
  intro g H locs ls hW hg hS hl hL hK
  have hz := hL _ (List.mem_of_getElem? hw)
  have ha := lv_at hl w (x_lat (g := g) hw)
  have kk := k g H locs ls hW hg hS hl hL (xok_cs hz hK)
  rcases z with ⟨q, _ | a⟩ | a
  · exact lv_aload_nN C.1 C.2.1 hd hi ha kk
  · exact lv_aload_n C.1 C.2.1 hd hi ha kk
  · exact lv_aload_n C.1 C.2.1 hd hi ha kk
theorem x_istore (C : x_C p e R s m args meth c D cA A cc own nL) {i : Nat} {x : Int32} {L2 : List (Nat × XV)} (hd : decode cc pc = .ok (.istore i, 2)) (hn : i < nL) (h2 : (i, xI x) :: L.filter (x_f1 i) = L2) (k : x_V p l e R s m args below meth c D cA A nL g0 n0 Q (pc + 2) L2 K st cells slots) : x_V p l e R s m args below meth c D cA A nL g0 n0 Q pc L (xI x :: K) st cells slots := by
  intro g H locs ls hW hg hS hl hL hK
  subst h2
  exact lv_istore C.1 C.2.1 hd hl hn (x_m1 g i (xI x) L) (fun ls2 hl2 => k g H locs ls2 hW hg hS hl2 (xokL_cs trivial (xokL_f hL)) (xok_tl hK))
theorem x_istore_n (C : x_C p e R s m args meth c D cA A cc own nL) {j : Fin 4} {i : Nat} {x : Int32} {L2 : List (Nat × XV)} (hd : decode cc pc = .ok (.istore_n j, 1)) (hi : (j : Nat) = i) (hn : i < nL) (h2 : (i, xI x) :: L.filter (x_f1 i) = L2) (k : x_V p l e R s m args below meth c D cA A nL g0 n0 Q (pc + 1) L2 K st cells slots) : x_V p l e R s m args below meth c D cA A nL g0 n0 Q pc L (xI x :: K) st cells slots := by
  intro g H locs ls hW hg hS hl hL hK
  subst h2
  exact lv_istore_n C.1 C.2.1 hd hi hl hn (x_m1 g i (xI x) L) (fun ls2 hl2 => k g H locs ls2 hW hg hS hl2 (xokL_cs trivial (xokL_f hL)) (xok_tl hK))
theorem x_lstore (C : x_C p e R s m args meth c D cA A cc own nL) {i : Nat} {x : Int64} {L2 : List (Nat × XV)} (hd : decode cc pc = .ok (.lstore i, 2)) (hn : i + 1 < nL) (h2 : (i, xL x) :: L.filter (x_f2 i) = L2) (k : x_V p l e R s m args below meth c D cA A nL g0 n0 Q (pc + 2) L2 K st cells slots) : x_V p l e R s m args below meth c D cA A nL g0 n0 Q pc L (xL x :: K) st cells slots := by
  intro g H locs ls hW hg hS hl hL hK
  subst h2
  exact lv_lstore C.1 C.2.1 hd hl hn (x_m2 g i (xL x) L) (fun ls2 hl2 => k g H locs ls2 hW hg hS hl2 (xokL_cs trivial (xokL_f hL)) (xok_tl hK))
theorem x_lstore_n (C : x_C p e R s m args meth c D cA A cc own nL) {j : Fin 4} {i : Nat} {x : Int64} {L2 : List (Nat × XV)} (hd : decode cc pc = .ok (.lstore_n j, 1)) (hi : (j : Nat) = i) (hn : i + 1 < nL) (h2 : (i, xL x) :: L.filter (x_f2 i) = L2) (k : x_V p l e R s m args below meth c D cA A nL g0 n0 Q (pc + 1) L2 K st cells slots) : x_V p l e R s m args below meth c D cA A nL g0 n0 Q pc L (xL x :: K) st cells slots := by
  intro g H locs ls hW hg hS hl hL hK
  subst h2
  exact lv_lstore_n C.1 C.2.1 hd hi hl hn (x_m2 g i (xL x) L) (fun ls2 hl2 => k g H locs ls2 hW hg hS hl2 (xokL_cs trivial (xokL_f hL)) (xok_tl hK))
theorem x_astore (C : x_C p e R s m args meth c D cA A cc own nL) {i : Nat} {z : (Nat × Option Nat) ⊕ Nat} {L2 : List (Nat × XV)} (hd : decode cc pc = .ok (.astore i, 2)) (hn : i < nL) (h2 : (i, .inr (.inr z)) :: L.filter (x_f1 i) = L2) (k : x_V p l e R s m args below meth c D cA A nL g0 n0 Q (pc + 2) L2 K st cells slots) : x_V p l e R s m args below meth c D cA A nL g0 n0 Q pc L (.inr (.inr z) :: K) st cells slots := by
  intro g H locs ls hW hg hS hl hL hK
  subst h2
  have kk := fun ls2 hl2 => k g H locs ls2 hW hg hS hl2 (xokL_cs (xok_hd hK) (xokL_f hL)) (xok_tl hK)
  rcases z with ⟨q, _ | a⟩ | a
  · exact lv_astoreN C.1 C.2.1 hd hl hn (x_m1 g i (xR q none) L) kk
  · exact lv_astore C.1 C.2.1 hd hl hn (x_m1 g i (xR q (some a)) L) kk
  · exact lv_astore C.1 C.2.1 hd hl hn (x_m1 g i (xA a) L) kk
theorem x_astore_n (C : x_C p e R s m args meth c D cA A cc own nL) {j : Fin 4} {i : Nat} {z : (Nat × Option Nat) ⊕ Nat} {L2 : List (Nat × XV)} (hd : decode cc pc = .ok (.astore_n j, 1)) (hi : (j : Nat) = i) (hn : i < nL) (h2 : (i, .inr (.inr z)) :: L.filter (x_f1 i) = L2) (k : x_V p l e R s m args below meth c D cA A nL g0 n0 Q (pc + 1) L2 K st cells slots) : x_V p l e R s m args below meth c D cA A nL g0 n0 Q pc L (.inr (.inr z) :: K) st cells slots := by
  intro g H locs ls hW hg hS hl hL hK
  subst h2
  have kk := fun ls2 hl2 => k g H locs ls2 hW hg hS hl2 (xokL_cs (xok_hd hK) (xokL_f hL)) (xok_tl hK)
  rcases z with ⟨q, _ | a⟩ | a
  · exact lv_astore_nN C.1 C.2.1 hd hi hl hn (x_m1 g i (xR q none) L) kk
  · exact lv_astore_n C.1 C.2.1 hd hi hl hn (x_m1 g i (xR q (some a)) L) kk
  · exact lv_astore_n C.1 C.2.1 hd hi hl hn (x_m1 g i (xA a) L) kk
theorem x_iinc (C : x_C p e R s m args meth c D cA A cc own nL) {i : Nat} {n : Int} {x v : Int32} {L2 : List (Nat × XV)} (hd : decode cc pc = .ok (.iinc i n, 3)) (w : Nat) (hw : L[w]? = some (i, xI x)) (hv : x + Int32.ofInt n = v) (hn : i < nL) (h2 : (i, xI v) :: L.filter (x_f1 i) = L2) (k : x_V p l e R s m args below meth c D cA A nL g0 n0 Q (pc + 3) L2 K st cells slots) : x_V p l e R s m args below meth c D cA A nL g0 n0 Q pc L K st cells slots := by
  intro g H locs ls hW hg hS hl hL hK
  subst h2
  exact lv_iinc C.1 C.2.1 hd hl (k := w) (x_lat hw) hv hn (x_m1 g i (xI v) L) (fun ls2 hl2 => k g H locs ls2 hW hg hS hl2 (xokL_cs trivial (xokL_f hL)) hK)
theorem x_goto (C : x_C p e R s m args meth c D cA A cc own nL) {off : Int} {tgt : Nat} (hd : decode cc pc = .ok (.goto off, 3)) (ht : (pc : Int) + off = (tgt : Int)) (k : x_V p l e R s m args below meth c D cA A nL g0 n0 Q tgt L K st cells slots) : x_V p l e R s m args below meth c D cA A nL g0 n0 Q pc L K st cells slots := by
  intro g H locs ls hW hg hS hl hL hK
  exact lv_goto C.1 C.2.1 hd ht (k g H locs ls hW hg hS hl hL hK)
theorem x_icmp_eq (C : x_C p e R s m args meth c D cA A cc own nL) {x y : Int32} {off : Int} {tgt : Nat} (hd : decode cc pc = .ok (.if_icmp .eq off, 3)) (ht : (pc : Int) + off = (tgt : Int)) (kt : x = y → x_V p l e R s m args below meth c D cA A nL g0 n0 Q tgt L K st cells slots) (kf : ¬ x = y → x_V p l e R s m args below meth c D cA A nL g0 n0 Q (pc + 3) L K st cells slots) : x_V p l e R s m args below meth c D cA A nL g0 n0 Q pc L (xI y :: xI x :: K) st cells slots := by
  intro g H locs ls hW hg hS hl hL hK
  exact lv_icmp_eq C.1 C.2.1 hd ht (fun q => kt q g H locs ls hW hg hS hl hL (xok_tl (xok_tl hK))) (fun q => kf q g H locs ls hW hg hS hl hL (xok_tl (xok_tl hK)))
theorem x_if_eq (C : x_C p e R s m args meth c D cA A cc own nL) {x : Int32} {off : Int} {tgt : Nat} (hd : decode cc pc = .ok (.ifCond .eq off, 3)) (ht : (pc : Int) + off = (tgt : Int)) (kt : x = 0 → x_V p l e R s m args below meth c D cA A nL g0 n0 Q tgt L K st cells slots) (kf : ¬ x = 0 → x_V p l e R s m args below meth c D cA A nL g0 n0 Q (pc + 3) L K st cells slots) : x_V p l e R s m args below meth c D cA A nL g0 n0 Q pc L (xI x :: K) st cells slots := by
  intro g H locs ls hW hg hS hl hL hK
  exact lv_if_eq C.1 C.2.1 hd ht (fun q => kt q g H locs ls hW hg hS hl hL (xok_tl hK)) (fun q => kf q g H locs ls hW hg hS hl hL (xok_tl hK))
theorem x_icmp_ne (C : x_C p e R s m args meth c D cA A cc own nL) {x y : Int32} {off : Int} {tgt : Nat} (hd : decode cc pc = .ok (.if_icmp .ne off, 3)) (ht : (pc : Int) + off = (tgt : Int)) (kt : ¬ x = y → x_V p l e R s m args below meth c D cA A nL g0 n0 Q tgt L K st cells slots) (kf : x = y → x_V p l e R s m args below meth c D cA A nL g0 n0 Q (pc + 3) L K st cells slots) : x_V p l e R s m args below meth c D cA A nL g0 n0 Q pc L (xI y :: xI x :: K) st cells slots := by
  intro g H locs ls hW hg hS hl hL hK
  exact lv_icmp_ne C.1 C.2.1 hd ht (fun q => kt q g H locs ls hW hg hS hl hL (xok_tl (xok_tl hK))) (fun q => kf q g H locs ls hW hg hS hl hL (xok_tl (xok_tl hK)))
theorem x_if_ne (C : x_C p e R s m args meth c D cA A cc own nL) {x : Int32} {off : Int} {tgt : Nat} (hd : decode cc pc = .ok (.ifCond .ne off, 3)) (ht : (pc : Int) + off = (tgt : Int)) (kt : ¬ x = 0 → x_V p l e R s m args below meth c D cA A nL g0 n0 Q tgt L K st cells slots) (kf : x = 0 → x_V p l e R s m args below meth c D cA A nL g0 n0 Q (pc + 3) L K st cells slots) : x_V p l e R s m args below meth c D cA A nL g0 n0 Q pc L (xI x :: K) st cells slots := by
  intro g H locs ls hW hg hS hl hL hK
  exact lv_if_ne C.1 C.2.1 hd ht (fun q => kt q g H locs ls hW hg hS hl hL (xok_tl hK)) (fun q => kf q g H locs ls hW hg hS hl hL (xok_tl hK))
theorem x_icmp_lt (C : x_C p e R s m args meth c D cA A cc own nL) {x y : Int32} {off : Int} {tgt : Nat} (hd : decode cc pc = .ok (.if_icmp .lt off, 3)) (ht : (pc : Int) + off = (tgt : Int)) (kt : x < y → x_V p l e R s m args below meth c D cA A nL g0 n0 Q tgt L K st cells slots) (kf : ¬ x < y → x_V p l e R s m args below meth c D cA A nL g0 n0 Q (pc + 3) L K st cells slots) : x_V p l e R s m args below meth c D cA A nL g0 n0 Q pc L (xI y :: xI x :: K) st cells slots := by
  intro g H locs ls hW hg hS hl hL hK
  exact lv_icmp_lt C.1 C.2.1 hd ht (fun q => kt q g H locs ls hW hg hS hl hL (xok_tl (xok_tl hK))) (fun q => kf q g H locs ls hW hg hS hl hL (xok_tl (xok_tl hK)))
theorem x_if_lt (C : x_C p e R s m args meth c D cA A cc own nL) {x : Int32} {off : Int} {tgt : Nat} (hd : decode cc pc = .ok (.ifCond .lt off, 3)) (ht : (pc : Int) + off = (tgt : Int)) (kt : x < 0 → x_V p l e R s m args below meth c D cA A nL g0 n0 Q tgt L K st cells slots) (kf : ¬ x < 0 → x_V p l e R s m args below meth c D cA A nL g0 n0 Q (pc + 3) L K st cells slots) : x_V p l e R s m args below meth c D cA A nL g0 n0 Q pc L (xI x :: K) st cells slots := by
  intro g H locs ls hW hg hS hl hL hK
  exact lv_if_lt C.1 C.2.1 hd ht (fun q => kt q g H locs ls hW hg hS hl hL (xok_tl hK)) (fun q => kf q g H locs ls hW hg hS hl hL (xok_tl hK))
theorem x_icmp_ge (C : x_C p e R s m args meth c D cA A cc own nL) {x y : Int32} {off : Int} {tgt : Nat} (hd : decode cc pc = .ok (.if_icmp .ge off, 3)) (ht : (pc : Int) + off = (tgt : Int)) (kt : y ≤ x → x_V p l e R s m args below meth c D cA A nL g0 n0 Q tgt L K st cells slots) (kf : ¬ y ≤ x → x_V p l e R s m args below meth c D cA A nL g0 n0 Q (pc + 3) L K st cells slots) : x_V p l e R s m args below meth c D cA A nL g0 n0 Q pc L (xI y :: xI x :: K) st cells slots := by
  intro g H locs ls hW hg hS hl hL hK
  exact lv_icmp_ge C.1 C.2.1 hd ht (fun q => kt q g H locs ls hW hg hS hl hL (xok_tl (xok_tl hK))) (fun q => kf q g H locs ls hW hg hS hl hL (xok_tl (xok_tl hK)))
theorem x_if_ge (C : x_C p e R s m args meth c D cA A cc own nL) {x : Int32} {off : Int} {tgt : Nat} (hd : decode cc pc = .ok (.ifCond .ge off, 3)) (ht : (pc : Int) + off = (tgt : Int)) (kt : 0 ≤ x → x_V p l e R s m args below meth c D cA A nL g0 n0 Q tgt L K st cells slots) (kf : ¬ 0 ≤ x → x_V p l e R s m args below meth c D cA A nL g0 n0 Q (pc + 3) L K st cells slots) : x_V p l e R s m args below meth c D cA A nL g0 n0 Q pc L (xI x :: K) st cells slots := by
  intro g H locs ls hW hg hS hl hL hK
  exact lv_if_ge C.1 C.2.1 hd ht (fun q => kt q g H locs ls hW hg hS hl hL (xok_tl hK)) (fun q => kf q g H locs ls hW hg hS hl hL (xok_tl hK))
theorem x_icmp_gt (C : x_C p e R s m args meth c D cA A cc own nL) {x y : Int32} {off : Int} {tgt : Nat} (hd : decode cc pc = .ok (.if_icmp .gt off, 3)) (ht : (pc : Int) + off = (tgt : Int)) (kt : y < x → x_V p l e R s m args below meth c D cA A nL g0 n0 Q tgt L K st cells slots) (kf : ¬ y < x → x_V p l e R s m args below meth c D cA A nL g0 n0 Q (pc + 3) L K st cells slots) : x_V p l e R s m args below meth c D cA A nL g0 n0 Q pc L (xI y :: xI x :: K) st cells slots := by
  intro g H locs ls hW hg hS hl hL hK
  exact lv_icmp_gt C.1 C.2.1 hd ht (fun q => kt q g H locs ls hW hg hS hl hL (xok_tl (xok_tl hK))) (fun q => kf q g H locs ls hW hg hS hl hL (xok_tl (xok_tl hK)))
theorem x_if_gt (C : x_C p e R s m args meth c D cA A cc own nL) {x : Int32} {off : Int} {tgt : Nat} (hd : decode cc pc = .ok (.ifCond .gt off, 3)) (ht : (pc : Int) + off = (tgt : Int)) (kt : 0 < x → x_V p l e R s m args below meth c D cA A nL g0 n0 Q tgt L K st cells slots) (kf : ¬ 0 < x → x_V p l e R s m args below meth c D cA A nL g0 n0 Q (pc + 3) L K st cells slots) : x_V p l e R s m args below meth c D cA A nL g0 n0 Q pc L (xI x :: K) st cells slots := by
  intro g H locs ls hW hg hS hl hL hK
  exact lv_if_gt C.1 C.2.1 hd ht (fun q => kt q g H locs ls hW hg hS hl hL (xok_tl hK)) (fun q => kf q g H locs ls hW hg hS hl hL (xok_tl hK))
theorem x_icmp_le (C : x_C p e R s m args meth c D cA A cc own nL) {x y : Int32} {off : Int} {tgt : Nat} (hd : decode cc pc = .ok (.if_icmp .le off, 3)) (ht : (pc : Int) + off = (tgt : Int)) (kt : x ≤ y → x_V p l e R s m args below meth c D cA A nL g0 n0 Q tgt L K st cells slots) (kf : ¬ x ≤ y → x_V p l e R s m args below meth c D cA A nL g0 n0 Q (pc + 3) L K st cells slots) : x_V p l e R s m args below meth c D cA A nL g0 n0 Q pc L (xI y :: xI x :: K) st cells slots := by
  intro g H locs ls hW hg hS hl hL hK
  exact lv_icmp_le C.1 C.2.1 hd ht (fun q => kt q g H locs ls hW hg hS hl hL (xok_tl (xok_tl hK))) (fun q => kf q g H locs ls hW hg hS hl hL (xok_tl (xok_tl hK)))
theorem x_if_le (C : x_C p e R s m args meth c D cA A cc own nL) {x : Int32} {off : Int} {tgt : Nat} (hd : decode cc pc = .ok (.ifCond .le off, 3)) (ht : (pc : Int) + off = (tgt : Int)) (kt : x ≤ 0 → x_V p l e R s m args below meth c D cA A nL g0 n0 Q tgt L K st cells slots) (kf : ¬ x ≤ 0 → x_V p l e R s m args below meth c D cA A nL g0 n0 Q (pc + 3) L K st cells slots) : x_V p l e R s m args below meth c D cA A nL g0 n0 Q pc L (xI x :: K) st cells slots := by
  intro g H locs ls hW hg hS hl hL hK
  exact lv_if_le C.1 C.2.1 hd ht (fun q => kt q g H locs ls hW hg hS hl hL (xok_tl hK)) (fun q => kf q g H locs ls hW hg hS hl hL (xok_tl hK))
theorem x_ifnull (C : x_C p e R s m args meth c D cA A cc own nL) {q : Nat} {o : Option Nat} {off : Int} {tgt : Nat} (hd : decode cc pc = .ok (.ifnull off, 3)) (ht : (pc : Int) + off = (tgt : Int)) (kt : o = none → x_V p l e R s m args below meth c D cA A nL g0 n0 Q tgt L K st cells slots) (kf : ∀ i, o = some i → x_V p l e R s m args below meth c D cA A nL g0 n0 Q (pc + 3) L K st cells slots) : x_V p l e R s m args below meth c D cA A nL g0 n0 Q pc L (xR q o :: K) st cells slots := by
  intro g H locs ls hW hg hS hl hL hK
  cases o with
  | none => exact lv_ifnullN C.1 C.2.1 hd ht (kt rfl g H locs ls hW hg hS hl hL (xok_tl hK))
  | some i => exact lv_ifnull C.1 C.2.1 hd (kf i rfl g H locs ls hW hg hS hl hL (xok_tl hK))
theorem x_ifnonnull (C : x_C p e R s m args meth c D cA A cc own nL) {q : Nat} {o : Option Nat} {off : Int} {tgt : Nat} (hd : decode cc pc = .ok (.ifnonnull off, 3)) (ht : (pc : Int) + off = (tgt : Int)) (kt : ∀ i, o = some i → x_V p l e R s m args below meth c D cA A nL g0 n0 Q tgt L K st cells slots) (kf : o = none → x_V p l e R s m args below meth c D cA A nL g0 n0 Q (pc + 3) L K st cells slots) : x_V p l e R s m args below meth c D cA A nL g0 n0 Q pc L (xR q o :: K) st cells slots := by
  intro g H locs ls hW hg hS hl hL hK
  cases o with
  | none => exact lv_ifnonnullN C.1 C.2.1 hd (kf rfl g H locs ls hW hg hS hl hL (xok_tl hK))
  | some i => exact lv_ifnonnull C.1 C.2.1 hd ht (kt i rfl g H locs ls hW hg hS hl hL (xok_tl hK))
theorem xrf_eq {g : Nat → Nat → Nat} {q : Nat} {o : Option Nat} : xrf g q o = va_rf (o.map (g q)) := by cases o <;> rfl
theorem x_inj {H : Heap} {g : Nat → Nat → Nat} (hW : x_W D cA A g st H) {q : Nat} {a b : Option Nat} (ha : xok st.2.2.2 (xR q a)) (hb : xok st.2.2.2 (xR q b)) (h : a.map (g q) = b.map (g q)) : a = b := by
  cases a with
  | none => cases b with
    | none => rfl
    | some j => cases h
  | some i => cases b with
    | none => cases h
    | some j => rw [(hW.2.1 q i q j ha hb (Option.some.inj h)).2]
theorem x_acmp_eq (C : x_C p e R s m args meth c D cA A cc own nL) {q : Nat} {a b : Option Nat} {off : Int} {tgt : Nat} (hd : decode cc pc = .ok (.if_acmp .eq off, 3)) (ht : (pc : Int) + off = (tgt : Int)) (kt : a = b → x_V p l e R s m args below meth c D cA A nL g0 n0 Q tgt L K st cells slots) (kf : ¬ a = b → x_V p l e R s m args below meth c D cA A nL g0 n0 Q (pc + 3) L K st cells slots) : x_V p l e R s m args below meth c D cA A nL g0 n0 Q pc L (xR q b :: xR q a :: K) st cells slots := by
  intro g H locs ls hW hg hS hl hL hK
  refine W.eq (g2 := F0 m pc ls (va_rf (b.map (g q)) :: va_rf (a.map (g q)) :: K.map (xv g))) (by show F0 m pc ls (xrf g q b :: xrf g q a :: _) = _; rw [xrf_eq, xrf_eq]) ?_
  exact lv_acmp_eq C.1 C.2.1 hd ht (fun z => kt (x_inj hW (xok_hd (xok_tl hK)) (xok_hd hK) z) g H locs ls hW hg hS hl hL (xok_tl (xok_tl hK))) (fun z => kf (fun w => z (by rw [w])) g H locs ls hW hg hS hl hL (xok_tl (xok_tl hK)))
theorem x_acmp_ne (C : x_C p e R s m args meth c D cA A cc own nL) {q : Nat} {a b : Option Nat} {off : Int} {tgt : Nat} (hd : decode cc pc = .ok (.if_acmp .ne off, 3)) (ht : (pc : Int) + off = (tgt : Int)) (kt : ¬ a = b → x_V p l e R s m args below meth c D cA A nL g0 n0 Q tgt L K st cells slots) (kf : a = b → x_V p l e R s m args below meth c D cA A nL g0 n0 Q (pc + 3) L K st cells slots) : x_V p l e R s m args below meth c D cA A nL g0 n0 Q pc L (xR q b :: xR q a :: K) st cells slots := by
  intro g H locs ls hW hg hS hl hL hK
  refine W.eq (g2 := F0 m pc ls (va_rf (b.map (g q)) :: va_rf (a.map (g q)) :: K.map (xv g))) (by show F0 m pc ls (xrf g q b :: xrf g q a :: _) = _; rw [xrf_eq, xrf_eq]) ?_
  exact lv_acmp_ne C.1 C.2.1 hd ht (fun z => kt (fun w => z (by rw [w])) g H locs ls hW hg hS hl hL (xok_tl (xok_tl hK))) (fun z => kf (x_inj hW (xok_hd (xok_tl hK)) (xok_hd hK) z) g H locs ls hW hg hS hl hL (xok_tl (xok_tl hK)))
theorem x_tin (C : x_C p e R s m args meth c D cA A cc own nL) {dflt lo hi : Int} {offs : Array Int} {len : Nat} {x : Int32} {off : Int} {tgt : Nat} (hd : decode cc pc = .ok (.tableswitch dflt lo hi offs, len)) (h1 : ¬ x.toInt < lo) (h2 : ¬ hi < x.toInt) (ho : offs[(x.toInt - lo).toNat]? = some off) (ht : (pc : Int) + off = (tgt : Int)) (k : x_V p l e R s m args below meth c D cA A nL g0 n0 Q tgt L K st cells slots) : x_V p l e R s m args below meth c D cA A nL g0 n0 Q pc L (xI x :: K) st cells slots := by
  intro g H locs ls hW hg hS hl hL hK
  exact lv_tableIn C.1 C.2.1 hd h1 h2 ho ht (k g H locs ls hW hg hS hl hL (xok_tl hK))
theorem x_tout (C : x_C p e R s m args meth c D cA A cc own nL) {dflt lo hi : Int} {offs : Array Int} {len : Nat} {x : Int32} {tgt : Nat} (hd : decode cc pc = .ok (.tableswitch dflt lo hi offs, len)) (h : x.toInt < lo ∨ hi < x.toInt) (ht : (pc : Int) + dflt = (tgt : Int)) (k : x_V p l e R s m args below meth c D cA A nL g0 n0 Q tgt L K st cells slots) : x_V p l e R s m args below meth c D cA A nL g0 n0 Q pc L (xI x :: K) st cells slots := by
  intro g H locs ls hW hg hS hl hL hK
  exact lv_tableOut C.1 C.2.1 hd h ht (k g H locs ls hW hg hS hl hL (xok_tl hK))
theorem x_ldcw (C : x_C p e R s m args meth c D cA A cc own nL) {index : Nat} {v : Int32} (hc : Jvm.Cond.constant own index v ∈ x_tb) (hd : decode cc pc = .ok (.ldc_w index, 3)) (k : x_V p l e R s m args below meth c D cA A nL g0 n0 Q (pc + 3) L (xI v :: K) st cells slots) : x_V p l e R s m args below meth c D cA A nL g0 n0 Q pc L K st cells slots := by
  intro g H locs ls hW hg hS hl hL hK
  exact lv_ldcw C.1 C.2.1 C.2.2.2.1 (C.2.2.2.2.1 _ hc) hd (k g H locs ls hW hg hS hl hL (xok_cs trivial hK))
theorem x_ldc2 (C : x_C p e R s m args meth c D cA A cc own nL) {index : Nat} {v : Int64} (hc : Jvm.Cond.constantLong own index v ∈ x_tb) (hd : decode cc pc = .ok (.ldc2_w index, 3)) (k : x_V p l e R s m args below meth c D cA A nL g0 n0 Q (pc + 3) L (xL v :: K) st cells slots) : x_V p l e R s m args below meth c D cA A nL g0 n0 Q pc L K st cells slots := by
  intro g H locs ls hW hg hS hl hL hK
  exact lv_ldc2 C.1 C.2.1 C.2.2.2.1 (C.2.2.2.2.1 _ hc) hd (k g H locs ls hW hg hS hl hL (xok_cs trivial hK))

end XF
end
section
/-! HEAP ROWS over pools: fields, arrays, new objects -/
theorem xk_cok {q ci : Nat} (h : xk_c q = some ci) : ci < 7 ∧ ∃ r, xk_cl[ci]? = some r ∧ r.2.2 = xk_n q := by
  unfold xk_c at h
  split at h <;> first | (cases h; exact ⟨by decide, _, rfl, rfl⟩) | cases h
theorem xk_getD {ci : Nat} {r : vw_C} (h : xk_cl[ci]? = some r) : xk_cl.getD ci ("", ft_0, 0) = r := by
  rw [List.getD_eq_getElem?_getD, h]; rfl
theorem xk_lt {ci : Nat} {r : vw_C} (h : xk_cl[ci]? = some r) : ci < 7 := (List.getElem?_eq_some_iff.mp h).1
theorem xk_inr {ci : Nat} {r : vw_C} (h : xk_cl[ci]? = some r) : ∀ w ∈ u_ws r.1 r.2.1 r.2.2, w ∈ x_tb := by
  have h1 := xk_in ci (xk_lt h); rw [xk_getD h] at h1; exact h1
theorem xk_tyr {ci : Nat} {r : vw_C} (h : xk_cl[ci]? = some r) : ∀ k, k < r.2.2 → parseFieldDescriptor (r.2.1 k).2.2.1 = some (xk_ty ci k) := by
  have h1 := xk_tyok ci (xk_lt h); rw [xk_getD h] at h1; exact h1
theorem xk_nmr {ci : Nat} {r : vw_C} (h : xk_cl[ci]? = some r) : ∀ a, a < r.2.2 → ∀ b, b < r.2.2 → a ≠ b → (r.2.1 a).2.1 ≠ (r.2.1 b).2.1 := by
  have h1 := xk_nm ci (xk_lt h); rw [xk_getD h] at h1; exact h1
theorem xent_obj {cA : Nat → ClassId} {g : Nat → Nat → Nat} {st : XS} {q i ci : Nat} (hc : xk_c q = some ci) : xent cA g st q i = .inr (ci, (List.range (xk_n q)).map (xval g st q i)) := by
  unfold xent; rw [hc]
theorem xent_arr {cA : Nat → ClassId} {g : Nat → Nat → Nat} {st : XS} {q i : Nat} (hc : xk_c q = none) : xent cA g st q i = .inl (cA q, xarr g st q i) := by
  unfold xent; rw [hc]
/-- the entry 'index' of own's pool is the field k of the pool q's class -/
def x_FL (own : String) (index q k : Nat) : Prop := ∃ (ci : Nat) (r : vw_C), xk_c q = some ci ∧ xk_cl[ci]? = some r ∧ k < r.2.2 ∧ (Cond.fieldLink own index (r.2.1 k).1 (r.2.1 k).2.1 (r.2.1 k).2.2.1 ∈ x_tb ∨ ∃ host, Cond.fieldLinkNest own index (r.2.1 k).1 (r.2.1 k).2.1 (r.2.1 k).2.2.1 host ∈ xk_nest)
theorem x_fs {g : Nat → Nat → Nat} {st : XS} {q i k n : Nat} (hk : k < n) : ((List.range n).map (xval g st q i))[k]? = some (xval g st q i k) := by
  rw [List.getElem?_map, List.getElem?_range hk]; rfl
section XG
variable {p : Program} {l : Launch} {e : Env} {R : Room} {s : State} {m : MethodId} {args : Array Value} {below : List Frame} {meth : Method} {c : Code} {D : va_G} {cA : Nat → ClassId} {A : Nat → Prop} {nL : Nat} {g0 : Nat → Nat → Nat} {n0 : Nat → Nat} {Q : State → Prop} {cc : ByteArray} {own : String} {pc : Nat} {L : List (Nat × XV)} {K : List XV} {st : XS} {cells slots : Nat} {H : Heap} {locs : List Loc} {ls : Array Slot} {rest : List Value} {g : Nat → Nat → Nat}
theorem x_get0 (C : x_C p e R s m args meth c D cA A cc own nL) {q i k index : Nat} (hl : x_FL own index q k) (hd : decode cc pc = .ok (.getfield index, 3)) (hW : x_W D cA A g st H) (hi : i < st.2.2.2 q) (kk : W p l e R s m args below meth c H locs cells slots Q (F0 m (pc + 3) ls (xval g st q i k :: rest))) : W p l e R s m args below meth c H locs cells slots Q (F0 m pc ls (.ref (g q i) :: rest)) := by
  obtain ⟨ci, r, hc, hr, hk, hlk⟩ := hl
  obtain ⟨-, r', hr', hn⟩ := xk_cok hc
  cases hr.symm.trans hr'
  obtain ⟨hx, hb, -, hown, hts, hKx, -, -⟩ := C
  have he : va_P D xk_cl [(g q i, .inr (ci, (List.range (xk_n q)).map (xval g st q i)))] H := by
    intro j z hz
    match j, hz with
    | 0, hz => cases hz; have h1 := (hW.1 q i hi).1; rw [xent_obj hc] at h1; exact h1
  have hK : va_K D xk_cl [] s := ⟨hKx.1, fun j z h => by simp at h⟩
  rcases hlk with h | ⟨host, h⟩
  · exact va_get (Ts := x_tb) (tys := []) hx hb hts (xk_inr hr) hown hK he 0 rfl (by rw [hr]) k hk (hts _ h) (fun _ h9 => h9) (x_fs (by rw [← hn]; exact hk)) hd kk
  · exact va_getN (Ts := x_tb) (tys := []) hx hb hts (xk_inr hr) hown hK he 0 rfl (by rw [hr]) k hk (va_Nw.use rfl (hKx.2.2 _ h)) (fun _ h9 => h9) (x_fs (by rw [← hn]; exact hk)) hd kk
theorem x_getI (C : x_C p e R s m args meth c D cA A cc own nL) {q i k index : Nat} (hl : x_FL own index q k) (hs : xk_s q k = 0) (hd : decode cc pc = .ok (.getfield index, 3)) (kk : x_V p l e R s m args below meth c D cA A nL g0 n0 Q (pc + 3) L (xI (st.1 q i k) :: K) st cells slots) : x_V p l e R s m args below meth c D cA A nL g0 n0 Q pc L (xR q (some i) :: K) st cells slots := by
  intro g H locs ls hW hg hS hl2 hL hK
  refine x_get0 C hl hd hW (xok_hd hK) ?_
  have h1 : xval g st q i k = xv g (xI (st.1 q i k)) := by unfold xval; rw [hs]; rfl
  rw [h1]
  exact kk g H locs ls hW hg hS hl2 hL (xok_cs trivial (xok_tl hK))
theorem x_getJ (C : x_C p e R s m args meth c D cA A cc own nL) {q i k index : Nat} (hl : x_FL own index q k) (hs : xk_s q k = 1) (hd : decode cc pc = .ok (.getfield index, 3)) (kk : x_V p l e R s m args below meth c D cA A nL g0 n0 Q (pc + 3) L (xL (st.2.1 q i k) :: K) st cells slots) : x_V p l e R s m args below meth c D cA A nL g0 n0 Q pc L (xR q (some i) :: K) st cells slots := by
  intro g H locs ls hW hg hS hl2 hL hK
  refine x_get0 C hl hd hW (xok_hd hK) ?_
  have h1 : xval g st q i k = xv g (xL (st.2.1 q i k)) := by unfold xval; rw [hs]; rfl
  rw [h1]
  exact kk g H locs ls hW hg hS hl2 hL (xok_cs trivial (xok_tl hK))
theorem x_okR (hW : x_W D cA A g st H) {q i k t : Nat} (hi : i < st.2.2.2 q) (hs : xk_s q k = 2) (ht : xk_t q k = t) : xok st.2.2.2 (xR t (st.2.2.1 q i k)) := by
  subst ht
  cases h : st.2.2.1 q i k with
  | none => trivial
  | some j => exact hW.2.2 q i k j hi hs h
theorem x_getR (C : x_C p e R s m args meth c D cA A cc own nL) {q i k index t : Nat} (hl : x_FL own index q k) (hs : xk_s q k = 2) (ht : xk_t q k = t) (hd : decode cc pc = .ok (.getfield index, 3)) (kk : x_V p l e R s m args below meth c D cA A nL g0 n0 Q (pc + 3) L (xR t (st.2.2.1 q i k) :: K) st cells slots) : x_V p l e R s m args below meth c D cA A nL g0 n0 Q pc L (xR q (some i) :: K) st cells slots := by
  intro g H locs ls hW hg hS hl2 hL hK
  refine x_get0 C hl hd hW (xok_hd hK) ?_
  have h1 : xval g st q i k = xv g (xR t (st.2.2.1 q i k)) := by unfold xval; rw [hs, ht]; rfl
  rw [h1]
  exact kk g H locs ls hW hg hS hl2 hL (xok_cs (x_okR hW (xok_hd hK) hs ht) (xok_tl hK))
end XG
end
section
/-! PUTS over pools -/
theorem x_up_oth {α : Type} {f : Nat → Nat → Nat → α} {q i k : Nat} {v : α} {r j : Nat} (h : ¬ (r = q ∧ j = i)) : x_up f q i k v r j = f r j := by
  funext z; unfold x_up; rw [if_neg (fun w => h ⟨w.1, w.2.1⟩)]
theorem x_up_self {α : Type} {f : Nat → Nat → Nat → α} {q i k : Nat} {v : α} : x_up f q i k v q i k = v := if_pos ⟨rfl, rfl, rfl⟩
theorem x_up_k {α : Type} {f : Nat → Nat → Nat → α} {q i k : Nat} {v : α} {z : Nat} (h : z ≠ k) : x_up f q i k v q i z = f q i z := if_neg (fun w => h w.2.2)
theorem x_up_ne {α : Type} {f : Nat → Nat → Nat → α} {q i k : Nat} {v : α} {r j z : Nat} (h : ¬ (r = q ∧ j = i ∧ z = k)) : x_up f q i k v r j z = f r j z := if_neg h
theorem xent_oth {cA : Nat → ClassId} {g : Nat → Nat → Nat} {st st' : XS} {r j : Nat} (h1 : st'.1 r j = st.1 r j) (h2 : st'.2.1 r j = st.2.1 r j) (h3 : st'.2.2.1 r j = st.2.2.1 r j) : xent cA g st' r j = xent cA g st r j := by
  have e1 : xval g st' r j = xval g st r j := by funext k; unfold xval; rw [h1, h2, h3]
  have e2 : xarr g st' r j = xarr g st r j := by unfold xarr; rw [h1, h2, h3]
  unfold xent; rw [e1, e2]
/-- one object has changed -/
theorem x_W.upd {D : va_G} {cA : Nat → ClassId} {A : Nat → Prop} {g : Nat → Nat → Nat} {st st' : XS} {H H1 : Heap} {q i : Nat} (hW : x_W D cA A g st H) (hi : i < st.2.2.2 q) (hN : st'.2.2.2 = st.2.2.2) (ho : ∀ r j, ¬ (r = q ∧ j = i) → st'.1 r j = st.1 r j ∧ st'.2.1 r j = st.2.1 r j ∧ st'.2.2.1 r j = st.2.2.1 r j)
    (he : va_at D xk_cl (g q i, xent cA g st' q i) H1) (hq : ∀ a : Nat, a ≠ g q i → H1[a]? = H[a]?) (hr : ∀ k t, xk_s q k = 2 → st'.2.2.1 q i k = some t → t < st.2.2.2 (xk_t q k)) : x_W D cA A g st' H1 := by
  refine ⟨fun r j hj => ?_, fun r j r2 j2 h1 h2 => hW.2.1 r j r2 j2 (by rw [← hN]; exact h1) (by rw [← hN]; exact h2), fun r j k t hj hs ht => ?_⟩
  · rw [hN] at hj
    by_cases h : r = q ∧ j = i
    · obtain ⟨rfl, rfl⟩ := h
      exact ⟨he, (hW.1 r j hj).2⟩
    · obtain ⟨a1, a2, a3⟩ := ho r j h
      rw [xent_oth a1 a2 a3]
      exact ⟨((hW.1 r j hj).1).kept (hq _ (fun z => h (hW.2.1 r j q i hj hi z))), (hW.1 r j hj).2⟩
  · rw [hN] at hj ⊢
    by_cases h : r = q ∧ j = i
    · obtain ⟨rfl, rfl⟩ := h
      exact hr k t hs ht
    · rw [(ho r j h).2.2] at ht
      exact hW.2.2 r j k t hj hs ht
theorem x_setL {α : Type} {n k : Nat} {f f' : Nat → α} {v : α} (hv : f' k = v) (ho : ∀ j, j ≠ k → f' j = f j) : (List.range n).map f' = ((List.range n).map f).set k v := by
  apply List.ext_getElem?
  intro j
  rw [List.getElem?_set, List.getElem?_map, List.getElem?_map]
  by_cases hj : k = j
  · subst hj
    by_cases hl : k < n
    · simp [hl, hv]
    · simp [hl]
  · rw [if_neg hj]
    by_cases hl : j < n
    · rw [List.getElem?_range hl]; simp [ho j (fun z => hj z.symm)]
    · simp [hl]
section XP
variable {p : Program} {l : Launch} {e : Env} {R : Room} {s : State} {m : MethodId} {args : Array Value} {below : List Frame} {meth : Method} {c : Code} {D : va_G} {cA : Nat → ClassId} {A : Nat → Prop} {nL : Nat} {g0 : Nat → Nat → Nat} {n0 : Nat → Nat} {Q : State → Prop} {cc : ByteArray} {own : String} {pc : Nat} {L : List (Nat × XV)} {K : List XV} {st : XS} {cells slots : Nat} {H : Heap} {locs : List Loc} {ls : Array Slot} {rest : List Value} {g : Nat → Nat → Nat}
/-- putfield of a field that isn't final, or of a final one in its class's constructor -/
theorem x_put0 (C : x_C p e R s m args meth c D cA A cc own nL) {q i k index : Nat} {v : Value} (hl : x_FL own index q k) (hfin : ∀ ci r, xk_c q = some ci → xk_cl[ci]? = some r → (r.2.1 k).2.2.2 = false ∨ ((r.2.1 k).2.2.2 = true ∧ meth.name = "<init>" ∧ (r.2.1 k).1 = own ∧ Cond.fieldLink own index (r.2.1 k).1 (r.2.1 k).2.1 (r.2.1 k).2.2.1 ∈ x_tb)) (hty : ∀ ci, xk_c q = some ci → narrow (xk_ty ci k) v = v ∧ fits (xk_ty ci k) v = true) (hd : decode cc pc = .ok (.putfield index, 3)) (hW : x_W D cA A g st H) (hi : i < st.2.2.2 q) (hS0 : va_S A s.heap H locs)
    (kk : ∀ (H1 : Heap) (locs1 : List Loc) (ci : Nat), xk_c q = some ci → va_at D xk_cl (g q i, .inr (ci, ((List.range (xk_n q)).map (xval g st q i)).set k v)) H1 → (∀ a : Nat, a ≠ g q i → H1[a]? = H[a]?) → va_S A s.heap H1 locs1 → W p l e R s m args below meth c H1 locs1 cells slots Q (F0 m (pc + 3) ls rest)) : W p l e R s m args below meth c H locs cells slots Q (F0 m pc ls (v :: .ref (g q i) :: rest)) := by
  obtain ⟨ci, r, hc, hr, hk, hlk⟩ := hl
  obtain ⟨-, r', hr', hn⟩ := xk_cok hc
  cases hr.symm.trans hr'
  obtain ⟨hx, hb, -, hown, hts, hKx, -, -⟩ := C
  have hAq := (hW.1 q i hi).2
  have he := (hW.1 q i hi).1
  rw [xent_obj hc] at he
  have hK : va_K D xk_cl [] s := ⟨hKx.1, fun j z h => by simp at h⟩
  have hap := va_apart (own := own) hts (xk_inr hr) (xk_ty ci) (xk_tyr hr) (xk_nmr hr) hK (by rw [hr])
  obtain ⟨r2, h1, cell, q1, q2, q3, q4⟩ := he
  cases hr.symm.trans h1
  obtain ⟨hS, hfc, kC, hkC, hkind⟩ := hKx.1 ci _ hr
  obtain ⟨cf, kf, fi, f, hfi, hsl⟩ := hS k hk
  have hst := (u_facts hfc hkC (u_lays hts (xk_inr hr) hk) hfi).1
  have hlen : k < ((List.range (xk_n q)).map (xval g st q i)).length := by rw [List.length_map, List.length_range, ← hn]; exact hk
  have fin : ∀ (H1 : Heap), H1[g q i]? = some (cell.setSlot (D.2 ci k) v) → va_at D xk_cl (g q i, .inr (ci, ((List.range (xk_n q)).map (xval g st q i)).set k v)) H1 := fun H1 e1 =>
    ⟨_, hr, t_OB.to (V := updV (vp_V ((List.range (xk_n q)).map (xval g st q i))) k v) ⟨_, e1, q2, q3, t_set q4 hap hk v⟩ (fun j _ => vp_updV_set hlen v j)⟩
  rcases hfin ci r hc hr with hf | ⟨hf, hin, hdecl, hmem⟩
  · have hlay := hts _ (xk_inr hr _ (u_in_lay hk))
    unfold u_lay at hlay
    rw [if_neg (by rw [hf]; decide)] at hlay
    have h6 := u_store hfc hkC hkind hlay hfi (xk_tyr hr k hk) (hty ci hc).1 (hty ci hc).2
    rcases hlk with h | ⟨host, h⟩
    · refine W.putK hx hb (f := f) ⟨hown, hts _ h, ⟨_, _, _, hfi⟩, hst⟩ (by rw [q2]; exact h6) q1 q3 (by rw [hsl]; exact k2_hasslot (q4 k hk)) rfl rfl hd fun H1 e1 e2 e3 => ?_
      rw [hsl] at e1 ⊢
      exact kk H1 _ ci hc (fin H1 e1) e3 (hS0.put e2 e3 hAq)
    · refine va_WputK hx hb (f := f) hown (va_Nw.use rfl (hKx.2.2 _ h)) hfi hst (by rw [q2]; exact h6) q1 q3 (by rw [hsl]; exact k2_hasslot (q4 k hk)) rfl rfl hd fun H1 e1 e2 e3 => ?_
      rw [hsl] at e1 ⊢
      exact kk H1 _ ci hc (fin H1 e1) e3 (hS0.put e2 e3 hAq)
  · have hlay := hts _ (xk_inr hr _ (u_in_lay hk))
    unfold u_lay at hlay
    rw [if_pos hf] at hlay
    have hcf : m.cls = cf := by
      obtain ⟨_, _, c', _, _, _, -, -, hf', -, -, -, hown2, -⟩ := Cond.laysFinal_spec hlay
      have e1 : c' = cf := by have := hfi.symm.trans hf'; simp at this; exact this.1.symm
      rw [hdecl] at hown2
      rw [← e1]; exact Option.some.inj (hown.symm.trans hown2)
    have h6 := u_fits hfc hkC hkind (Or.inr hlay) hfi (xk_tyr hr k hk) (hty ci hc).1 (hty ci hc).2
    refine W.putFinK hx hb hown (hts _ hmem) hfi hst hcf hin (by rw [q2]; exact h6) q1 q3 (by rw [hsl]; exact k2_hasslot (q4 k hk)) rfl rfl hd fun H1 e1 e2 e3 => ?_
    rw [hsl] at e1 ⊢
    exact kk H1 _ ci hc (fin H1 e1) e3 (hS0.put e2 e3 hAq)
/-- what a put asks of its field, by program: it isn't final, or it is and this is its class's constructor -/
def x_PF (own : String) (index q k : Nat) (mn : String) : Prop := ∀ ci r, xk_c q = some ci → xk_cl[ci]? = some r → (r.2.1 k).2.2.2 = false ∨ ((r.2.1 k).2.2.2 = true ∧ mn = "<init>" ∧ (r.2.1 k).1 = own ∧ Cond.fieldLink own index (r.2.1 k).1 (r.2.1 k).2.1 (r.2.1 k).2.2.1 ∈ x_tb)
theorem x_putI (C : x_C p e R s m args meth c D cA A cc own nL) {q i k index : Nat} {v : Int32} (hl : x_FL own index q k) (hf : x_PF own index q k meth.name) (hs : xk_s q k = 0) (hty : ∀ ci, xk_c q = some ci → xk_ty ci k = .int) (hd : decode cc pc = .ok (.putfield index, 3)) (kk : x_V p l e R s m args below meth c D cA A nL g0 n0 Q (pc + 3) L K (xsI st q i k v) cells slots) : x_V p l e R s m args below meth c D cA A nL g0 n0 Q pc L (xI v :: xR q (some i) :: K) st cells slots := by
  intro g H locs ls hW hg hS hl2 hL hK
  have hi : i < st.2.2.2 q := xok_hd (xok_tl hK)
  refine x_put0 C hl hf (fun ci hc => by rw [hty ci hc]; exact ⟨rfl, rfl⟩) hd hW hi hS fun H1 locs1 ci hc hat hoth hS1 => ?_
  refine kk g H1 locs1 ls (hW.upd hi rfl (fun r j h => ⟨x_up_oth h, rfl, rfl⟩) ?_ hoth (fun k t h1 h2 => hW.2.2 q i k t hi h1 h2)) hg hS1 hl2 hL (xok_tl (xok_tl hK))
  rw [xent_obj hc, x_setL (f := xval g st q i) (k := k) (v := .int v)]
  · exact hat
  · unfold xval; rw [hs]; show Value.int (x_up _ _ _ _ _ _ _ _) = _; rw [x_up_self]
  · intro j hj; unfold xval; show (match xk_s q j with | 0 => Value.int (x_up _ _ _ _ _ _ _ _) | 1 => _ | _ => _) = _; rw [x_up_k hj]; rfl
theorem x_putJ (C : x_C p e R s m args meth c D cA A cc own nL) {q i k index : Nat} {v : Int64} (hl : x_FL own index q k) (hf : x_PF own index q k meth.name) (hs : xk_s q k = 1) (hty : ∀ ci, xk_c q = some ci → xk_ty ci k = .long) (hd : decode cc pc = .ok (.putfield index, 3)) (kk : x_V p l e R s m args below meth c D cA A nL g0 n0 Q (pc + 3) L K (xsJ st q i k v) cells slots) : x_V p l e R s m args below meth c D cA A nL g0 n0 Q pc L (xL v :: xR q (some i) :: K) st cells slots := by
  intro g H locs ls hW hg hS hl2 hL hK
  have hi : i < st.2.2.2 q := xok_hd (xok_tl hK)
  refine x_put0 C hl hf (fun ci hc => by rw [hty ci hc]; exact ⟨rfl, rfl⟩) hd hW hi hS fun H1 locs1 ci hc hat hoth hS1 => ?_
  refine kk g H1 locs1 ls (hW.upd hi rfl (fun r j h => ⟨rfl, x_up_oth h, rfl⟩) ?_ hoth (fun k t h1 h2 => hW.2.2 q i k t hi h1 h2)) hg hS1 hl2 hL (xok_tl (xok_tl hK))
  rw [xent_obj hc, x_setL (f := xval g st q i) (k := k) (v := .long v)]
  · exact hat
  · unfold xval; rw [hs]; show Value.long (x_up _ _ _ _ _ _ _ _) = _; rw [x_up_self]
  · intro j hj; unfold xval; show (match xk_s q j with | 0 => _ | 1 => Value.long (x_up _ _ _ _ _ _ _ _) | _ => _) = _; rw [x_up_k hj]; rfl
theorem x_refR {q i k : Nat} {v : Option Nat} {q2 : Nat} (hW : x_W D cA A g st H) (hi : i < st.2.2.2 q) (hv : xok st.2.2.2 (xR q2 v)) (hq : v = none ∨ xk_t q k = q2) : ∀ z t, xk_s q z = 2 → x_up st.2.2.1 q i k v q i z = some t → t < st.2.2.2 (xk_t q z) := by
  intro z t h1 h2
  by_cases hz : z = k
  · subst hz
    rw [x_up_self] at h2
    subst h2
    rcases hq with h | h
    · cases h
    · rw [h]; exact hv
  · rw [x_up_k hz] at h2
    exact hW.2.2 q i z t hi h1 h2
/-- a reference of the pool that the field leads to, or null -/
theorem x_putR (C : x_C p e R s m args meth c D cA A cc own nL) {q i k index q2 : Nat} {v : Option Nat} (hl : x_FL own index q k) (hf : x_PF own index q k meth.name) (hs : xk_s q k = 2) (hq : v = none ∨ xk_t q k = q2) (hty : ∀ ci, xk_c q = some ci → (∃ n, xk_ty ci k = .object n) ∨ ∃ t, xk_ty ci k = .array t) (hd : decode cc pc = .ok (.putfield index, 3)) (kk : x_V p l e R s m args below meth c D cA A nL g0 n0 Q (pc + 3) L K (xsR st q i k v) cells slots) : x_V p l e R s m args below meth c D cA A nL g0 n0 Q pc L (xR q2 v :: xR q (some i) :: K) st cells slots := by
  intro g H locs ls hW hg hS hl2 hL hK
  have hi : i < st.2.2.2 q := xok_hd (xok_tl hK)
  have hval : xrf g q2 v = xrf g (xk_t q k) v := by
    rcases hq with h | h
    · rw [h]; rfl
    · rw [h]
  refine x_put0 C hl hf (fun ci hc => ?_) hd hW hi hS fun H1 locs1 ci hc hat hoth hS1 => ?_
  · rcases hty ci hc with ⟨n, h⟩ | ⟨t, h⟩ <;> rw [h] <;> cases v <;> exact ⟨rfl, rfl⟩
  refine kk g H1 locs1 ls (hW.upd hi rfl (fun r j h => ⟨rfl, rfl, x_up_oth h⟩) ?_ hoth (x_refR hW hi (xok_hd hK) hq)) hg hS1 hl2 hL (xok_tl (xok_tl hK))
  rw [xent_obj hc, x_setL (f := xval g st q i) (k := k) (v := xrf g q2 v)]
  · exact hat
  · unfold xval; rw [hs]; show xrf g _ (x_up _ _ _ _ _ _ _ _) = _; rw [x_up_self, hval]
  · intro j hj; unfold xval; show (match xk_s q j with | 0 => _ | 1 => _ | _ => xrf g _ (x_up _ _ _ _ _ _ _ _)) = _; rw [x_up_k hj]; rfl
end XP
end
section
/-! ARRAYS over pools -/
/-- the index is in the array -/
abbrev x_in (j : Int32) (n : Nat) : Prop := ¬ j < 0 ∧ j.toNatClampNeg < n
theorem x_in_n {j : Int32} {n : Nat} (h : x_in j n) : ¬ (j < 0 ∨ n ≤ j.toNatClampNeg) := fun z => z.elim h.1 (fun w => Nat.not_le.mpr h.2 w)
/-- an array pool: all slots of one sort, leading to one pool -/
def x_ar (q so t : Nat) (ty : FieldType) : Prop := xk_c q = none ∧ (∀ k, xk_s q k = so ∧ xk_t q k = t) ∧ xk_a q = some ty
theorem x_arrAt {D : va_G} {cA : Nat → ClassId} {g : Nat → Nat → Nat} {st : XS} {H : Heap} {q i so t : Nat} {ty : FieldType} (ha : x_ar q so t ty) : va_at D xk_cl (g q i, xent cA g st q i) H ↔ H[g q i]? = some (arrV (cA q) (xk_n q) (xval g st q i)) := by
  rw [xent_arr ha.1]
  show H[g q i]? = some (vp_cell (cA q) (xarr g st q i)) ↔ _
  have e : vp_cell (cA q) (xarr g st q i) = arrV (cA q) (xk_n q) (xval g st q i) := by
    unfold xarr
    rw [(ha.2.1 0).1, (ha.2.1 0).2]
    have hs := fun k => (ha.2.1 k).1
    have ht := fun k => (ha.2.1 k).2
    match so with
    | 0 =>
      show vp_cell (cA q) (xk_n q, .inl (fun k => st.1 q i k)) = _
      rw [vp_cell_i]; congr 1; funext k; unfold xval; rw [hs k]; rfl
    | 1 =>
      show vp_cell (cA q) (xk_n q, .inr (.inl (fun k => st.2.1 q i k))) = _
      rw [vp_cell_l]; congr 1; funext k; unfold xval; rw [hs k]; rfl
    | n + 2 =>
      show vp_cell (cA q) (xk_n q, .inr (.inr (.inr (.inr (fun k => (st.2.2.1 q i k).map (g t)))))) = _
      rw [vp_cell_q]; congr 1; funext k; unfold xval; rw [hs k, ht k, ← xrf_eq]; rfl
  rw [e]
section XQ
variable {p : Program} {l : Launch} {e : Env} {R : Room} {s : State} {m : MethodId} {args : Array Value} {below : List Frame} {meth : Method} {c : Code} {D : va_G} {cA : Nat → ClassId} {A : Nat → Prop} {nL : Nat} {g0 : Nat → Nat → Nat} {n0 : Nat → Nat} {Q : State → Prop} {cc : ByteArray} {own : String} {pc : Nat} {L : List (Nat × XV)} {K : List XV} {st : XS} {cells slots : Nat} {H : Heap} {locs : List Loc} {ls : Array Slot} {rest : List Value} {g : Nat → Nat → Nat}
theorem x_isArr (C : x_C p e R s m args meth c D cA A cc own nL) {q so t : Nat} {ty : FieldType} (ha : x_ar q so t ty) (f : Nat → Value) (n : Nat) : s.isArrayOf (arrV (cA q) n f) ty := (C.2.2.2.2.2.1.2.1 q ty ha.2.2).1 n f
theorem x_iald (C : x_C p e R s m args meth c D cA A cc own nL) {q i t : Nat} {j : Int32} (ha : x_ar q 0 t .int) (hin : x_in j (xk_n q)) (hd : decode cc pc = .ok (.iaload, 1)) (kk : x_V p l e R s m args below meth c D cA A nL g0 n0 Q (pc + 1) L (xI (st.1 q i j.toNatClampNeg) :: K) st cells slots) : x_V p l e R s m args below meth c D cA A nL g0 n0 Q pc L (xI j :: xR q (some i) :: K) st cells slots := by
  intro g H locs ls hW hg hS hl2 hL hK
  have hi : i < st.2.2.2 q := xok_hd (xok_tl hK)
  have he := (x_arrAt ha).mp (hW.1 q i hi).1
  have h1 : xval g st q i j.toNatClampNeg = xv g (xI (st.1 q i j.toNatClampNeg)) := by unfold xval; rw [(ha.2.1 _).1]; rfl
  refine W.iald C.1 C.2.1 he (x_isArr C ha _ _) (fun z => by cases z) (by rw [arrV_size]; exact x_in_n hin) (by rw [arrV_read _ _ hin.2]) rfl rfl hd ?_
  rw [h1]
  exact kk g H locs ls hW hg hS hl2 hL (xok_cs trivial (xok_tl (xok_tl hK)))
theorem x_zald (C : x_C p e R s m args meth c D cA A cc own nL) {q i t : Nat} {j : Int32} (ha : x_ar q 0 t .boolean) (hin : x_in j (xk_n q)) (hd : decode cc pc = .ok (.baload, 1)) (kk : x_V p l e R s m args below meth c D cA A nL g0 n0 Q (pc + 1) L (xI (st.1 q i j.toNatClampNeg) :: K) st cells slots) : x_V p l e R s m args below meth c D cA A nL g0 n0 Q pc L (xI j :: xR q (some i) :: K) st cells slots := by
  intro g H locs ls hW hg hS hl2 hL hK
  have hi : i < st.2.2.2 q := xok_hd (xok_tl hK)
  have he := (x_arrAt ha).mp (hW.1 q i hi).1
  have h1 : xval g st q i j.toNatClampNeg = xv g (xI (st.1 q i j.toNatClampNeg)) := by unfold xval; rw [(ha.2.1 _).1]; rfl
  refine W.zald C.1 C.2.1 he (x_isArr C ha _ _) (fun z => by cases z) (by rw [arrV_size]; exact x_in_n hin) (by rw [arrV_read _ _ hin.2]) rfl rfl hd ?_
  rw [h1]
  exact kk g H locs ls hW hg hS hl2 hL (xok_cs trivial (xok_tl (xok_tl hK)))
theorem x_lald (C : x_C p e R s m args meth c D cA A cc own nL) {q i t : Nat} {j : Int32} (ha : x_ar q 1 t .long) (hin : x_in j (xk_n q)) (hd : decode cc pc = .ok (.laload, 1)) (kk : x_V p l e R s m args below meth c D cA A nL g0 n0 Q (pc + 1) L (xL (st.2.1 q i j.toNatClampNeg) :: K) st cells slots) : x_V p l e R s m args below meth c D cA A nL g0 n0 Q pc L (xI j :: xR q (some i) :: K) st cells slots := by
  intro g H locs ls hW hg hS hl2 hL hK
  have hi : i < st.2.2.2 q := xok_hd (xok_tl hK)
  have he := (x_arrAt ha).mp (hW.1 q i hi).1
  have h1 : xval g st q i j.toNatClampNeg = xv g (xL (st.2.1 q i j.toNatClampNeg)) := by unfold xval; rw [(ha.2.1 _).1]; rfl
  refine W.lald C.1 C.2.1 he (x_isArr C ha _ _) (fun z => by cases z) (by rw [arrV_size]; exact x_in_n hin) (by rw [arrV_read _ _ hin.2]) rfl rfl hd ?_
  rw [h1]
  exact kk g H locs ls hW hg hS hl2 hL (xok_cs trivial (xok_tl (xok_tl hK)))
theorem x_aald (C : x_C p e R s m args meth c D cA A cc own nL) {q i t : Nat} {j : Int32} {nm : String} (ha : x_ar q 2 t (.object nm)) (hin : x_in j (xk_n q)) (hd : decode cc pc = .ok (.aaload, 1)) (kk : x_V p l e R s m args below meth c D cA A nL g0 n0 Q (pc + 1) L (xR t (st.2.2.1 q i j.toNatClampNeg) :: K) st cells slots) : x_V p l e R s m args below meth c D cA A nL g0 n0 Q pc L (xI j :: xR q (some i) :: K) st cells slots := by
  intro g H locs ls hW hg hS hl2 hL hK
  have hi : i < st.2.2.2 q := xok_hd (xok_tl hK)
  have he := (x_arrAt ha).mp (hW.1 q i hi).1
  have h1 : xval g st q i j.toNatClampNeg = xv g (xR t (st.2.2.1 q i j.toNatClampNeg)) := by unfold xval; rw [(ha.2.1 _).1, (ha.2.1 _).2]; rfl
  refine W.aald C.1 C.2.1 he (x_isArr C ha _ _) rfl (fun z => by cases z) (by rw [arrV_size]; exact x_in_n hin) (by rw [arrV_read _ _ hin.2]) rfl rfl hd ?_
  rw [h1]
  exact kk g H locs ls hW hg hS hl2 hL (xok_cs (x_okR hW hi (ha.2.1 _).1 (ha.2.1 _).2) (xok_tl (xok_tl hK)))
theorem x_alen (C : x_C p e R s m args meth c D cA A cc own nL) {q i so t : Nat} {ty : FieldType} {v : Int32} (ha : x_ar q so t ty) (hv : (xk_n q).toInt32 = v) (hd : decode cc pc = .ok (.arraylength, 1)) (kk : x_V p l e R s m args below meth c D cA A nL g0 n0 Q (pc + 1) L (xI v :: K) st cells slots) : x_V p l e R s m args below meth c D cA A nL g0 n0 Q pc L (xR q (some i) :: K) st cells slots := by
  intro g H locs ls hW hg hS hl2 hL hK
  have he := (x_arrAt ha).mp (hW.1 q i (xok_hd hK)).1
  exact W.alen (n := v) C.1 C.2.1 he (x_isArr C ha _ _) (by rw [arrV_size]; exact hv) rfl rfl hd (kk g H locs ls hW hg hS hl2 hL (xok_cs trivial (xok_tl hK)))
theorem x_iast (C : x_C p e R s m args meth c D cA A cc own nL) {q i t : Nat} {j : Int32} {v : Int32} (ha : x_ar q 0 t .int) (hin : x_in j (xk_n q)) (hd : decode cc pc = .ok (.iastore, 1)) (kk : x_V p l e R s m args below meth c D cA A nL g0 n0 Q (pc + 1) L K (xsI st q i j.toNatClampNeg (v)) cells slots) : x_V p l e R s m args below meth c D cA A nL g0 n0 Q pc L (xI v :: xI j :: xR q (some i) :: K) st cells slots := by
  intro g H locs ls hW hg hS hl2 hL hK
  have hi : i < st.2.2.2 q := xok_hd (xok_tl (xok_tl hK))
  have he := (x_arrAt ha).mp (hW.1 q i hi).1
  refine W.iast C.1 C.2.1 he (x_isArr C ha _ _) (fun z => by cases z) (by rw [arrV_size]; exact x_in_n hin) rfl rfl hd fun H1 e1 e2 e3 => ?_
  refine kk g H1 _ ls (hW.upd hi rfl (fun r j h => ⟨x_up_oth h, rfl, rfl⟩) ((x_arrAt ha).mpr ?_) e3 (fun k t h1 h2 => hW.2.2 q i k t hi h1 h2)) hg (hS.put e2 e3 (hW.1 q i hi).2) hl2 hL (xok_tl (xok_tl (xok_tl hK)))
  rw [e1, arrV_store]
  congr 2
  funext z
  unfold updV xval
  rw [(ha.2.1 z).1]
  by_cases hz : z = j.toNatClampNeg
  · rw [if_pos hz, hz]; show _ = Value.int (x_up _ _ _ _ _ _ _ _); rw [x_up_self]; try rfl
  · rw [if_neg hz]; show _ = Value.int (x_up _ _ _ _ _ _ _ _); rw [x_up_k hz]; try rfl
theorem x_zast (C : x_C p e R s m args meth c D cA A cc own nL) {q i t : Nat} {j : Int32} {v : Int32} (ha : x_ar q 0 t .boolean) (hin : x_in j (xk_n q)) (hd : decode cc pc = .ok (.bastore, 1)) (kk : x_V p l e R s m args below meth c D cA A nL g0 n0 Q (pc + 1) L K (xsI st q i j.toNatClampNeg (v &&& 1)) cells slots) : x_V p l e R s m args below meth c D cA A nL g0 n0 Q pc L (xI v :: xI j :: xR q (some i) :: K) st cells slots := by
  intro g H locs ls hW hg hS hl2 hL hK
  have hi : i < st.2.2.2 q := xok_hd (xok_tl (xok_tl hK))
  have he := (x_arrAt ha).mp (hW.1 q i hi).1
  refine W.zast C.1 C.2.1 he (x_isArr C ha _ _) (fun z => by cases z) (by rw [arrV_size]; exact x_in_n hin) rfl rfl hd fun H1 e1 e2 e3 => ?_
  refine kk g H1 _ ls (hW.upd hi rfl (fun r j h => ⟨x_up_oth h, rfl, rfl⟩) ((x_arrAt ha).mpr ?_) e3 (fun k t h1 h2 => hW.2.2 q i k t hi h1 h2)) hg (hS.put e2 e3 (hW.1 q i hi).2) hl2 hL (xok_tl (xok_tl (xok_tl hK)))
  rw [e1, arrV_store]
  congr 2
  funext z
  unfold updV xval
  rw [(ha.2.1 z).1]
  by_cases hz : z = j.toNatClampNeg
  · rw [if_pos hz, hz]; show _ = Value.int (x_up _ _ _ _ _ _ _ _); rw [x_up_self]; try rfl
  · rw [if_neg hz]; show _ = Value.int (x_up _ _ _ _ _ _ _ _); rw [x_up_k hz]; try rfl
theorem x_last (C : x_C p e R s m args meth c D cA A cc own nL) {q i t : Nat} {j : Int32} {v : Int64} (ha : x_ar q 1 t .long) (hin : x_in j (xk_n q)) (hd : decode cc pc = .ok (.lastore, 1)) (kk : x_V p l e R s m args below meth c D cA A nL g0 n0 Q (pc + 1) L K (xsJ st q i j.toNatClampNeg (v)) cells slots) : x_V p l e R s m args below meth c D cA A nL g0 n0 Q pc L (xL v :: xI j :: xR q (some i) :: K) st cells slots := by
  intro g H locs ls hW hg hS hl2 hL hK
  have hi : i < st.2.2.2 q := xok_hd (xok_tl (xok_tl hK))
  have he := (x_arrAt ha).mp (hW.1 q i hi).1
  refine W.last C.1 C.2.1 he (x_isArr C ha _ _) (fun z => by cases z) (by rw [arrV_size]; exact x_in_n hin) rfl rfl hd fun H1 e1 e2 e3 => ?_
  refine kk g H1 _ ls (hW.upd hi rfl (fun r j h => ⟨rfl, x_up_oth h, rfl⟩) ((x_arrAt ha).mpr ?_) e3 (fun k t h1 h2 => hW.2.2 q i k t hi h1 h2)) hg (hS.put e2 e3 (hW.1 q i hi).2) hl2 hL (xok_tl (xok_tl (xok_tl hK)))
  rw [e1, arrV_store]
  congr 2
  funext z
  unfold updV xval
  rw [(ha.2.1 z).1]
  by_cases hz : z = j.toNatClampNeg
  · rw [if_pos hz, hz]; show _ = Value.long (x_up _ _ _ _ _ _ _ _); rw [x_up_self]; try rfl
  · rw [if_neg hz]; show _ = Value.long (x_up _ _ _ _ _ _ _ _); rw [x_up_k hz]; try rfl
theorem x_aast (C : x_C p e R s m args meth c D cA A cc own nL) {q i t ci : Nat} {nm : String} {j : Int32} {v q2 : Nat} {r : vw_C} (ha : x_ar q 2 t (.object nm)) (hc : xk_c t = some ci) (hr : xk_cl[ci]? = some r) (hnm : r.1 = nm) (hq : q2 = t) (hin : x_in j (xk_n q)) (hd : decode cc pc = .ok (.aastore, 1)) (kk : x_V p l e R s m args below meth c D cA A nL g0 n0 Q (pc + 1) L K (xsR st q i j.toNatClampNeg (some v)) cells slots) : x_V p l e R s m args below meth c D cA A nL g0 n0 Q pc L (xR q2 (some v) :: xI j :: xR q (some i) :: K) st cells slots := by
  intro g H locs ls hW hg hS hl2 hL hK
  subst hq
  subst hnm
  have hi : i < st.2.2.2 q := xok_hd (xok_tl (xok_tl hK))
  have hv : v < st.2.2.2 q2 := xok_hd hK
  have he := (x_arrAt ha).mp (hW.1 q i hi).1
  have hev := (hW.1 q2 v hv).1
  rw [xent_obj hc] at hev
  obtain ⟨r', hr', cellV, g1, g2, g3, -⟩ := hev
  have hKx := C.2.2.2.2.2.1
  have hcls := (hKx.1 ci r hr).2
  obtain ⟨kA, comp, k1, k2, k3, -⟩ := (hKx.2.1 q _ ha.2.2).2
  have hcomp : comp = D.1 ci := Option.some.inj (k3.symm.trans hcls.1)
  subst hcomp
  obtain ⟨kC, hkC, -⟩ := hcls.2
  refine W.aast C.1 C.2.1 he (fun q h => by cases h) (fun h => by cases h) k1 k2 rfl hkC ⟨hin.1, by rw [arrV_size]; exact hin.2⟩ g1 (fun q h => by rw [g3] at h; cases h) (by rw [g2]; exact hkC) (by rw [g2]; exact va_assign hcls) rfl rfl hd fun H1 e1 e2 e3 => ?_
  refine kk g H1 _ ls (hW.upd hi rfl (fun r j h => ⟨rfl, rfl, x_up_oth h⟩) ((x_arrAt ha).mpr ?_) e3 (x_refR hW hi (xok_hd hK) (Or.inr (ha.2.1 _).2))) hg (hS.put e2 e3 (hW.1 q i hi).2) hl2 hL (xok_tl (xok_tl (xok_tl hK)))
  rw [e1, arrV_store]
  congr 2
  funext z
  unfold updV xval
  rw [(ha.2.1 z).1, (ha.2.1 z).2]
  by_cases hz : z = j.toNatClampNeg
  · rw [if_pos hz, hz]; show _ = xrf g _ (x_up _ _ _ _ _ _ _ _); rw [x_up_self]; rfl
  · rw [if_neg hz]; show _ = xrf g _ (x_up _ _ _ _ _ _ _ _); rw [x_up_k hz]; try rfl
theorem x_aastN (C : x_C p e R s m args meth c D cA A cc own nL) {q i t q2 : Nat} {nm : String} {j : Int32} (ha : x_ar q 2 t (.object nm)) (hin : x_in j (xk_n q)) (hd : decode cc pc = .ok (.aastore, 1)) (kk : x_V p l e R s m args below meth c D cA A nL g0 n0 Q (pc + 1) L K (xsR st q i j.toNatClampNeg none) cells slots) : x_V p l e R s m args below meth c D cA A nL g0 n0 Q pc L (xR q2 none :: xI j :: xR q (some i) :: K) st cells slots := by
  intro g H locs ls hW hg hS hl2 hL hK
  have hi : i < st.2.2.2 q := xok_hd (xok_tl (xok_tl hK))
  have he := (x_arrAt ha).mp (hW.1 q i hi).1
  refine va_WaastN (C := nm) C.1 C.2.1 he (x_isArr C ha _ _) (fun z => by cases z) (by rw [arrV_size]; exact x_in_n hin) rfl rfl hd fun H1 e1 e2 e3 => ?_
  refine kk g H1 _ ls (hW.upd hi rfl (fun r j h => ⟨rfl, rfl, x_up_oth h⟩) ((x_arrAt ha).mpr ?_) e3 (x_refR (q2 := q2) hW hi trivial (Or.inl rfl))) hg (hS.put e2 e3 (hW.1 q i hi).2) hl2 hL (xok_tl (xok_tl (xok_tl hK)))
  rw [e1, arrV_store]
  congr 2
  funext z
  unfold updV xval
  rw [(ha.2.1 z).1, (ha.2.1 z).2]
  by_cases hz : z = j.toNatClampNeg
  · rw [if_pos hz, hz]; show _ = xrf g _ (x_up _ _ _ _ _ _ _ _); rw [x_up_self]; rfl
  · rw [if_neg hz]; show _ = xrf g _ (x_up _ _ _ _ _ _ _ _); rw [x_up_k hz]; try rfl
end XQ
end
section
/-! NEW OBJECTS over pools -/
def x_gN (g : Nat → Nat → Nat) (q n a : Nat) : Nat → Nat → Nat := fun r j => if r = q ∧ j = n then a else g r j
theorem x_gN_self {g : Nat → Nat → Nat} {q n a : Nat} : x_gN g q n a q n = a := if_pos ⟨rfl, rfl⟩
theorem x_gN_lt {g : Nat → Nat → Nat} {cnt : Nat → Nat} {q a r j : Nat} (h : j < cnt r) : x_gN g q (cnt q) a r j = g r j := if_neg (fun z => by obtain ⟨rfl, rfl⟩ := z; exact Nat.lt_irrefl _ h)
theorem xv_gN {g : Nat → Nat → Nat} {cnt : Nat → Nat} {q a : Nat} {v : XV} (h : xok cnt v) : xv (x_gN g q (cnt q) a) v = xv g v := by
  rcases v with x | y | ⟨r, _ | i⟩ | b
  · rfl
  · rfl
  · rfl
  · show Value.ref (x_gN g q (cnt q) a r i) = Value.ref (g r i)
    rw [x_gN_lt h]
  · rfl
theorem xrf_gN {g : Nat → Nat → Nat} {cnt : Nat → Nat} {q a r : Nat} {o : Option Nat} (h : ∀ j, o = some j → j < cnt r) : xrf (x_gN g q (cnt q) a) r o = xrf g r o := by
  cases o with
  | none => rfl
  | some j => show Value.ref (x_gN g q (cnt q) a r j) = _; rw [x_gN_lt (h j rfl)]; rfl
theorem x_W.push {D : va_G} {cA : Nat → ClassId} {A : Nat → Prop} {g : Nat → Nat → Nat} {st : XS} {H H1 : Heap} {q : Nat} (hW : x_W D cA A g st H) (ho : ∀ b : Nat, b < H.size → H1[b]? = H[b]?) (hA : A H.size) (he : va_at D xk_cl (H.size, xent cA (x_gN g q (st.2.2.2 q) H.size) (xsN st q) q (st.2.2.2 q)) H1) : x_W D cA A (x_gN g q (st.2.2.2 q) H.size) (xsN st q) H1 := by
  have hcnt : ∀ r j, j < (xsN st q).2.2.2 r → (r = q ∧ j = st.2.2.2 q) ∨ j < st.2.2.2 r := by
    intro r j h
    have h : j < (if r = q then st.2.2.2 q + 1 else st.2.2.2 r) := h
    by_cases hr : r = q
    · subst hr
      rw [if_pos rfl] at h
      by_cases hj : j = st.2.2.2 r
      · exact Or.inl ⟨rfl, hj⟩
      · exact Or.inr (by omega)
    · rw [if_neg hr] at h; exact Or.inr h
  have hle : ∀ r, st.2.2.2 r ≤ (xsN st q).2.2.2 r := by
    intro r
    show _ ≤ (if r = q then st.2.2.2 q + 1 else st.2.2.2 r)
    by_cases hr : r = q
    · subst hr; rw [if_pos rfl]; omega
    · rw [if_neg hr]; exact Nat.le_refl _
  have hlt : ∀ r j, j < st.2.2.2 r → g r j < H.size := fun r j h => (hW.1 r j h).1.lt
  have hold : ∀ r j, j < st.2.2.2 r → xent cA (x_gN g q (st.2.2.2 q) H.size) (xsN st q) r j = xent cA g st r j := by
    intro r j hj
    have hne : ¬ (r = q ∧ j = st.2.2.2 q) := fun z => by obtain ⟨rfl, rfl⟩ := z; exact Nat.lt_irrefl _ hj
    have e1 : ∀ k, (xsN st q).1 r j k = st.1 r j k := fun k => if_neg hne
    have e2 : ∀ k, (xsN st q).2.1 r j k = st.2.1 r j k := fun k => if_neg hne
    have e3 : ∀ k, (xsN st q).2.2.1 r j k = st.2.2.1 r j k := fun k => if_neg hne
    have ev : xval (x_gN g q (st.2.2.2 q) H.size) (xsN st q) r j = xval g st r j := by
      funext k
      unfold xval
      rw [e1, e2, e3]
      have hs := xk_s_le r k
      match hk : xk_s r k, hs with
      | 0, _ => rfl
      | 1, _ => rfl
      | 2, _ => exact xrf_gN (fun t h => hW.2.2 r j k t hj hk h)
    cases hc : xk_c r with
    | some ci => rw [xent_obj hc, xent_obj hc, ev]
    | none =>
      rw [xent_arr hc, xent_arr hc]
      congr 2
      unfold xarr
      congr 1
      have hs := xk_s_le r 0
      match hk : xk_s r 0, hs with
      | 0, _ => show Sum.inl _ = Sum.inl _; congr 1; funext k; exact e1 k
      | 1, _ => show Sum.inr (Sum.inl _) = Sum.inr (Sum.inl _); congr 2; funext k; exact e2 k
      | 2, _ =>
        show Sum.inr (Sum.inr (Sum.inr (Sum.inr _))) = Sum.inr (Sum.inr (Sum.inr (Sum.inr _)))
        congr 4
        funext k
        rw [e3 k]
        cases h : st.2.2.1 r j k with
        | none => rfl
        | some t =>
          have hu := xk_un r hc k
          have h3 := hW.2.2 r j k t hj (by rw [hu.1]; exact hk) h
          rw [hu.2] at h3
          show some (x_gN g q (st.2.2.2 q) H.size _ t) = some _
          rw [x_gN_lt h3]
  refine ⟨fun r j hj => ?_, fun r j r2 j2 h1 h2 hEq => ?_, fun r j k t hj hs ht => ?_⟩
  · rcases hcnt r j hj with ⟨rfl, rfl⟩ | h
    · rw [x_gN_self]; exact ⟨he, hA⟩
    · rw [hold r j h, x_gN_lt h]
      exact ⟨((hW.1 r j h).1).kept (ho _ (hlt r j h)), (hW.1 r j h).2⟩
  · rcases hcnt r j h1 with ⟨rfl, rfl⟩ | h <;> rcases hcnt r2 j2 h2 with ⟨rfl, rfl⟩ | h'
    · exact ⟨rfl, rfl⟩
    · rw [x_gN_self, x_gN_lt h'] at hEq
      have := hlt r2 j2 h'
      omega
    · rw [x_gN_self, x_gN_lt h] at hEq
      have := hlt r j h
      omega
    · rw [x_gN_lt h, x_gN_lt h'] at hEq
      exact hW.2.1 r j r2 j2 h h' hEq
  · rcases hcnt r j hj with ⟨rfl, rfl⟩ | h
    · have e3 : (xsN st r).2.2.1 r (st.2.2.2 r) k = none := if_pos ⟨rfl, rfl⟩
      rw [e3] at ht
      cases ht
    · have hne : ¬ (r = q ∧ j = st.2.2.2 q) := fun z => by obtain ⟨rfl, rfl⟩ := z; exact Nat.lt_irrefl _ h
      have e3 : (xsN st q).2.2.1 r j k = st.2.2.1 r j k := if_neg hne
      rw [e3] at ht
      exact Nat.lt_of_lt_of_le (hW.2.2 r j k t h hs ht) (hle _)
end
section
/-! the rows of new, newarray, anewarray -/
def xdf (so : Nat) : Value := match so with
  | 0 => .int 0
  | 1 => .long 0
  | _ => .null
theorem xval_new {g : Nat → Nat → Nat} {st : XS} {q k : Nat} : xval g (xsN st q) q (st.2.2.2 q) k = xdf (xk_s q k) := by
  have e1 : (xsN st q).1 q (st.2.2.2 q) k = 0 := if_pos ⟨rfl, rfl⟩
  have e2 : (xsN st q).2.1 q (st.2.2.2 q) k = 0 := if_pos ⟨rfl, rfl⟩
  have e3 : (xsN st q).2.2.1 q (st.2.2.2 q) k = none := if_pos ⟨rfl, rfl⟩
  unfold xval xdf
  rw [e1, e2, e3]
  rfl
theorem x_mapL {g : Nat → Nat → Nat} {cnt : Nat → Nat} {q a : Nat} {L : List (Nat × XV)} (h : ∀ z ∈ L, xok cnt z.2) : (L.map fun z => (z.1, xv (x_gN g q (cnt q) a) z.2)) = L.map fun z => (z.1, xv g z.2) := List.map_congr_left fun z hz => by rw [xv_gN (h z hz)]
theorem x_mapK {g : Nat → Nat → Nat} {cnt : Nat → Nat} {q a : Nat} {K : List XV} (h : ∀ v ∈ K, xok cnt v) : K.map (xv (x_gN g q (cnt q) a)) = K.map (xv g) := List.map_congr_left fun v hv => xv_gN (h v hv)
theorem x_cle {st : XS} {q : Nat} (r : Nat) : st.2.2.2 r ≤ (xsN st q).2.2.2 r := by
  show _ ≤ (if r = q then st.2.2.2 q + 1 else st.2.2.2 r)
  by_cases hr : r = q
  · subst hr; rw [if_pos rfl]; omega
  · rw [if_neg hr]; exact Nat.le_refl _
theorem xok_le {c1 c2 : Nat → Nat} {v : XV} (hc : ∀ r, c1 r ≤ c2 r) (h : xok c1 v) : xok c2 v := by
  rcases v with x | y | ⟨r, _ | i⟩ | b
  · trivial
  · trivial
  · trivial
  · exact Nat.lt_of_lt_of_le h (hc r)
  · trivial
theorem x_E.new {g0 : Nat → Nat → Nat} {n0 : Nat → Nat} {g : Nat → Nat → Nat} {st : XS} {q a : Nat} (h : x_E g0 n0 g st.2.2.2) : x_E g0 n0 (x_gN g q (st.2.2.2 q) a) (xsN st q).2.2.2 :=
  ⟨fun r i hi => by rw [x_gN_lt (Nat.lt_of_lt_of_le hi (h.2 r))]; exact h.1 r i hi, fun r => Nat.le_trans (h.2 r) (x_cle r)⟩
section XN
variable {p : Program} {l : Launch} {e : Env} {R : Room} {s : State} {m : MethodId} {args : Array Value} {below : List Frame} {meth : Method} {c : Code} {D : va_G} {cA : Nat → ClassId} {A : Nat → Prop} {nL : Nat} {g0 : Nat → Nat → Nat} {n0 : Nat → Nat} {Q : State → Prop} {cc : ByteArray} {own : String} {pc : Nat} {L : List (Nat × XV)} {K : List XV} {st : XS} {cells slots : Nat} {H : Heap} {locs : List Loc} {ls : Array Slot} {rest : List Value} {g : Nat → Nat → Nat}
/-- behind a new cell -/
theorem x_fresh {q pc2 c2 s2 : Nat} {H1 : Heap} (hx : ∀ a, s.heap.size ≤ a → A a) (kk : x_V p l e R s m args below meth c D cA A nL g0 n0 Q pc2 L (xR q (some (st.2.2.2 q)) :: K) (xsN st q) c2 s2) (hW : x_W D cA A g st H) (hg : x_E g0 n0 g st.2.2.2) (hS : va_S A s.heap H locs) (hl : lv_has ls nL (L.map fun z => (z.1, xv g z.2))) (hL : ∀ z ∈ L, xok st.2.2.2 z.2) (hK : ∀ v ∈ K, xok st.2.2.2 v) (ho : ∀ b : Nat, b < H.size → H1[b]? = H[b]?) (hz : H1.size = H.size + 1)
    (he : va_at D xk_cl (H.size, xent cA (x_gN g q (st.2.2.2 q) H.size) (xsN st q) q (st.2.2.2 q)) H1) : W p l e R s m args below meth c H1 locs c2 s2 Q (F0 m pc2 ls (.ref H.size :: K.map (xv g))) := by
  have hlt : st.2.2.2 q < (xsN st q).2.2.2 q := by
    show _ < (if q = q then st.2.2.2 q + 1 else _)
    rw [if_pos rfl]; omega
  have k1 := kk (x_gN g q (st.2.2.2 q) H.size) H1 locs ls (hW.push ho (hx _ hS.1) he) hg.new ⟨Nat.le_trans hS.1 (by omega), fun x h1 h2 => (ho x (Nat.lt_of_lt_of_le h1 hS.1)).trans (hS.2.1 x h1 h2), hS.2.2⟩ (by rw [x_mapL hL]; exact hl) (fun z hz => xok_le (fun r => x_cle r) (hL z hz)) (xok_cs hlt (fun v hv => xok_le (fun r => x_cle r) (hK v hv)))
  rw [List.map_cons, x_mapK hK] at k1
  have e1 : xv (x_gN g q (st.2.2.2 q) H.size) (xR q (some (st.2.2.2 q))) = .ref H.size := by
    show Value.ref (x_gN g q (st.2.2.2 q) H.size q (st.2.2.2 q)) = _
    rw [x_gN_self]
  rw [e1] at k1
  exact k1
theorem x_new (C : x_C p e R s m args meth c D cA A cc own nL) {q index ci N : Nat} {Cn : String} {T : u_T} (hc : xk_c q = some ci) (hr : xk_cl[ci]? = some (Cn, T, N)) (hcl : Cond.classLink own index Cn ∈ x_tb) (hins : Cond.instantiable Cn N ∈ x_tb) (hini : Cond.initialized Cn ∈ x_tb) (hdf : ∀ k, k < N → defaultValue (xk_ty ci k) = xdf (xk_s q k)) (hc1 : cells + 1 ≤ R.cells) (hs1 : slots + N ≤ R.slots) (hd : decode cc pc = .ok (.new index, 3)) (kk : x_V p l e R s m args below meth c D cA A nL g0 n0 Q (pc + 3) L (xR q (some (st.2.2.2 q)) :: K) (xsN st q) (cells + 1) (slots + N)) : x_V p l e R s m args below meth c D cA A nL g0 n0 Q pc L K st cells slots := by
  intro g H locs ls hW hg hS hl hL hK
  obtain ⟨hx, hb, -, hown, hts, hKx, -, hA, -⟩ := C
  obtain ⟨-, r', hr', hn⟩ := xk_cok hc
  cases hr.symm.trans hr'
  refine W.newcK hx hb hown (hts _ hcl) (hts _ hins) (hts _ hini) rfl hd hc1 hs1 (hKx.1 ci _ hr).2.1 rfl fun H1 kC hkC e1 z1 o1 => ?_
  refine x_fresh hA kk hW hg hS hl hL hK o1 z1 ?_
  rw [xent_obj hc]
  refine ⟨_, hr, (u_born (xk_ty ci) hts (xk_inr hr) (hKx.1 ci _ hr) hkC e1 (xk_tyr hr)).to fun k hk => ?_⟩
  rw [hdf k hk]
  have hk2 : k < xk_n q := by rw [← hn]; exact hk
  unfold vp_V
  rw [List.getD_eq_getElem?_getD, List.getElem?_map, List.getElem?_range hk2]
  show _ = xval _ _ _ _ _
  rw [xval_new]
theorem x_newa (C : x_C p e R s m args meth c D cA A cc own nL) {q so t : Nat} {n : Int32} {atype : ArrayType} {ty : FieldType} (ha : x_ar q so t ty) (hty : newarray.typeOf atype = ty) (hdf : defaultValue ty = xdf so) (hra : ∀ cl, va_RA s cl ty → s.vm.findClass ("[" ++ ty.toString) = some cl) (hcl : Cond.arrayClass ty ∈ x_tb) (hn : ¬ n < 0) (hN : n.toNatClampNeg = xk_n q) (hby : xk_n q * componentBytes ty ≤ 536870912) (hc1 : cells + 1 ≤ R.cells) (hs1 : slots + xk_n q ≤ R.slots) (hd : decode cc pc = .ok (.newarray atype, 2)) (kk : x_V p l e R s m args below meth c D cA A nL g0 n0 Q (pc + 2) L (xR q (some (st.2.2.2 q)) :: K) (xsN st q) (cells + 1) (slots + xk_n q)) : x_V p l e R s m args below meth c D cA A nL g0 n0 Q pc L (xI n :: K) st cells slots := by
  intro g H locs ls hW hg hS hl hL hK
  obtain ⟨hx, hb, -, hown, hts, hKx, -, hA, -⟩ := C
  subst hty
  refine va_newaK hx hb (hts _ hcl) rfl hd rfl hn hN hby hc1 hs1 rfl fun H1 cl e1 z1 o1 hAr hNm => ?_
  refine x_fresh hA kk hW hg hS hl hL (xok_tl hK) o1 z1 ?_
  have ecl : cl = cA q := Option.some.inj (hNm.symm.trans (hra _ (hKx.2.1 q _ ha.2.2).2))
  have h1 := (x_arrAt (D := D) (cA := cA) (g := x_gN g q (st.2.2.2 q) H.size) (st := xsN st q) (H := H1) (i := st.2.2.2 q) ha)
  rw [x_gN_self] at h1
  refine h1.mpr ?_
  rw [e1, ecl]
  congr 2
  funext k
  rw [xval_new, (ha.2.1 k).1, hdf]
theorem x_anew (C : x_C p e R s m args meth c D cA A cc own nL) {q t index : Nat} {n : Int32} {nm : String} (ha : x_ar q 2 t (.object nm)) (hcl : Cond.classLink own index nm ∈ x_tb) (hov : va_AO nm s) (hn : ¬ n < 0) (hN : n.toNatClampNeg = xk_n q) (hby : xk_n q * 4 ≤ 536870912) (hc1 : cells + 1 ≤ R.cells) (hs1 : slots + xk_n q ≤ R.slots) (hd : decode cc pc = .ok (.anewarray index, 3)) (kk : x_V p l e R s m args below meth c D cA A nL g0 n0 Q (pc + 3) L (xR q (some (st.2.2.2 q)) :: K) (xsN st q) (cells + 1) (slots + xk_n q)) : x_V p l e R s m args below meth c D cA A nL g0 n0 Q pc L (xI n :: K) st cells slots := by
  intro g H locs ls hW hg hS hl hL hK
  obtain ⟨hx, hb, -, hown, hts, hKx, -, hA, -⟩ := C
  rw [← hN] at kk hby hs1
  refine W.anew hx hb hown (hts _ hcl) (va_AO.use hov) rfl hd rfl hn hby hc1 hs1 fun cl kA comp f1 f2 f3 f4 => ?_
  have z1 : (H.push ({ cls := cl, slots := Array.replicate n.toNatClampNeg .null, vm := .none } : Cell)).size = H.size + 1 := Array.size_push ..
  have o1 : ∀ b : Nat, b < H.size → (H.push ({ cls := cl, slots := Array.replicate n.toNatClampNeg .null, vm := .none } : Cell))[b]? = H[b]? := fun b hb => by rw [Array.getElem?_push, if_neg (Nat.ne_of_lt hb)]
  refine x_fresh hA kk hW hg hS hl hL (xok_tl hK) o1 z1 ?_
  obtain ⟨kA', comp', k1, k2, k3, k4⟩ := (hKx.2.1 q _ ha.2.2).2
  have ecl : cl = cA q := Option.some.inj (f1.symm.trans k4)
  have h1 := (x_arrAt (D := D) (cA := cA) (g := x_gN g q (st.2.2.2 q) H.size) (st := xsN st q) (H := H.push ({ cls := cl, slots := Array.replicate n.toNatClampNeg .null, vm := .none } : Cell)) (i := st.2.2.2 q) ha)
  rw [x_gN_self] at h1
  refine h1.mpr ?_
  rw [Array.getElem?_push_size, arrV_new, ecl, hN]
  congr 2
  funext k
  rw [xval_new, (ha.2.1 k).1]
  rfl
end XN
end
section
/-! METHODS AS CONTRACTS over pools, and calls: a method returns or throws -/
theorem x_weak {tb : Tables} {e : Env} {f : Frame} {below : List Frame} {a b : State} (hf : ∀ x, f ≠ .throwing x) (h : Steps tb e (f :: below) a b) : Steps tb e below a b := by
  obtain ⟨n, h1, h2⟩ := h
  refine ⟨n, h1, fun k hk => ?_⟩
  obtain ⟨above, h3, h4, h5⟩ := h2 k hk
  refine ⟨above ++ [f], by rw [h3]; simp, by simp, fun x hx => ?_⟩
  cases above with
  | nil => exact h4 rfl
  | cons y ys => cases ys <;> simp at hx
theorem x_K.moved {D : va_G} {cA : Nat → ClassId} {u U : State} (hW : u.WarmedH U.vm) (h : x_K D cA u) : x_K D cA U := by
  refine ⟨fun c q hq => u_Kn_moved hW.alike (h.1 c q hq), fun q ty hq => ⟨arrOfT_moved hW.alike (h.2.1 q ty hq).1, (h.2.1 q ty hq).2.moved hW.alike⟩, fun w hw => ?_⟩
  have h1 := h.2.2 w hw
  rcases xk_nestform w hw with ⟨a, i, b, n, d, ho, rfl⟩ | ⟨a, i, x, ho, rfl⟩
  · exact va_Nw.warmF hW h1
  · exact va_Nw.warmM hW h1
/-- an exception's object -/
def x_Ex (E : String) (a : Nat) (t : State) : Prop := ∃ cell, t.heap[a]? = some cell ∧ (∀ k, cell.vm ≠ .statics k) ∧ t.vm.findClass E = some cell.cls
abbrev XR : Type := Option XV ⊕ String
/-- a method's end: it returned v, or threw an E; the world is st' -/
def x_MQ (D : va_G) (cA : Nat → ClassId) (g0 : Nat → Nat → Nat) (n0 : Nat → Nat) (below : List Frame) (s : State) (mc ms : Nat) (r : XR) (st' : XS) : State → Prop := fun t =>
  ∃ (o : Outcome) (L : List Loc) (g : Nat → Nat → Nat), t.status = .running ∧ Ended t below o ∧ s.WarmedH t.vm ∧ s.sameButNew ({ t with vm := s.vm } : State) L mc ms ∧ (∀ q ∈ L, x_A g0 n0 s.heap.size q.base) ∧ va_F (x_A g0 n0 s.heap.size) s t ∧ x_E g0 n0 g st'.2.2.2 ∧ x_W D cA (x_A g0 n0 s.heap.size) g st' t.heap ∧
    (match r with
      | .inl v => o = .returned (v.map (xv g)) ∧ ∀ w, v = some w → xok st'.2.2.2 w
      | .inr E => ∃ a, o = .threw a ∧ x_Ex E a t)
/-- what a method is: its class, bytes, locals, return type, handlers, name -/
abbrev XM : Type := String × ByteArray × Nat × Option FieldType × List (Nat × Nat × Nat × Nat) × String
/-- what holds when a body begins -/
def x_B (M : XM) (p : Program) (s : State) (m : MethodId) (args : Array Value) (meth : Method) (c : Code) (D : va_G) (cA : Nat → ClassId) (g : Nat → Nat → Nat) (st : XS) : Prop :=
  p.tables.exec = Jvm.exec ∧ c.code = M.2.1 ∧ c.maxLocals = M.2.2.1 ∧ s.vm.findClass M.1 = some m.cls ∧ (∀ w ∈ x_tb, w.before args s = true) ∧ x_K D cA s ∧ meth.locks = false ∧ meth.name = M.2.2.2.2.2 ∧ meth.sig.returnType = M.2.2.2.1 ∧ c.exceptionTable.toList.map (fun h => (h.startPc, h.endPc, h.handlerPc, h.catchType)) = M.2.2.2.2.1 ∧ x_Th (x_A g st.2.2.2 s.heap.size) s s.heap ∧ x_W D cA (x_A g st.2.2.2 s.heap.size) g st s.heap
/-- THE CONTRACT of a method at a launch, with room R, for these arguments and this world: how it ends -/
def x_M (l : Launch) (M : XM) (R : Room) (aL : List XV) (st : XS) (r : XR) (st' : XS) (mc ms : Nat) : Prop :=
  ∀ (p : Program) (e : Env) (s : State) (m : MethodId) (below : List Frame) (meth : Method) (c : Code) (D : va_G) (cA : Nat → ClassId) (g : Nat → Nat → Nat), x_B M p s m (aL.map (xv g)).toArray meth c D cA g st → (∀ v ∈ aL, xok st.2.2.2 v) →
    W p l e R s m (aL.map (xv g)).toArray below meth c s.heap [] 0 0 (x_MQ D cA g st.2.2.2 below s mc ms r st') (entryFrame m (aL.map (xv g)).toArray M.2.2.1)
end
section
/-! entry, returns, calls -/
def xargs : Nat → List XV → List (Nat × XV)
  | _, [] => []
  | i, v :: vs => (i, v) :: xargs (if xcat v = 2 then i + 2 else i + 1) vs
theorem xargs_v (g : Nat → Nat → Nat) : ∀ (i : Nat) (vs : List XV), (xargs i vs).map (fun z => (z.1, xv g z.2)) = lv_args i (vs.map (xv g))
  | _, [] => rfl
  | i, v :: vs => by
    show (i, xv g v) :: (xargs _ vs).map _ = (i, xv g v) :: lv_args _ (vs.map (xv g))
    rw [xargs_v g _ vs, xcat_v]
theorem xargs_ok {cnt : Nat → Nat} : ∀ (i : Nat) (vs : List XV), (∀ v ∈ vs, xok cnt v) → ∀ z ∈ xargs i vs, xok cnt z.2
  | _, [], _, z, hz => by cases hz
  | i, v :: vs, h, z, hz => by
    rcases List.mem_cons.mp hz with rfl | hz
    · exact h _ List.mem_cons_self
    · exact xargs_ok _ vs (fun w hw => h w (List.mem_cons_of_mem _ hw)) z hz
theorem x_sl (g : Nat → Nat → Nat) : ∀ (vs : List XV), (lg_sl (vs.map (xv g))).length = (vs.map xcat).sum
  | [] => rfl
  | v :: vs => by
    have h := x_sl g vs
    unfold lg_sl at h ⊢
    rw [List.map_cons, List.flatMap_cons, List.length_append, h, List.map_cons, List.sum_cons, xcat_v]
    rcases v with x | y | ⟨q, _ | i⟩ | a <;> rfl
theorem x_post {p : Program} {l : Launch} {e : Env} {R : Room} {s : State} {m : MethodId} {args : Array Value} {below : List Frame} {meth : Method} {c : Code} {H : Heap} {locs : List Loc} {cells slots : Nat} {Q Q2 : State → Prop} {g : JFrame} (h : ∀ t, Q t → Q2 t) (k : W p l e R s m args below meth c H locs cells slots Q g) : W p l e R s m args below meth c H locs cells slots Q2 g := fun T hT X => by
  obtain ⟨t, a, b⟩ := k T hT X
  exact ⟨t, a, h t b⟩
theorem x_B.C {M : XM} {p : Program} {e : Env} {R : Room} {s : State} {m : MethodId} {args : Array Value} {meth : Method} {c : Code} {D : va_G} {cA : Nat → ClassId} {g : Nat → Nat → Nat} {st : XS} (B : x_B M p s m args meth c D cA g st) : x_C p e R s m args meth c D cA (x_A g st.2.2.2 s.heap.size) M.2.1 M.1 M.2.2.1 :=
  ⟨B.1, B.2.1, B.2.2.1, B.2.2.2.1, B.2.2.2.2.1, B.2.2.2.2.2.1, B.2.2.2.2.2.2.1, fun _ h => Or.inr h, B.2.2.2.2.2.2.2.2.2.2.1⟩
theorem x_enter {l : Launch} {M : XM} {R : Room} {aL : List XV} {st st' : XS} {r : XR} {mc ms : Nat} (hsz : (aL.map xcat).sum ≤ M.2.2.1)
    (body : ∀ (p : Program) (e : Env) (s : State) (m : MethodId) (below : List Frame) (meth : Method) (c : Code) (D : va_G) (cA : Nat → ClassId) (g : Nat → Nat → Nat) (args : Array Value), x_B M p s m args meth c D cA g st → x_C p e R s m args meth c D cA (x_A g st.2.2.2 s.heap.size) M.2.1 M.1 M.2.2.1 →
      x_V p l e R s m args below meth c D cA (x_A g st.2.2.2 s.heap.size) M.2.2.1 g st.2.2.2 (x_MQ D cA g st.2.2.2 below s mc ms r st') 0 (xargs 0 aL) [] st 0 0) : x_M l M R aL st r st' mc ms := by
  intro p e s m below meth c D cA g B hv
  rw [lg_entry_eq]
  have hl := lv_entry (aL.map (xv g)) (n := M.2.2.1) (by rw [x_sl]; exact hsz)
  rw [← xargs_v g 0 aL] at hl
  exact body p e s m below meth c D cA g _ B B.C g s.heap [] _ B.2.2.2.2.2.2.2.2.2.2.2 ⟨fun _ _ _ => rfl, fun _ => Nat.le_refl _⟩ va_S.rf hl (xargs_ok 0 aL hv) (fun v h => by cases h)
section XC
variable {p : Program} {l : Launch} {e : Env} {R : Room} {s : State} {m : MethodId} {args : Array Value} {below : List Frame} {meth : Method} {c : Code} {D : va_G} {cA : Nat → ClassId} {A : Nat → Prop} {nL : Nat} {g0 : Nat → Nat → Nat} {n0 : Nat → Nat} {Q : State → Prop} {cc : ByteArray} {own : String} {pc : Nat} {L : List (Nat × XV)} {K : List XV} {st : XS} {cells slots : Nat} {H : Heap} {locs : List Loc} {ls : Array Slot} {rest : List Value} {g : Nat → Nat → Nat} {mc ms : Nat}
theorem x_end {v : Option XV} {H : Heap} (hW : x_W D cA (x_A g0 n0 s.heap.size) g st H) (hg : x_E g0 n0 g st.2.2.2) (hS : va_S (x_A g0 n0 s.heap.size) s.heap H locs) (hv : ∀ w, v = some w → xok st.2.2.2 w) : ∀ t, MQ below (fun _ _ o t => o = .returned (v.map (xv g)) ∧ t.heap = H) args s mc ms (x_A g0 n0 s.heap.size) t → x_MQ D cA g0 n0 below s mc ms (.inl v) st t := by
  intro t ⟨o, h1, h2, ⟨h3, h4⟩, Lc, ⟨_, h5, h6⟩, h7⟩
  exact ⟨o, Lc, g, h1, h2, h5, h6, h7, hS.F h4, hg, by rw [h4]; exact hW, h3, hv⟩
theorem x_iret (C : x_C p e R s m args meth c D cA (x_A g0 n0 s.heap.size) cc own nL) {v : Int32} {ty : FieldType} (hr : meth.sig.returnType = some ty) (hn : narrow ty (.int v) = .int v) (hc : cells ≤ mc) (hs : slots ≤ ms) (hd : decode cc pc = .ok (.ireturn, 1)) : x_V p l e R s m args below meth c D cA (x_A g0 n0 s.heap.size) nL g0 n0 (x_MQ D cA g0 n0 below s mc ms (.inl (some (xI v))) st) pc L [xI v] st cells slots := by
  intro g H locs ls hW hg hS hl hL hK
  refine W.widen hc hs (x_post (x_end (args := args) hW hg hS (fun w hw => by cases hw; trivial)) ?_)
  exact W.zret C.1 C.2.1 hr hn (fun t ht _ => ⟨rfl, ht⟩) hS.2.2 hd (hlocks := C.2.2.2.2.2.2.1)
theorem x_lret (C : x_C p e R s m args meth c D cA (x_A g0 n0 s.heap.size) cc own nL) {v : Int64} (hr : meth.sig.returnType = some .long) (hc : cells ≤ mc) (hs : slots ≤ ms) (hd : decode cc pc = .ok (.lreturn, 1)) : x_V p l e R s m args below meth c D cA (x_A g0 n0 s.heap.size) nL g0 n0 (x_MQ D cA g0 n0 below s mc ms (.inl (some (xL v))) st) pc L [xL v] st cells slots := by
  intro g H locs ls hW hg hS hl hL hK
  refine W.widen hc hs (x_post (x_end (args := args) hW hg hS (fun w hw => by cases hw; trivial)) ?_)
  exact W.lret C.1 C.2.1 hr (fun t ht _ => ⟨rfl, ht⟩) hS.2.2 hd (hlocks := C.2.2.2.2.2.2.1)
theorem x_vret (C : x_C p e R s m args meth c D cA (x_A g0 n0 s.heap.size) cc own nL) (hr : meth.sig.returnType = none) (hc : cells ≤ mc) (hs : slots ≤ ms) (hd : decode cc pc = .ok (.return_, 1)) : x_V p l e R s m args below meth c D cA (x_A g0 n0 s.heap.size) nL g0 n0 (x_MQ D cA g0 n0 below s mc ms (.inl none) st) pc L [] st cells slots := by
  intro g H locs ls hW hg hS hl hL hK
  refine W.widen hc hs (x_post (x_end (args := args) hW hg hS (fun w hw => by cases hw)) ?_)
  exact W.vret C.1 C.2.1 hr (fun t ht _ => ⟨rfl, ht⟩) hS.2.2 hd (hlocks := C.2.2.2.2.2.2.1)
theorem x_aret (C : x_C p e R s m args meth c D cA (x_A g0 n0 s.heap.size) cc own nL) {q : Nat} {v : Option Nat} {rt : FieldType} (hr : meth.sig.returnType = some rt) (hrt : (∃ n, rt = .object n) ∨ ∃ t, rt = .array t) (hc : cells ≤ mc) (hs : slots ≤ ms) (hd : decode cc pc = .ok (.areturn, 1)) : x_V p l e R s m args below meth c D cA (x_A g0 n0 s.heap.size) nL g0 n0 (x_MQ D cA g0 n0 below s mc ms (.inl (some (xR q v))) st) pc L [xR q v] st cells slots := by
  intro g H locs ls hW hg hS hl hL hK
  refine W.widen hc hs (x_post (x_end (args := args) hW hg hS (fun w hw => by cases hw; exact xok_hd hK)) ?_)
  exact W.aret (v := xrf g q v) C.1 C.2.1 hr hrt (by cases v; exact Or.inl rfl; exact Or.inr ⟨_, rfl⟩) (fun t ht _ => ⟨rfl, ht⟩) hS.2.2 hd (hlocks := C.2.2.2.2.2.2.1)
end XC
end
section
/-! CALLS: the callee's contract, walked into and out of -/
/-- the words say that M is the method y -/
def x_CW (y : MethodName) (M : XM) : Prop := M.1 = y.cls ∧ M.2.2.2.2.2 = y.name ∧ ((M.2.2.2.2.1 = [] ∧ Cond.code y M.2.1 M.2.2.1 M.2.2.2.1 ∈ x_tb) ∨ Cond.codeWith y M.2.1 M.2.2.1 M.2.2.2.1 M.2.2.2.2.1 ∈ x_tb)
theorem x_cw {y : MethodName} {M : XM} {args : Array Value} {s : State} {mk : MethodId} (h : x_CW y M) (hts : ∀ w ∈ x_tb, w.before args s = true) (hn : s.methodNamed? y = some mk) : ∃ methM ck, s.vm.method? mk = some methM ∧ methM.code = some ck ∧ ck.code = M.2.1 ∧ ck.maxLocals = M.2.2.1 ∧ methM.sig.returnType = M.2.2.2.1 ∧ methM.locks = false ∧ ck.exceptionTable.toList.map (fun h => (h.startPc, h.endPc, h.handlerPc, h.catchType)) = M.2.2.2.2.1 ∧ parseMethodDescriptor y.desc = some methM.sig := by
  rcases h.2.2 with ⟨h0, h1⟩ | h1
  · obtain ⟨meth, c, q1, q2, q3, q4, q5, q6, q7, q8⟩ := Cond.code_spec hn (hts _ h1)
    refine ⟨meth, c, q1, q2, q3, q4, q5, q6, ?_, q8⟩
    rw [h0]
    have : c.exceptionTable = #[] := by simpa using q7
    rw [this]; rfl
  · obtain ⟨m9, meth, c, hn9, q1, q2, q3, q4, q5, q6, q7, q8⟩ := Cond.codeWith_spec (hts _ h1)
    cases hn.symm.trans hn9
    exact ⟨meth, c, q1, q2, q3, q4, q6, q7, q5, q8⟩
theorem x_good {w : Cond} (h : w ∈ x_tb) : (w.onTables && w.keeps) = true ∨ ∃ ty, w = .arrayClass ty := good_of_word (List.mem_filter.mp h).2
theorem x_E.trans {g0 g g' : Nat → Nat → Nat} {n0 n n' : Nat → Nat} (h : x_E g0 n0 g n) (h' : x_E g n g' n') : x_E g0 n0 g' n' := ⟨fun q i hi => (h'.1 q i (Nat.lt_of_lt_of_le hi (h.2 q))).trans (h.1 q i hi), fun q => Nat.le_trans (h.2 q) (h'.2 q)⟩
theorem xv_E {g g' : Nat → Nat → Nat} {n n' : Nat → Nat} {v : XV} (h : x_E g n g' n') (hv : xok n v) : xv g' v = xv g v := by
  rcases v with x | y | ⟨r, _ | i⟩ | b
  · rfl
  · rfl
  · rfl
  · show Value.ref (g' r i) = Value.ref (g r i)
    rw [h.1 r i hv]
  · rfl
theorem x_mapL2 {g g' : Nat → Nat → Nat} {n n' : Nat → Nat} {L : List (Nat × XV)} (h : x_E g n g' n') (hL : ∀ z ∈ L, xok n z.2) : (L.map fun z => (z.1, xv g' z.2)) = L.map fun z => (z.1, xv g z.2) := List.map_congr_left fun z hz => by rw [xv_E h (hL z hz)]
theorem x_mapK2 {g g' : Nat → Nat → Nat} {n n' : Nat → Nat} {K : List XV} (h : x_E g n g' n') (hK : ∀ v ∈ K, xok n v) : K.map (xv g') = K.map (xv g) := List.map_congr_left fun v hv => xv_E h (hK v hv)
theorem x_W.weak {D : va_G} {cA : Nat → ClassId} {A B : Nat → Prop} {g : Nat → Nat → Nat} {st : XS} {H : Heap} (h : x_W D cA A g st H) (hAB : ∀ a, A a → B a) : x_W D cA B g st H := ⟨fun q i hi => ⟨(h.1 q i hi).1, hAB _ (h.1 q i hi).2⟩, h.2⟩
section XD
variable {p : Program} {l : Launch} {e : Env} {R : Room} {s : State} {m : MethodId} {args : Array Value} {below : List Frame} {meth : Method} {c : Code} {D : va_G} {cA : Nat → ClassId} {A : Nat → Prop} {nL : Nat} {g0 : Nat → Nat → Nat} {n0 : Nat → Nat} {Q : State → Prop} {cc : ByteArray} {own : String} {pc : Nat} {L : List (Nat × XV)} {K : List XV} {st : XS} {cells slots : Nat} {H : Heap} {locs : List Loc} {ls : Array Slot} {rest : List Value} {g : Nat → Nat → Nat} {mc ms : Nat}
theorem x_core (C : x_C p e R s m args meth c D cA A cc own nL) {M : XM} {RY : Room} {aL : List XV} {st' : XS} {r : XR} {y : MethodName} (hM : x_M l M RY aL st r st' mc ms) (hy : x_CW y M) (hpl : plainFor y = true) (hfr : RY.frames + 1 ≤ R.frames) (hlo : 8 + (M.2.2.1 + 11) + RY.locals ≤ R.locals) (hcl : cells + RY.cells ≤ R.cells) (hsl : slots + RY.slots ≤ R.slots)
    (hW : x_W D cA A g st H) (hS : va_S A s.heap H locs) (hv : ∀ v ∈ aL, xok st.2.2.2 v) {gf : JFrame} (hgm : gf.method = m) (hsz : gf.locals.size = nL) {ig : Instr} {len : Nat} (hdg : decode cc gf.pc = .ok (ig, len)) (hst : 2 * gf.monitorRoom + (gf.stack.map fun v => v.category).sum ≤ 8)
    {T1 : State} (hT : T1.heap = H) (X : Stand p l e R s m args below meth c T1 locs cells slots) {mk : MethodId} (hn : s.methodNamed? y = some mk) :
    ∃ (t T2 : State) (Lc : List Loc) (g2 : Nat → Nat → Nat), Stand p l e R s m args below meth c T2 (locs ++ Lc) (cells + mc) (slots + ms) ∧ va_S A s.heap T2.heap (locs ++ Lc) ∧ x_E g st.2.2.2 g2 st'.2.2.2 ∧ x_W D cA A g2 st' T2.heap ∧ Steps p.tables e below (doInvoke e (T1.setTop gf) [] mk (aL.map (xv g)).toArray).1 t ∧
      (match r with
        | .inl v => t = T2.setTop { gf with pc := gf.pc + len, stack := (v.map (xv g2)).toList ++ gf.stack } ∧ ∀ w, v = some w → xok st'.2.2.2 w
        | .inr E => ∃ a, t = (T2.setTop gf).pushFrame (.throwing a) ∧ x_Ex E a T2) := by
  obtain ⟨hx, hb, hml, hown, hts, hKx, hlk, hA, hTh⟩ := C
  subst hT
  have hdg' : decode c.code gf.pc = .ok (ig, len) := by rw [hb]; exact hdg
  have hts1 : ∀ (a : Array Value) (w : Cond), w ∈ x_tb → w.before a T1 = true := fun a w hw => word_at X.warmed (x_good hw) (hts w hw)
  have hn1 := X.named hn
  obtain ⟨methM, ck, k1, k2, k3, k4, k5, k6, k7, k8⟩ := x_cw hy (hts1 #[]) hn1
  obtain ⟨Y, hin⟩ := X.into hgm (hsz.trans hml.symm) hdg' (aL.map (xv g)).toArray (R' := RY) k1 k2 k6 (State.plainMethod.of_named hpl hn1 k1) hfr (by rw [k4]; omega) hcl hsl
  have hAA : ∀ a, a < T1.heap.size → x_A g st.2.2.2 T1.heap.size a → A a := fun a ha h => by
    rcases h with ⟨q, i, hi, rfl⟩ | h
    · exact (hW.1 q i hi).2
    · omega
  have hAA2 : ∀ a, x_A g st.2.2.2 T1.heap.size a → A a := fun a h => by
    rcases h with ⟨q, i, hi, rfl⟩ | h
    · exact (hW.1 q i hi).2
    · exact hA a (Nat.le_trans hS.1 h)
  have B : x_B M p (T1.calling gf mk (aL.map (xv g)).toArray) mk (aL.map (xv g)).toArray methM ck D cA g st := by
    refine ⟨hx, k3, k4, ?_, fun w hw => word_at (U := T1.calling gf mk (aL.map (xv g)).toArray) X.warmed (x_good hw) (hts w hw), hKx.moved (U := T1.calling gf mk (aL.map (xv g)).toArray) X.warmed, k6, ?_, k5, k7, ?_, ⟨fun q i hi => ⟨(hW.1 q i hi).1, Or.inl ⟨q, i, hi, rfl⟩⟩, hW.2⟩⟩
    · rw [hy.1]; exact findClass_of_methodNamed hn1
    · rw [hy.2.1]; exact (name_of_methodNamed hn1 k1).1
    · exact ((hTh.moved (U := T1.calling gf mk (aL.map (xv g)).toArray) X.warmed).kept (fun a h1 h2 => hS.2.1 a h1 h2)).narrow hAA
  obtain ⟨t, hsteps, o, Lc, g2, h1, h2, h3, h4, h5, h6, h7, h8, h9⟩ := hM p e (T1.calling gf mk (aL.map (xv g)).toArray) mk (.java gf :: below) methM ck D cA g B hv ((T1.setTop gf).pushFrame (.java (entryFrame mk (aL.map (xv g)).toArray ck.maxLocals))) rfl Y
  rw [← k4, ← hin []] at hsteps
  have hsteps2 := x_weak (fun x h => by cases h) hsteps
  have fin : ∀ T2 : State, T2.heap = t.heap → va_S A s.heap T2.heap (locs ++ Lc) ∧ x_W D cA A g2 st' T2.heap := by
    intro T2 e2
    rw [e2]
    have hz : T1.heap.size ≤ t.heap.size := h6.1
    refine ⟨⟨Nat.le_trans hS.1 hz, fun a ha hna => ?_, fun q hq => ?_⟩, h8.weak hAA2⟩
    · have hlt := Nat.lt_of_lt_of_le ha hS.1
      exact (h6.2 a hlt (fun z => hna (hAA a hlt z))).trans (hS.2.1 a ha hna)
    · rcases List.mem_append.mp hq with h | h
      · exact hS.2.2 q h
      · exact hAA2 _ (h5 q h)
  cases r with
  | inl v =>
    obtain ⟨ho, hok⟩ := h9
    subst ho
    obtain ⟨T2, X2, -, -, ht⟩ := X.outOf hgm hdg' h2 h3 h4
    have e2 : T2.heap = t.heap := by rw [ht]; simp [State.setTop, State.modifyTopJava, State.setFrames]
    obtain ⟨f1, f2⟩ := fin T2 e2
    exact ⟨t, T2, Lc, g2, X2, f1, h7, f2, hsteps2, ht, hok⟩
  | inr E =>
    obtain ⟨a, ho, cell, c1, c2, c3⟩ := h9
    subst ho
    obtain ⟨T2, X2, -, -, ht⟩ := X.outOfThrown hgm h2 h3 h4
    have e2 : T2.heap = t.heap := by rw [ht]; exact (throwing_heap T2 gf a).symm
    have e3 : T2.vm = t.vm := by rw [ht]; exact (throwing_vm T2 gf a).symm
    obtain ⟨f1, f2⟩ := fin T2 e2
    exact ⟨t, T2, Lc, g2, X2, f1, h7, f2, hsteps2, a, ht, cell, by rw [e2]; exact c1, c2, by rw [e3]; exact c3⟩
end XD
end
section
/-! CALLS, the rows -/
/-- an E is being thrown at pc -/
def x_VT (p : Program) (l : Launch) (e : Env) (R : Room) (s : State) (m : MethodId) (args : Array Value) (below : List Frame) (meth : Method) (c : Code) (D : va_G) (cA : Nat → ClassId) (A : Nat → Prop) (nL : Nat) (g0 : Nat → Nat → Nat) (n0 : Nat → Nat) (Q : State → Prop) (E : String) (pc : Nat) (L : List (Nat × XV)) (K : List XV) (st : XS) (cells slots : Nat) : Prop :=
  ∀ (g : Nat → Nat → Nat) (H : Heap) (locs : List Loc) (ls : Array Slot) (a : Nat), x_W D cA A g st H → x_E g0 n0 g st.2.2.2 → va_S A s.heap H locs → lv_has ls nL (L.map fun z => (z.1, xv g z.2)) → (∀ z ∈ L, xok st.2.2.2 z.2) → (∀ v ∈ K, xok st.2.2.2 v) → ∀ T : State, T.heap = H → Stand p l e R s m args below meth c T locs cells slots → x_Ex E a T → ∃ t, Steps p.tables e below ((T.setTop (F0 m pc ls (K.map (xv g)))).pushFrame (.throwing a)) t ∧ Q t
theorem x_sum (g : Nat → Nat → Nat) (K : List XV) : ((K.map (xv g)).map fun v => v.category).sum = (K.map xcat).sum := by
  rw [List.map_map]; congr 1; exact List.map_congr_left fun v _ => xcat_v g v
section XH
variable {p : Program} {l : Launch} {e : Env} {R : Room} {s : State} {m : MethodId} {args : Array Value} {below : List Frame} {meth : Method} {c : Code} {D : va_G} {cA : Nat → ClassId} {A : Nat → Prop} {nL : Nat} {g0 : Nat → Nat → Nat} {n0 : Nat → Nat} {Q : State → Prop} {cc : ByteArray} {own : String} {pc : Nat} {L : List (Nat × XV)} {K S : List XV} {st st' : XS} {cells slots : Nat} {H : Heap} {locs : List Loc} {ls : Array Slot} {rest : List Value} {g : Nat → Nat → Nat} {mc ms : Nat}
/-- the step into the call -/
abbrev x_Go (p : Program) (l : Launch) (e : Env) (R : Room) (s : State) (m : MethodId) (args : Array Value) (below : List Frame) (meth : Method) (c : Code) (pc : Nat) (H : Heap) (locs : List Loc) (ls : Array Slot) (cells slots : Nat) (y : MethodName) (st0 st1 : List Value) (av : Array Value) : Prop :=
  ∀ T : State, T.heap = H → Stand p l e R s m args below meth c T locs cells slots → ∃ (vm₁ : Vm) (mk : MethodId), s.methodNamed? y = some mk ∧ Stand p l e R s m args below meth c (T.setVm vm₁) locs cells slots ∧ ∀ target, (∀ acts, Steps p.tables e below (doInvoke e ((T.setVm vm₁).setTop (F0 m pc ls st1)) acts mk av).1 target) → Steps p.tables e below (T.setTop (F0 m pc ls st0)) target
theorem x_retW (C : x_C p e R s m args meth c D cA A cc own nL) {M : XM} {RY : Room} {aL : List XV} {v : Option XV} {y : MethodName} (hM : x_M l M RY aL st (.inl v) st' mc ms) (hy : x_CW y M) (hpl : plainFor y = true) (hfr : RY.frames + 1 ≤ R.frames) (hlo : 8 + (M.2.2.1 + 11) + RY.locals ≤ R.locals) (hcl : cells + RY.cells ≤ R.cells) (hsl : slots + RY.slots ≤ R.slots)
    (hW : x_W D cA A g st H) (hg : x_E g0 n0 g st.2.2.2) (hS : va_S A s.heap H locs) (hl : lv_has ls nL (L.map fun z => (z.1, xv g z.2))) (hL : ∀ z ∈ L, xok st.2.2.2 z.2) (hK : ∀ v ∈ K, xok st.2.2.2 v) (hv : ∀ v ∈ aL, xok st.2.2.2 v) (hsum : (K.map xcat).sum ≤ 8) {ig : Instr} (hdg : decode cc pc = .ok (ig, 3)) {st0 : List Value} (hgo : x_Go p l e R s m args below meth c pc H locs ls cells slots y st0 (K.map (xv g)) (aL.map (xv g)).toArray)
    (kk : x_V p l e R s m args below meth c D cA A nL g0 n0 Q (pc + 3) L (v.toList ++ K) st' (cells + mc) (slots + ms)) : W p l e R s m args below meth c H locs cells slots Q (F0 m pc ls st0) := by
  intro T hT X
  obtain ⟨vm₁, mk, hn, X₁, hstep⟩ := hgo T hT X
  obtain ⟨t, T2, Lc, g2, X2, f1, f2, f3, st1, ht, hok⟩ := x_core C hM hy hpl hfr hlo hcl hsl hW hS hv (gf := F0 m pc ls (K.map (xv g))) rfl hl.1 hdg (by show 2 * 0 + _ ≤ 8; rw [x_sum]; omega) (T1 := T.setVm vm₁) hT X₁ hn
  obtain ⟨t3, a1, b1⟩ := kk g2 T2.heap (locs ++ Lc) ls f3 (hg.trans f2) f1 (by rw [x_mapL2 f2 hL]; exact hl) (fun z hz => xok_le f2.2 (hL z hz)) (fun w hw => by
    rcases List.mem_append.mp hw with h | h
    · exact hok w (Option.mem_toList.mp h)
    · exact xok_le f2.2 (hK w h)) T2 rfl X2
  refine ⟨t3, hstep t3 (fun acts => ?_), b1⟩
  rw [doInvoke_state]
  refine st1.trans ?_
  rw [ht]
  have e1 : (v.toList ++ K).map (xv g2) = (v.map (xv g2)).toList ++ K.map (xv g) := by
    rw [List.map_append, x_mapK2 f2 hK]; cases v <;> rfl
  rw [e1] at a1
  exact a1
theorem x_thrW (C : x_C p e R s m args meth c D cA A cc own nL) {M : XM} {RY : Room} {aL : List XV} {E : String} {y : MethodName} (hM : x_M l M RY aL st (.inr E) st' mc ms) (hy : x_CW y M) (hpl : plainFor y = true) (hfr : RY.frames + 1 ≤ R.frames) (hlo : 8 + (M.2.2.1 + 11) + RY.locals ≤ R.locals) (hcl : cells + RY.cells ≤ R.cells) (hsl : slots + RY.slots ≤ R.slots)
    (hW : x_W D cA A g st H) (hg : x_E g0 n0 g st.2.2.2) (hS : va_S A s.heap H locs) (hl : lv_has ls nL (L.map fun z => (z.1, xv g z.2))) (hL : ∀ z ∈ L, xok st.2.2.2 z.2) (hK : ∀ v ∈ K, xok st.2.2.2 v) (hv : ∀ v ∈ aL, xok st.2.2.2 v) (hsum : (K.map xcat).sum ≤ 8) {ig : Instr} (hdg : decode cc pc = .ok (ig, 3)) {st0 : List Value} (hgo : x_Go p l e R s m args below meth c pc H locs ls cells slots y st0 (K.map (xv g)) (aL.map (xv g)).toArray)
    (kk : x_VT p l e R s m args below meth c D cA A nL g0 n0 Q E pc L K st' (cells + mc) (slots + ms)) : W p l e R s m args below meth c H locs cells slots Q (F0 m pc ls st0) := by
  intro T hT X
  obtain ⟨vm₁, mk, hn, X₁, hstep⟩ := hgo T hT X
  obtain ⟨t, T2, Lc, g2, X2, f1, f2, f3, st1, a, ht, hex⟩ := x_core C hM hy hpl hfr hlo hcl hsl hW hS hv (gf := F0 m pc ls (K.map (xv g))) rfl hl.1 hdg (by show 2 * 0 + _ ≤ 8; rw [x_sum]; omega) (T1 := T.setVm vm₁) hT X₁ hn
  obtain ⟨t3, a1, b1⟩ := kk g2 T2.heap (locs ++ Lc) ls a f3 (hg.trans f2) f1 (by rw [x_mapL2 f2 hL]; exact hl) (fun z hz => xok_le f2.2 (hL z hz)) (fun w hw => xok_le f2.2 (hK w hw)) T2 rfl X2 hex
  refine ⟨t3, hstep t3 (fun acts => ?_), b1⟩
  rw [doInvoke_state]
  refine st1.trans ?_
  rw [ht]
  rw [x_mapK2 f2 hK] at a1
  exact a1
theorem x_goS (C : x_C p e R s m args meth c D cA A cc own nL) {M : XM} {y : MethodName} {index : Nat} {av st1 : List Value} (hy : x_CW y M) (hlk : Cond.methodLink own index y ∈ x_tb) (hst : Cond.static y ∈ x_tb) (hin : Cond.initialized y.cls ∈ x_tb) (hmh : y.cls ≠ "java/lang/invoke/MethodHandle" ∧ y.cls ≠ "java/lang/invoke/VarHandle") (hlen : (parseMethodDescriptor y.desc).map (fun d => d.parameters.length) = some av.length) (hd : decode cc pc = .ok (.invokestatic index, 3)) : x_Go p l e R s m args below meth c pc H locs ls cells slots y (av.reverse ++ st1) st1 av.toArray := by
  intro T hT X
  obtain ⟨hx, hb, hml, hown, hts, hKx, -⟩ := C
  obtain ⟨mk, hn⟩ : ∃ mk, s.methodNamed? y = some mk := by
    rcases hy.2.2 with ⟨-, h⟩ | h
    · exact Cond.code_named (hts _ h)
    · obtain ⟨m9, _, _, hn9, -⟩ := Cond.codeWith_spec (hts _ h)
      exact ⟨m9, hn9⟩
  obtain ⟨methM, ck, k1, k2, k3, k4, k5, k6, k7, k8⟩ := x_cw hy hts hn
  have hstatic : methM.isStatic = true := Cond.static_spec hn k1 (hts _ hst)
  obtain ⟨kP, hkP, -⟩ := className_of_methodNamed hn
  have hinitP : kP.init = .initialized := Cond.initialized_spec (findClass_of_methodNamed hn) hkP (hts _ hin)
  have hl2 : av.length = methM.sig.parameters.length := by rw [k8] at hlen; exact (Option.some.inj hlen).symm
  obtain ⟨vm₁, X₁, hstep₁⟩ := X.invokestatic hx hown (hts _ hlk) hn k1 hstatic hkP hinitP hmh (g := F0 m pc ls (av.reverse ++ st1)) rfl (argsL := av) (rest := st1) hl2 rfl (by rw [hb]; exact hd)
  exact ⟨vm₁, mk, hn, X₁, hstep₁⟩
theorem x_goV (C : x_C p e R s m args meth c D cA A cc own nL) {M : XM} {y : MethodName} {index q i ci : Nat} {rw_ : vw_C} {av st1 : List Value} (hy : x_CW y M) (hlk : Cond.methodLink own index y ∈ x_tb) (hst : Cond.instanceMethod y ∈ x_tb) (hc : xk_c q = some ci) (hr : xk_cl[ci]? = some rw_) (hsel : Cond.selects rw_.1 y y ∈ x_tb) (hmh : y.cls ≠ "java/lang/invoke/MethodHandle" ∧ y.cls ≠ "java/lang/invoke/VarHandle") (hlen : (parseMethodDescriptor y.desc).map (fun d => d.parameters.length) = some av.length) (hW : x_W D cA A g st H) (hi : i < st.2.2.2 q) (hd : decode cc pc = .ok (.invokevirtual index, 3)) : x_Go p l e R s m args below meth c pc H locs ls cells slots y (av.reverse ++ .ref (g q i) :: st1) st1 (.ref (g q i) :: av).toArray := by
  intro T hT X
  obtain ⟨hx, hb, hml, hown, hts, hKx, -⟩ := C
  obtain ⟨mk, methM, hn, k0, hstM, habM⟩ := Cond.instanceMethod_spec (hts _ hst)
  obtain ⟨methM', ck, k1, k2, k3, k4, k5, k6, k7, k8⟩ := x_cw hy hts hn
  cases k0.symm.trans k1
  have he := (hW.1 q i hi).1
  rw [xent_obj hc] at he
  obtain ⟨r2, h1, cell, q1, q2, q3, q4⟩ := he
  cases hr.symm.trans h1
  have hcls : s.vm.findClass rw_.1 = some cell.cls := by rw [q2]; exact (hKx.1 ci _ hr).2.1
  obtain ⟨c2, r3, m2, z1, z2, z3, z4, kP, hkP, hkPi⟩ := Cond.selects_spec (hts _ hsel)
  cases hcls.symm.trans z1
  cases (State.methodFound?_of_named hn hmh).symm.trans z2
  cases hn.symm.trans z3
  have hselP : selectMethod e.platform s.vm cell.cls mk = .method mk := by rw [Launch.admits_selectMethod X.admits]; exact z4
  have hl2 : av.length = methM.sig.parameters.length := by rw [k8] at hlen; exact (Option.some.inj hlen).symm
  obtain ⟨vm₁, X₁, hstep₁⟩ := X.invokevirtual hx hown (hts _ hlk) hn k1 hstM hkP hkPi hmh (a := g q i) (cell := cell) (by rw [hT]; exact q1) (fun z h => by rw [q3] at h; cases h) hselP k1 habM hkP hkPi (g := F0 m pc ls (av.reverse ++ .ref (g q i) :: st1)) rfl (argsL := av) (rest := st1) hl2 rfl (by rw [hb]; exact hd)
  exact ⟨vm₁, mk, hn, X₁, hstep₁⟩
theorem x_goI (C : x_C p e R s m args meth c D cA A cc own nL) {M : XM} {y : MethodName} {index a : Nat} {av st1 : List Value} (hy : x_CW y M) (hh : M.2.2.2.2.1 = []) (hret : M.2.2.2.1 = none) (hcode : Cond.code y M.2.1 M.2.2.1 none ∈ x_tb) (hnm : y.name = "<init>") (hlk : Cond.methodLink own index y ∈ x_tb ∨ ∃ host, Cond.methodLinkNest own index y host ∈ xk_nest) (hst : Cond.instanceMethod y ∈ x_tb) (hmh : y.cls ≠ "java/lang/invoke/MethodHandle" ∧ y.cls ≠ "java/lang/invoke/VarHandle") (hlen : (parseMethodDescriptor y.desc).map (fun d => d.parameters.length) = some av.length) (hd : decode cc pc = .ok (.invokespecial index, 3)) : x_Go p l e R s m args below meth c pc H locs ls cells slots y (av.reverse ++ .ref a :: st1) st1 (.ref a :: av).toArray := by
  intro T hT X
  obtain ⟨hx, hb, hml, hown, hts, hKx, -⟩ := C
  have hpl : e.platform.magicAccessors = ({} : Platform).magicAccessors := by rw [X.admits.platform]
  have hl2 : ∀ sig, parseMethodDescriptor y.desc = some sig → av.length = sig.parameters.length := fun sig h => by rw [h] at hlen; exact (Option.some.inj hlen).symm
  rcases hlk with h | ⟨host, h⟩
  · obtain ⟨mk, methM, cM, kP, vm₁, hnamed, hmethM, hcodeM, -, hlocalsM, -, hkP, -, hW₁, hstep₁⟩ := Steps.initColdArgs (e := e) X.here hx X.warmed hpl hown hnm hmh (hts _ h) (hts _ hst) (hts _ hcode) (f := F0 m pc ls (av.reverse ++ .ref a :: st1)) rfl hl2 rfl (by rw [hb]; exact hd)
    exact ⟨vm₁, mk, hnamed, X.noted hW₁, hstep₁⟩
  · obtain ⟨mk, methM, cM, kP, vm₁, hnamed, hmethM, hcodeM, -, hlocalsM, -, hkP, -, hW₁, hstep₁⟩ := Steps.initColdArgsNest (e := e) X.here hx X.warmed hpl hown hnm hmh (va_Nw.use rfl (hKx.2.2 _ h)) (hts _ hst) (hts _ hcode) (f := F0 m pc ls (av.reverse ++ .ref a :: st1)) rfl hl2 rfl (by rw [hb]; exact hd)
    exact ⟨vm₁, mk, hnamed, X.noted hW₁, hstep₁⟩
end XH
end
section
/-! CALLS over pools, thrown exceptions -/
/-- what the tables say of a static call -/
def x_SS (own : String) (index : Nat) (y : MethodName) (M : XM) (n : Nat) : Prop := x_CW y M ∧ plainFor y = true ∧ Cond.methodLink own index y ∈ x_tb ∧ Cond.static y ∈ x_tb ∧ Cond.initialized y.cls ∈ x_tb ∧ (y.cls ≠ "java/lang/invoke/MethodHandle" ∧ y.cls ≠ "java/lang/invoke/VarHandle") ∧ (parseMethodDescriptor y.desc).map (fun d => d.parameters.length) = some n
/-- .. of a virtual one, on an object of the pool q -/
def x_SV (own : String) (index : Nat) (y : MethodName) (M : XM) (q n : Nat) : Prop := x_CW y M ∧ plainFor y = true ∧ Cond.methodLink own index y ∈ x_tb ∧ Cond.instanceMethod y ∈ x_tb ∧ (∃ ci r, xk_c q = some ci ∧ xk_cl[ci]? = some r ∧ Cond.selects r.1 y y ∈ x_tb) ∧ (y.cls ≠ "java/lang/invoke/MethodHandle" ∧ y.cls ≠ "java/lang/invoke/VarHandle") ∧ (parseMethodDescriptor y.desc).map (fun d => d.parameters.length) = some n
/-- .. of a constructor's -/
def x_SI (own : String) (index : Nat) (y : MethodName) (M : XM) (n : Nat) : Prop := x_CW y M ∧ plainFor y = true ∧ (M.2.2.2.2.1 = [] ∧ M.2.2.2.1 = none ∧ Cond.code y M.2.1 M.2.2.1 none ∈ x_tb ∧ y.name = "<init>") ∧ (Cond.methodLink own index y ∈ x_tb ∨ ∃ host, Cond.methodLinkNest own index y host ∈ xk_nest) ∧ Cond.instanceMethod y ∈ x_tb ∧ (y.cls ≠ "java/lang/invoke/MethodHandle" ∧ y.cls ≠ "java/lang/invoke/VarHandle") ∧ (parseMethodDescriptor y.desc).map (fun d => d.parameters.length) = some n
/-- the callee's room is in the caller's -/
abbrev x_RM (R RY : Room) (n cells slots : Nat) : Prop := RY.frames + 1 ≤ R.frames ∧ 8 + (n + 11) + RY.locals ≤ R.locals ∧ cells + RY.cells ≤ R.cells ∧ slots + RY.slots ≤ R.slots
theorem x_okA {cnt : Nat → Nat} {aL K : List XV} (h : ∀ v ∈ aL.reverse ++ K, xok cnt v) : (∀ v ∈ aL, xok cnt v) ∧ ∀ v ∈ K, xok cnt v := ⟨fun v hv => h v (List.mem_append_left _ (List.mem_reverse.mpr hv)), fun v hv => h v (List.mem_append_right _ hv)⟩
section XI
variable {p : Program} {l : Launch} {e : Env} {R : Room} {s : State} {m : MethodId} {args : Array Value} {below : List Frame} {meth : Method} {c : Code} {D : va_G} {cA : Nat → ClassId} {A : Nat → Prop} {nL : Nat} {g0 : Nat → Nat → Nat} {n0 : Nat → Nat} {Q : State → Prop} {cc : ByteArray} {own : String} {pc : Nat} {L : List (Nat × XV)} {K S : List XV} {st st' : XS} {cells slots : Nat} {H : Heap} {locs : List Loc} {ls : Array Slot} {rest : List Value} {g : Nat → Nat → Nat} {mc ms : Nat}
theorem x_callS (C : x_C p e R s m args meth c D cA A cc own nL) {M : XM} {RY : Room} {aL : List XV} {v : Option XV} {y : MethodName} {index : Nat} (hs : x_SS own index y M aL.length) (hM : x_M l M RY (aL) st (.inl v) st' mc ms) (hr : x_RM R RY M.2.2.1 cells slots) (hS0 : S = aL.reverse ++ K) (hsum : (K.map xcat).sum ≤ 8) (hd : decode cc pc = .ok (.invokestatic index, 3)) (kk : x_V p l e R s m args below meth c D cA A nL g0 n0 Q (pc + 3) L (v.toList ++ K) st' (cells + mc) (slots + ms)) : x_V p l e R s m args below meth c D cA A nL g0 n0 Q pc L S st cells slots := by
  intro g H locs ls hW hg hS hl hL hK
  subst hS0
  obtain ⟨h1, h2⟩ := x_okA hK
  have hgo := x_goS (p := p) (l := l) (e := e) (R := R) (below := below) (H := H) (locs := locs) (ls := ls) (cells := cells) (slots := slots) (av := aL.map (xv g)) (st1 := K.map (xv g)) C hs.1 hs.2.2.1 hs.2.2.2.1 hs.2.2.2.2.1 hs.2.2.2.2.2.1 (by rw [List.length_map]; exact hs.2.2.2.2.2.2) hd
  have e1 : (aL.reverse ++ K).map (xv g) = (aL.map (xv g)).reverse ++ K.map (xv g) := by rw [List.map_append, List.map_reverse]
  rw [e1]
  exact x_retW C hM hs.1 hs.2.1 hr.1 hr.2.1 hr.2.2.1 hr.2.2.2 hW hg hS hl hL h2 h1 hsum hd hgo kk
theorem x_callSt (C : x_C p e R s m args meth c D cA A cc own nL) {M : XM} {RY : Room} {aL : List XV} {E : String} {y : MethodName} {index : Nat} (hs : x_SS own index y M aL.length) (hM : x_M l M RY (aL) st (.inr E) st' mc ms) (hr : x_RM R RY M.2.2.1 cells slots) (hS0 : S = aL.reverse ++ K) (hsum : (K.map xcat).sum ≤ 8) (hd : decode cc pc = .ok (.invokestatic index, 3)) (kk : x_VT p l e R s m args below meth c D cA A nL g0 n0 Q E pc L K st' (cells + mc) (slots + ms)) : x_V p l e R s m args below meth c D cA A nL g0 n0 Q pc L S st cells slots := by
  intro g H locs ls hW hg hS hl hL hK
  subst hS0
  obtain ⟨h1, h2⟩ := x_okA hK
  have hgo := x_goS (p := p) (l := l) (e := e) (R := R) (below := below) (H := H) (locs := locs) (ls := ls) (cells := cells) (slots := slots) (av := aL.map (xv g)) (st1 := K.map (xv g)) C hs.1 hs.2.2.1 hs.2.2.2.1 hs.2.2.2.2.1 hs.2.2.2.2.2.1 (by rw [List.length_map]; exact hs.2.2.2.2.2.2) hd
  have e1 : (aL.reverse ++ K).map (xv g) = (aL.map (xv g)).reverse ++ K.map (xv g) := by rw [List.map_append, List.map_reverse]
  rw [e1]
  exact x_thrW C hM hs.1 hs.2.1 hr.1 hr.2.1 hr.2.2.1 hr.2.2.2 hW hg hS hl hL h2 h1 hsum hd hgo kk
theorem x_callV (C : x_C p e R s m args meth c D cA A cc own nL) {M : XM} {RY : Room} {bL : List XV} {q i : Nat} {v : Option XV} {y : MethodName} {index : Nat} (hs : x_SV own index y M q bL.length) (hM : x_M l M RY (xR q (some i) :: bL) st (.inl v) st' mc ms) (hr : x_RM R RY M.2.2.1 cells slots) (hS0 : S = bL.reverse ++ xR q (some i) :: K) (hsum : (K.map xcat).sum ≤ 8) (hd : decode cc pc = .ok (.invokevirtual index, 3)) (kk : x_V p l e R s m args below meth c D cA A nL g0 n0 Q (pc + 3) L (v.toList ++ K) st' (cells + mc) (slots + ms)) : x_V p l e R s m args below meth c D cA A nL g0 n0 Q pc L S st cells slots := by
  intro g H locs ls hW hg hS hl hL hK
  subst hS0
  obtain ⟨h1, h2⟩ := x_okA hK
  obtain ⟨ci, r, hc, hrr, hsel⟩ := hs.2.2.2.2.1
  have hgo := x_goV (p := p) (l := l) (e := e) (R := R) (below := below) (H := H) (locs := locs) (ls := ls) (cells := cells) (slots := slots) (av := bL.map (xv g)) (st1 := K.map (xv g)) C hs.1 hs.2.2.1 hs.2.2.2.1 hc hrr hsel hs.2.2.2.2.2.1 (by rw [List.length_map]; exact hs.2.2.2.2.2.2) hW (xok_hd h2) hd
  have e1 : (bL.reverse ++ xR q (some i) :: K).map (xv g) = (bL.map (xv g)).reverse ++ .ref (g q i) :: K.map (xv g) := by rw [List.map_append, List.map_reverse]; rfl
  rw [e1]
  exact x_retW C hM hs.1 hs.2.1 hr.1 hr.2.1 hr.2.2.1 hr.2.2.2 hW hg hS hl hL (xok_tl h2) (xok_cs (xok_hd h2) h1) hsum hd hgo kk
theorem x_callVt (C : x_C p e R s m args meth c D cA A cc own nL) {M : XM} {RY : Room} {bL : List XV} {q i : Nat} {E : String} {y : MethodName} {index : Nat} (hs : x_SV own index y M q bL.length) (hM : x_M l M RY (xR q (some i) :: bL) st (.inr E) st' mc ms) (hr : x_RM R RY M.2.2.1 cells slots) (hS0 : S = bL.reverse ++ xR q (some i) :: K) (hsum : (K.map xcat).sum ≤ 8) (hd : decode cc pc = .ok (.invokevirtual index, 3)) (kk : x_VT p l e R s m args below meth c D cA A nL g0 n0 Q E pc L K st' (cells + mc) (slots + ms)) : x_V p l e R s m args below meth c D cA A nL g0 n0 Q pc L S st cells slots := by
  intro g H locs ls hW hg hS hl hL hK
  subst hS0
  obtain ⟨h1, h2⟩ := x_okA hK
  obtain ⟨ci, r, hc, hrr, hsel⟩ := hs.2.2.2.2.1
  have hgo := x_goV (p := p) (l := l) (e := e) (R := R) (below := below) (H := H) (locs := locs) (ls := ls) (cells := cells) (slots := slots) (av := bL.map (xv g)) (st1 := K.map (xv g)) C hs.1 hs.2.2.1 hs.2.2.2.1 hc hrr hsel hs.2.2.2.2.2.1 (by rw [List.length_map]; exact hs.2.2.2.2.2.2) hW (xok_hd h2) hd
  have e1 : (bL.reverse ++ xR q (some i) :: K).map (xv g) = (bL.map (xv g)).reverse ++ .ref (g q i) :: K.map (xv g) := by rw [List.map_append, List.map_reverse]; rfl
  rw [e1]
  exact x_thrW C hM hs.1 hs.2.1 hr.1 hr.2.1 hr.2.2.1 hr.2.2.2 hW hg hS hl hL (xok_tl h2) (xok_cs (xok_hd h2) h1) hsum hd hgo kk
theorem x_callI (C : x_C p e R s m args meth c D cA A cc own nL) {M : XM} {RY : Room} {bL : List XV} {q i : Nat} {v : Option XV} {y : MethodName} {index : Nat} (hs : x_SI own index y M bL.length) (hM : x_M l M RY (xR q (some i) :: bL) st (.inl v) st' mc ms) (hr : x_RM R RY M.2.2.1 cells slots) (hS0 : S = bL.reverse ++ xR q (some i) :: K) (hsum : (K.map xcat).sum ≤ 8) (hd : decode cc pc = .ok (.invokespecial index, 3)) (kk : x_V p l e R s m args below meth c D cA A nL g0 n0 Q (pc + 3) L (v.toList ++ K) st' (cells + mc) (slots + ms)) : x_V p l e R s m args below meth c D cA A nL g0 n0 Q pc L S st cells slots := by
  intro g H locs ls hW hg hS hl hL hK
  subst hS0
  obtain ⟨h1, h2⟩ := x_okA hK
  have hgo := x_goI (p := p) (l := l) (e := e) (R := R) (below := below) (H := H) (locs := locs) (ls := ls) (cells := cells) (slots := slots) (a := g q i) (av := bL.map (xv g)) (st1 := K.map (xv g)) C hs.1 hs.2.2.1.1 hs.2.2.1.2.1 hs.2.2.1.2.2.1 hs.2.2.1.2.2.2 hs.2.2.2.1 hs.2.2.2.2.1 hs.2.2.2.2.2.1 (by rw [List.length_map]; exact hs.2.2.2.2.2.2) hd
  have e1 : (bL.reverse ++ xR q (some i) :: K).map (xv g) = (bL.map (xv g)).reverse ++ .ref (g q i) :: K.map (xv g) := by rw [List.map_append, List.map_reverse]; rfl
  rw [e1]
  exact x_retW C hM hs.1 hs.2.1 hr.1 hr.2.1 hr.2.2.1 hr.2.2.2 hW hg hS hl hL (xok_tl h2) (xok_cs (xok_hd h2) h1) hsum hd hgo kk
theorem x_oinit (C : x_C p e R s m args meth c D cA A cc own nL) {q i index : Nat} (h1 : Cond.methodLink own index objectInit ∈ x_tb) (h2 : Cond.instanceMethod objectInit ∈ x_tb) (h3 : Cond.code objectInit ⟨#[0xb1]⟩ 1 none ∈ x_tb) (hf : 1 ≤ R.frames) (hlo : (K.map xcat).sum + 12 ≤ R.locals) (hd : decode cc pc = .ok (.invokespecial index, 3)) (kk : x_V p l e R s m args below meth c D cA A nL g0 n0 Q (pc + 3) L K st cells slots) : x_V p l e R s m args below meth c D cA A nL g0 n0 Q pc L (xR q (some i) :: K) st cells slots := by
  intro g H locs ls hW hg hS hl hL hK
  obtain ⟨hx, hb, hml, hown, hts, hKx, -⟩ := C
  refine W.objInit hx hb hown (hts _ h1) (hts _ h2) (hts _ h3) rfl (by rw [hml]; exact hl.1) rfl hd hf (by show 2 * 0 + _ + 12 ≤ _; rw [x_sum]; omega) ?_
  exact kk g H locs ls hW hg hS hl hL (xok_tl hK)
/-- the method throws on what a callee threw -/
theorem x_out (C : x_C p e R s m args meth c D cA (x_A g0 n0 s.heap.size) cc own nL) {E : String} (ho : ∀ x ∈ c.exceptionTable.toList, covers x pc = false) (hc : cells ≤ mc) (hs : slots ≤ ms) : x_VT p l e R s m args below meth c D cA (x_A g0 n0 s.heap.size) nL g0 n0 (x_MQ D cA g0 n0 below s mc ms (.inr E) st) E pc L K st cells slots := by
  intro g H locs ls a hW hg hS hl hL hK T hT X hex
  have X' := stand_widen X hc hs
  obtain ⟨h1, h2, h3, h4, h5⟩ := X'.leaveThrown a (g := F0 m pc ls (K.map (xv g))) rfl rfl rfl ho (hlocks := C.2.2.2.2.2.2.1)
  have eh : (T.setFrames (.throwing a :: below)).heap = H := hT
  refine ⟨_, h1, .threw a, locs, g, h2, h3, h4, h5, hS.2.2, hS.F eh, hg, by rw [eh]; exact hW, a, rfl, ?_⟩
  exact hex
end XI
end
section
/-! THROWS: an exception is made and thrown -/
theorem x_rebase {p : Program} {l : Launch} {e : Env} {R : Room} {s : State} {m : MethodId} {args : Array Value} {below : List Frame} {meth : Method} {c : Code} {T : State} {locs : List Loc} {cells slots : Nat} (X : Stand p l e R s m args below meth c T locs cells slots) (R2 : Room) (hf : R2.frames ≤ R.frames) (hlo : R2.locals ≤ R.locals) (hc : cells + R2.cells ≤ R.cells) (hs : slots + R2.slots ≤ R.slots) : Stand p l e R2 (T.setFrames (.invoking m args :: below)) m args below meth c T [] 0 0 := by
  obtain ⟨g₀, hfr⟩ := X.frames_eq
  have hcur : T.cur < T.threads.size := State.cur_lt_of_frames hfr
  have hfr2 : (T.setFrames (.invoking m args :: below)).frames = .invoking m args :: below := State.frames_setFrames _ hcur
  obtain ⟨th, hth, -⟩ := State.frames_cons hfr
  obtain ⟨th2, hth2, -⟩ := State.frames_cons hfr2
  have hm2 : (T.setFrames (.invoking m args :: below)).vm.method? m = some meth := X.method'
  have e1 : T = (T.setFrames (.invoking m args :: below)).setFrames T.frames := by
    rw [State.setFrames_setFrames, State.setFrames_self hth]
  have elim : e.platform.stackLimits (T.setFrames (.invoking m args :: below)).me = e.platform.stackLimits T.me := State.stackLimits_setFrames ..
  have ebyt : (T.setFrames (.invoking m args :: below)).me.stackBytes = T.me.stackBytes := State.stackBytes_setFrames ..
  have hlocs : s.localsInUse = (T.setFrames (.invoking m args :: below)).localsInUse := by
    rw [State.localsInUse_invoking X.frames X.method X.code, State.localsInUse_invoking hfr2 hm2 X.code]
  refine ⟨X.admits, X.cas, X.clock, hfr2, ?_, ?_, hm2, X.code, X.here, X.tail, State.WarmedH.refl _, elim.symm, ebyt.symm, ?_⟩
  · have h := X.room
    have hb := X.book
    have h1 := X.heapSize
    have h2 := X.used
    simp only [State.hasRoom, Bool.and_eq_true, decide_eq_true_eq] at h ⊢
    obtain ⟨⟨⟨⟨a1, a2, a3, a4, a5, a6⟩, a7⟩, a8⟩, a9⟩ := h
    rw [hfr2, elim, ebyt, ← hlocs, X.limits, X.bytes]
    rw [X.frames] at a2 a3
    have hsz : (T.setFrames (.invoking m args :: below)).heap.size = T.heap.size := rfl
    have hsu : (T.setFrames (.invoking m args :: below)).slotsUsed = T.slotsUsed := rfl
    refine ⟨⟨⟨⟨by omega, by omega, by omega, by omega, by omega, a6⟩, by omega⟩, by omega⟩, hb⟩
  · have h := X.hears
    have hal := X.warmed.alike
    cases below with
    | nil =>
      simp only [State.hears] at h ⊢
      rw [hm2]; rw [X.method] at h; exact h
    | cons f r =>
      cases f with
      | java g =>
        simp only [State.hears] at h ⊢
        have e2 : (T.setFrames (.invoking m args :: .java g :: r)).code? g.method = s.code? g.method := by
          rw [State.code?_eq, State.code?_eq]
          show (T.vm.method? g.method).bind _ = _
          rw [hal.method?]
        rw [e2]; exact h
      | native g => rfl
      | proc g => rfl
      | _ =>
        simp only [State.hears] at h ⊢
        rw [hm2]; rw [X.method] at h; exact h
  · have h := (State.sameButNew.refl (T.setFrames (.invoking m args :: below)) hth2).setFrames T.frames (State.cur_lt_of_frames hfr2)
    rw [← e1] at h
    exact h
theorem x_vmnone {D : va_G} {cA : Nat → ClassId} {g : Nat → Nat → Nat} {st : XS} {q i a : Nat} {H : Heap} (h : va_at D xk_cl (a, xent cA g st q i) H) : ∀ cell, H[a]? = some cell → cell.vm.isStatics = false := by
  intro cell hc
  cases hx : xk_c q with
  | some ci =>
    rw [xent_obj hx] at h
    obtain ⟨r, h1, cell2, q1, q2, q3, q4⟩ := h
    cases hc.symm.trans q1
    rw [q3]; rfl
  | none =>
    rw [xent_arr hx] at h
    have h : H[a]? = some (vp_cell (cA q) (xarr g st q i)) := h
    cases hc.symm.trans h
    obtain ⟨n, f | f | f | f | f⟩ := xarr g st q i <;> rfl
theorem x_W.kept {D : va_G} {cA : Nat → ClassId} {A : Nat → Prop} {g : Nat → Nat → Nat} {st : XS} {H H1 : Heap} (hW : x_W D cA A g st H) (ho : ∀ b : Nat, b < H.size → H1[b]? = H[b]?) : x_W D cA A g st H1 := ⟨fun q i hi => ⟨((hW.1 q i hi).1).kept (ho _ (hW.1 q i hi).1.lt), (hW.1 q i hi).2⟩, hW.2⟩
theorem x_same0 {s t : State} {k n : Nat} (h : s.sameButNew t [] k n) : ∀ b : Nat, b < s.heap.size → t.heap[b]? = s.heap[b]? := by
  intro b hb
  obtain ⟨cc, hcc⟩ : ∃ cc, s.heap[b]? = some cc := ⟨s.heap[b], Array.getElem?_eq_getElem hb⟩
  obtain ⟨c', h1, h2, h3, h4⟩ := h.2.2.2.2.2 b cc hcc
  have hs : c'.slots = cc.slots := Array.ext_getElem? (fun i => h4 i (by simp))
  rw [h1, hcc, h2, hs]
/-- the words of Bundle.ownAtoms that the tables hold and that keep; the others are x_Th's -/
def x_OA (own : String) (ic : Nat) (E : String) (names : List String) : Prop := ∀ w ∈ Bundle.ownAtoms own ic E names, w ∈ x_tb ∨ w = .castable "java/lang/IllegalStateException" "java/lang/IllegalStateException" ∨ w = .castable "java/lang/IllegalArgumentException" "java/lang/IllegalArgumentException" ∨ w = .laysStatic Bundle.tN "UNASSIGNED_STACK" Bundle.steD ∨ w = .laysStatic Bundle.tN "SUPPRESSED_SENTINEL" Bundle.listD ∨ w = .isRef (.static Bundle.tN "UNASSIGNED_STACK" Bundle.steD) ∨ w = .isRef (.static Bundle.tN "SUPPRESSED_SENTINEL" Bundle.listD)
theorem x_St.lays {n d : String} {A : Nat → Prop} {U : State} {a : Array Value} (h : x_St n d A U U.heap) : (Cond.laysStatic Bundle.tN n d).before a U = true := by
  obtain ⟨c, k, i, f, b, cell, v, h0, h1, h2, h3, h4, h5, h6, h7, h8, h9, h10, h11⟩ := h
  exact Cond.laysStatic_of h0 h1 h2 h3 h4 h5 h6 h7 h8
theorem x_St.isr {n d : String} {A : Nat → Prop} {U : State} {a : Array Value} (h : x_St n d A U U.heap) : (Cond.isRef (.static Bundle.tN n d)).before a U = true := by
  obtain ⟨c, k, i, f, b, cell, v, h0, h1, h2, h3, h4, h5, h6, h7, h8, h9, h10, h11⟩ := h
  have he : (Term.static Bundle.tN n d).eval a U none [] U = some v := by
    simp [Term.eval, State.fieldNamed?, h1, h2, h3, h4, h5, h9]
  rcases h10 with rfl | ⟨b2, rfl⟩ <;> simp [Cond.before, Cond.holds, Cond.value, he]
section XT
variable {p : Program} {l : Launch} {e : Env} {R : Room} {s : State} {m : MethodId} {args : Array Value} {below : List Frame} {meth : Method} {c : Code} {D : va_G} {cA : Nat → ClassId} {nL : Nat} {g0 : Nat → Nat → Nat} {n0 : Nat → Nat} {cc : ByteArray} {own : String} {pc : Nat} {L : List (Nat × XV)} {K : List XV} {st : XS} {cells slots : Nat} {mc ms : Nat}
set_option maxHeartbeats 1000000 in
theorem x_throw (C : x_C p e R s m args meth c D cA (x_A g0 n0 s.heap.size) cc own nL) (hfl : l.flags = flags0) {E tx : String} {names : List String} {ixn ixs ixc : Nat} (hcl : Cond.classLink own ixn E ∈ x_tb) (hins : Cond.instantiable E 6 ∈ x_tb) (hini : Cond.initialized E ∈ x_tb) (hstr : (own, ixs, tx) ∈ xk_str) (hat : x_OA own ixc E names) (hfit : Bundle.fit E = true ∧ ∀ n ∈ names, Bundle.fit n = true) (ho : c.exceptionTable.toList.map (fun h => (h.startPc, h.endPc, h.handlerPc, h.catchType)) = []) (hK8 : (K.map xcat).sum ≤ 8) (hc1 : cells + 1 ≤ R.cells) (hs1 : slots + 6 ≤ R.slots) (hc : cells + 1 ≤ mc) (hs : slots + 6 ≤ ms) (hRf : names.length + 3 < R.frames) (hRl : 8 + 1 + (13 * (names.length + 1) + 42) ≤ R.locals)
    (hd0 : decode cc pc = .ok (.new ixn, 3)) (hd3 : decode cc (pc + 3) = .ok (.dup, 1)) (hd4 : decode cc (pc + 4) = .ok (.ldc ixs, 2)) (hd6 : decode cc (pc + 6) = .ok (.invokespecial ixc, 3)) (hd9 : decode cc (pc + 9) = .ok (.athrow, 1)) : x_V p l e R s m args below meth c D cA (x_A g0 n0 s.heap.size) nL g0 n0 (x_MQ D cA g0 n0 below s mc ms (.inr E) st) pc L K st cells slots := by
  intro g H locs ls hW hg hS hl hL hK T hT X
  obtain ⟨hx, hb, hml, hown, hts, hKx, hlk, hA, hTh⟩ := C
  subst hT
  have XB := x_rebase X { frames := R.frames, cells := 1, slots := 6, locals := R.locals } (Nat.le_refl _) (Nat.le_refl _) hc1 hs1
  generalize hs2 : T.setFrames (.invoking m args :: below) = s2 at XB
  have hv2 : s2.vm = T.vm := by rw [← hs2]; rfl
  have hh2 : s2.heap = T.heap := by rw [← hs2]; rfl
  have hw2 : s.WarmedH s2.vm := by rw [hv2]; exact X.warmed
  have hown2 : s2.vm.findClass own = some m.cls := by rw [hw2.alike.findClass]; exact hown
  have hts2 : ∀ w ∈ x_tb, w.before args s2 = true := fun w hw => word_at hw2 (x_good hw) (hts w hw)
  have hTh2 : x_Th (x_A g0 n0 s.heap.size) s2 s2.heap := by rw [hh2]; exact (hTh.moved hw2).kept (fun a h1 h2 => hS.2.1 a h1 h2)
  have hatoms : ∀ w ∈ Bundle.ownAtoms own ixc E names, w.before args s2 = true := by
    intro w hw
    rcases hat w hw with h | rfl | rfl | rfl | rfl | rfl | rfl
    · exact hts2 w h
    · exact va_Nw.use rfl hTh2.1.1
    · exact va_Nw.use rfl hTh2.1.2
    · exact hTh2.2.1.lays
    · exact hTh2.2.2.1.lays
    · exact hTh2.2.1.isr
    · exact hTh2.2.2.1.isr
  obtain ⟨cX, kX, hcX, hkX, -⟩ := Cond.instantiable_spec (hts2 _ hins)
  obtain ⟨sa, hsa⟩ := hTh2.2.2.2.1 _ hstr
  have htr : e.platform.stackTraces = false := Launch.traces_off hfl X.admits
  have hz : c.exceptionTable.toList = [] := List.map_eq_nil_iff.mp ho
  have w : W p l e { frames := R.frames, cells := 1, slots := 6, locals := R.locals } s2 m args below meth c T.heap [] 0 0 (fun U => ∃ a, U.status = .running ∧ Ended U below (.threw a) ∧ s2.WarmedH U.vm ∧ s2.sameButNew ({ U with vm := s2.vm } : State) [] 1 6 ∧ x_Ex E a U) (F0 m pc ls (K.map (xv g))) := by
    refine W.newcK hx hb hown2 (hts2 _ hcl) (hts2 _ hins) (hts2 _ hini) rfl hd0 (Nat.le_refl _) (Nat.le_refl _) hcX rfl fun H1 kC hkC e1 z1 o1 => ?_
    cases hkX.symm.trans hkC
    refine lv_dup hx hb hd3 rfl ?_
    refine va_ldcS hx hb hown2 hsa hd4 ?_
    intro T1 hT1 X1
    obtain ⟨U, u1, u2, u3, u4, u5, ce, u6, u7⟩ := X1.ctorThrowS hx htr (own := own) (cls := E) (names := names) (ic := ixc) hown2 hfit.1 hfit.2 hatoms (fun x h => by cases h) (a := T.heap.size) hcX hkX (by rw [hT1]; exact e1) (by rw [hh2]; exact Nat.le_refl _) (msg := .ref sa) rfl (g := F0 m (pc + 6) ls (.ref sa :: .ref T.heap.size :: .ref T.heap.size :: K.map (xv g))) rfl (by rw [hml]; exact hl.1) rfl rfl (rest := K.map (xv g)) rfl (by rw [hb]; exact hd6) (by rw [hb]; exact hd9) (by rw [hz]; intro x h; cases h) hRf (by
      show 2 * 0 + ((Value.ref T.heap.size :: K.map (xv g)).map fun v => v.category).sum + _ ≤ _
      rw [List.map_cons, List.sum_cons, x_sum]
      show 2 * 0 + (1 + _) + _ ≤ R.locals
      omega) (hlocks := hlk)
    refine ⟨U, u1, T.heap.size, u2, u3, u4, u5, ce, u6, fun k h => ?_, ?_⟩
    · rw [u7.vm] at h; cases h
    · rw [u4.alike.findClass]; exact u7.cls
  obtain ⟨U, a1, a, b1, b2, b3, b4, b5⟩ := w T rfl XB
  have hu0 : ∀ b : Nat, b < T.heap.size → U.heap[b]? = T.heap[b]? := by
    intro b hb
    have h1 := x_same0 b4 b (by rw [hh2]; exact hb)
    rw [hh2] at h1
    exact h1
  have hsz : T.heap.size ≤ U.heap.size := by have h1 := b4.2.1; rw [hh2] at h1; exact h1
  have hsame : s.sameButNew ({ U with vm := s.vm } : State) locs mc ms := by
    have h1 := X.same
    have h2 : (T.setVm s.vm).sameButNew ({ U with vm := s.vm } : State) [] 1 6 := by
      obtain ⟨c1, c2, c3, c4, c5, c6⟩ := b4
      rw [← hs2] at c1 c2 c3 c4 c5 c6
      refine ⟨?_, c2, c3, c4, c5, c6⟩
      have c1 : ({ U with vm := T.vm } : State) = { (T.setFrames (.invoking m args :: below)).setFrames U.frames with heap := U.heap, slotsUsed := U.slotsUsed } := c1
      rw [State.setFrames_setFrames] at c1
      exact congrArg (fun z : State => z.setVm s.vm) c1
    have h3 := h1.trans h2
    rw [List.append_nil] at h3
    exact h3.mono hc hs
  refine ⟨U, a1, .threw a, locs, g, b1, b2, State.WarmedH.trans hw2 b3, hsame, hS.2.2, ⟨Nat.le_trans hS.1 hsz, fun q h1 h2 => ?_⟩, hg, hW.kept hu0, a, rfl, b5⟩
  rw [hu0 q (Nat.lt_of_lt_of_le h1 hS.1)]
  exact hS.2.1 q h1 h2
end XT
end
