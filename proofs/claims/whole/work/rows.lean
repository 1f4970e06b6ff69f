section
-- ===== PART A: goes FIRST, ahead of the names: the tables' words, and 'selects' of the private methods out of them =====
/-- a private method of a class that the tables say can be made, by its rows of tables_1 -/
def lw_okq (q : MethodName × Nat) : Prop := (q.1.cls ≠ "java/lang/invoke/MethodHandle" ∧ q.1.cls ≠ "java/lang/invoke/VarHandle") ∧ Cond.instantiable q.1.cls q.2 ∈ tables_1 ∧ Cond.privateMethod q.1 ∈ tables_1 ∧ Cond.instanceMethod q.1 ∈ tables_1
theorem lw_p0 : lw_okq (⟨"DescriptorDesk", "leastAbsent", "()I"⟩, 7) := ⟨⟨by decide +kernel, by decide +kernel⟩, List.mem_of_getElem? (i := 16) (by decide +kernel), List.mem_of_getElem? (i := 170) (by decide +kernel), List.mem_of_getElem? (i := 171) (by decide +kernel)⟩
theorem lw_p1 : lw_okq (⟨"DescriptorDesk", "freeOpening", "(LDescriptorDesk$Opening;)LDescriptorDesk$Opening;"⟩, 7) := ⟨⟨by decide +kernel, by decide +kernel⟩, List.mem_of_getElem? (i := 16) (by decide +kernel), List.mem_of_getElem? (i := 174) (by decide +kernel), List.mem_of_getElem? (i := 175) (by decide +kernel)⟩
theorem lw_p2 : lw_okq (⟨"DescriptorDesk", "procThere", "(I)LDescriptorDesk$Proc;"⟩, 7) := ⟨⟨by decide +kernel, by decide +kernel⟩, List.mem_of_getElem? (i := 16) (by decide +kernel), List.mem_of_getElem? (i := 226) (by decide +kernel), List.mem_of_getElem? (i := 227) (by decide +kernel)⟩
theorem lw_p3 : lw_okq (⟨"DescriptorDesk", "bytesIn", "(LDescriptorDesk$Opening;)I"⟩, 7) := ⟨⟨by decide +kernel, by decide +kernel⟩, List.mem_of_getElem? (i := 16) (by decide +kernel), List.mem_of_getElem? (i := 254) (by decide +kernel), List.mem_of_getElem? (i := 255) (by decide +kernel)⟩
theorem lw_p4 : lw_okq (⟨"DescriptorDesk", "procsThere", "()I"⟩, 7) := ⟨⟨by decide +kernel, by decide +kernel⟩, List.mem_of_getElem? (i := 16) (by decide +kernel), List.mem_of_getElem? (i := 262) (by decide +kernel), List.mem_of_getElem? (i := 263) (by decide +kernel)⟩
theorem lw_p5 : lw_okq (⟨"DescriptorDesk", "procsWaiting", "()I"⟩, 7) := ⟨⟨by decide +kernel, by decide +kernel⟩, List.mem_of_getElem? (i := 16) (by decide +kernel), List.mem_of_getElem? (i := 266) (by decide +kernel), List.mem_of_getElem? (i := 267) (by decide +kernel)⟩
theorem lw_p6 : lw_okq (⟨"DescriptorDesk", "openingsThere", "()I"⟩, 7) := ⟨⟨by decide +kernel, by decide +kernel⟩, List.mem_of_getElem? (i := 16) (by decide +kernel), List.mem_of_getElem? (i := 274) (by decide +kernel), List.mem_of_getElem? (i := 275) (by decide +kernel)⟩
theorem lw_p7 : lw_okq (⟨"DescriptorDesk", "pipesThere", "()I"⟩, 7) := ⟨⟨by decide +kernel, by decide +kernel⟩, List.mem_of_getElem? (i := 16) (by decide +kernel), List.mem_of_getElem? (i := 278) (by decide +kernel), List.mem_of_getElem? (i := 279) (by decide +kernel)⟩
theorem lw_p8 : lw_okq (⟨"DescriptorDesk", "filesThere", "()I"⟩, 7) := ⟨⟨by decide +kernel, by decide +kernel⟩, List.mem_of_getElem? (i := 16) (by decide +kernel), List.mem_of_getElem? (i := 283) (by decide +kernel), List.mem_of_getElem? (i := 284) (by decide +kernel)⟩
theorem lw_p9 : lw_okq (⟨"DescriptorDesk", "filesWithNames", "()I"⟩, 7) := ⟨⟨by decide +kernel, by decide +kernel⟩, List.mem_of_getElem? (i := 16) (by decide +kernel), List.mem_of_getElem? (i := 291) (by decide +kernel), List.mem_of_getElem? (i := 292) (by decide +kernel)⟩
theorem lw_p10 : lw_okq (⟨"DescriptorDesk", "bytesInPipes", "()I"⟩, 7) := ⟨⟨by decide +kernel, by decide +kernel⟩, List.mem_of_getElem? (i := 16) (by decide +kernel), List.mem_of_getElem? (i := 295) (by decide +kernel), List.mem_of_getElem? (i := 296) (by decide +kernel)⟩
theorem lw_p11 : lw_okq (⟨"DescriptorDesk", "waitingInVain", "()I"⟩, 7) := ⟨⟨by decide +kernel, by decide +kernel⟩, List.mem_of_getElem? (i := 16) (by decide +kernel), List.mem_of_getElem? (i := 299) (by decide +kernel), List.mem_of_getElem? (i := 300) (by decide +kernel)⟩
theorem lw_p12 : lw_okq (⟨"DescriptorDesk", "vainAmong", "(I)I"⟩, 7) := ⟨⟨by decide +kernel, by decide +kernel⟩, List.mem_of_getElem? (i := 16) (by decide +kernel), List.mem_of_getElem? (i := 303) (by decide +kernel), List.mem_of_getElem? (i := 304) (by decide +kernel)⟩
theorem lw_p13 : lw_okq (⟨"DescriptorDesk", "waitsForNoneBut", "(LDescriptorDesk$Proc;I)Z"⟩, 7) := ⟨⟨by decide +kernel, by decide +kernel⟩, List.mem_of_getElem? (i := 16) (by decide +kernel), List.mem_of_getElem? (i := 307) (by decide +kernel), List.mem_of_getElem? (i := 308) (by decide +kernel)⟩
theorem lw_p14 : lw_okq (⟨"DescriptorDesk", "holdersOfEnd", "(LDescriptorDesk$Pipe;I)I"⟩, 7) := ⟨⟨by decide +kernel, by decide +kernel⟩, List.mem_of_getElem? (i := 16) (by decide +kernel), List.mem_of_getElem? (i := 311) (by decide +kernel), List.mem_of_getElem? (i := 312) (by decide +kernel)⟩
theorem lw_p15 : lw_okq (⟨"DescriptorDesk", "readyProc", "(I)LDescriptorDesk$Proc;"⟩, 7) := ⟨⟨by decide +kernel, by decide +kernel⟩, List.mem_of_getElem? (i := 16) (by decide +kernel), List.mem_of_getElem? (i := 337) (by decide +kernel), List.mem_of_getElem? (i := 338) (by decide +kernel)⟩
def lw_privs_1 : List (MethodName × Nat) := [(⟨"DescriptorDesk", "leastAbsent", "()I"⟩, 7), (⟨"DescriptorDesk", "freeOpening", "(LDescriptorDesk$Opening;)LDescriptorDesk$Opening;"⟩, 7), (⟨"DescriptorDesk", "procThere", "(I)LDescriptorDesk$Proc;"⟩, 7), (⟨"DescriptorDesk", "bytesIn", "(LDescriptorDesk$Opening;)I"⟩, 7), (⟨"DescriptorDesk", "procsThere", "()I"⟩, 7), (⟨"DescriptorDesk", "procsWaiting", "()I"⟩, 7), (⟨"DescriptorDesk", "openingsThere", "()I"⟩, 7), (⟨"DescriptorDesk", "pipesThere", "()I"⟩, 7), (⟨"DescriptorDesk", "filesThere", "()I"⟩, 7), (⟨"DescriptorDesk", "filesWithNames", "()I"⟩, 7), (⟨"DescriptorDesk", "bytesInPipes", "()I"⟩, 7), (⟨"DescriptorDesk", "waitingInVain", "()I"⟩, 7), (⟨"DescriptorDesk", "vainAmong", "(I)I"⟩, 7), (⟨"DescriptorDesk", "waitsForNoneBut", "(LDescriptorDesk$Proc;I)Z"⟩, 7), (⟨"DescriptorDesk", "holdersOfEnd", "(LDescriptorDesk$Pipe;I)I"⟩, 7), (⟨"DescriptorDesk", "readyProc", "(I)LDescriptorDesk$Proc;"⟩, 7)]
theorem lw_r1 : ∀ q ∈ lw_privs_1, lw_okq q := List.forall_mem_cons.mpr ⟨lw_p0, List.forall_mem_cons.mpr ⟨lw_p1, List.forall_mem_cons.mpr ⟨lw_p2, List.forall_mem_cons.mpr ⟨lw_p3, List.forall_mem_cons.mpr ⟨lw_p4, List.forall_mem_cons.mpr ⟨lw_p5, List.forall_mem_cons.mpr ⟨lw_p6, List.forall_mem_cons.mpr ⟨lw_p7, List.forall_mem_cons.mpr ⟨lw_p8, List.forall_mem_cons.mpr ⟨lw_p9, List.forall_mem_cons.mpr ⟨lw_p10, List.forall_mem_cons.mpr ⟨lw_p11, List.forall_mem_cons.mpr ⟨lw_p12, List.forall_mem_cons.mpr ⟨lw_p13, List.forall_mem_cons.mpr ⟨lw_p14, List.forall_mem_cons.mpr ⟨lw_p15, fun _ h => absurd h List.not_mem_nil⟩⟩⟩⟩⟩⟩⟩⟩⟩⟩⟩⟩⟩⟩⟩⟩
theorem lw_p16 : lw_okq (⟨"java/lang/Throwable", "fillInStackTrace", "(I)Ljava/lang/Throwable;"⟩, 6) := ⟨⟨by decide +kernel, by decide +kernel⟩, List.mem_of_getElem? (i := 378) (by decide +kernel), List.mem_of_getElem? (i := 376) (by decide +kernel), List.mem_of_getElem? (i := 377) (by decide +kernel)⟩
theorem lw_p17 : lw_okq (⟨"DescriptorDesk", "wakeAll", "()I"⟩, 7) := ⟨⟨by decide +kernel, by decide +kernel⟩, List.mem_of_getElem? (i := 16) (by decide +kernel), List.mem_of_getElem? (i := 420) (by decide +kernel), List.mem_of_getElem? (i := 421) (by decide +kernel)⟩
theorem lw_p18 : lw_okq (⟨"DescriptorDesk", "mustWait", "(LDescriptorDesk$Proc;)Z"⟩, 7) := ⟨⟨by decide +kernel, by decide +kernel⟩, List.mem_of_getElem? (i := 16) (by decide +kernel), List.mem_of_getElem? (i := 424) (by decide +kernel), List.mem_of_getElem? (i := 425) (by decide +kernel)⟩
theorem lw_p19 : lw_okq (⟨"DescriptorDesk", "hindranceToRead", "(LDescriptorDesk$Opening;I)I"⟩, 7) := ⟨⟨by decide +kernel, by decide +kernel⟩, List.mem_of_getElem? (i := 16) (by decide +kernel), List.mem_of_getElem? (i := 428) (by decide +kernel), List.mem_of_getElem? (i := 429) (by decide +kernel)⟩
theorem lw_p20 : lw_okq (⟨"DescriptorDesk", "fileNamed", "(I)LDescriptorDesk$StoredFile;"⟩, 7) := ⟨⟨by decide +kernel, by decide +kernel⟩, List.mem_of_getElem? (i := 16) (by decide +kernel), List.mem_of_getElem? (i := 470) (by decide +kernel), List.mem_of_getElem? (i := 471) (by decide +kernel)⟩
theorem lw_p21 : lw_okq (⟨"DescriptorDesk", "freeFile", "()LDescriptorDesk$StoredFile;"⟩, 7) := ⟨⟨by decide +kernel, by decide +kernel⟩, List.mem_of_getElem? (i := 16) (by decide +kernel), List.mem_of_getElem? (i := 474) (by decide +kernel), List.mem_of_getElem? (i := 475) (by decide +kernel)⟩
theorem lw_p22 : lw_okq (⟨"DescriptorDesk", "freePipe", "()LDescriptorDesk$Pipe;"⟩, 7) := ⟨⟨by decide +kernel, by decide +kernel⟩, List.mem_of_getElem? (i := 16) (by decide +kernel), List.mem_of_getElem? (i := 492) (by decide +kernel), List.mem_of_getElem? (i := 493) (by decide +kernel)⟩
theorem lw_p23 : lw_okq (⟨"DescriptorDesk", "take", "(LDescriptorDesk$Proc;LDescriptorDesk$Opening;I)I"⟩, 7) := ⟨⟨by decide +kernel, by decide +kernel⟩, List.mem_of_getElem? (i := 16) (by decide +kernel), List.mem_of_getElem? (i := 511) (by decide +kernel), List.mem_of_getElem? (i := 512) (by decide +kernel)⟩
theorem lw_p24 : lw_okq (⟨"DescriptorDesk", "takeFromConsole", "(LDescriptorDesk$Proc;I)I"⟩, 7) := ⟨⟨by decide +kernel, by decide +kernel⟩, List.mem_of_getElem? (i := 16) (by decide +kernel), List.mem_of_getElem? (i := 537) (by decide +kernel), List.mem_of_getElem? (i := 538) (by decide +kernel)⟩
theorem lw_p25 : lw_okq (⟨"DescriptorDesk", "put", "(LDescriptorDesk$Opening;JI)V"⟩, 7) := ⟨⟨by decide +kernel, by decide +kernel⟩, List.mem_of_getElem? (i := 16) (by decide +kernel), List.mem_of_getElem? (i := 548) (by decide +kernel), List.mem_of_getElem? (i := 549) (by decide +kernel)⟩
theorem lw_p26 : lw_okq (⟨"DescriptorDesk", "putByte", "(LDescriptorDesk$Opening;I)V"⟩, 7) := ⟨⟨by decide +kernel, by decide +kernel⟩, List.mem_of_getElem? (i := 16) (by decide +kernel), List.mem_of_getElem? (i := 552) (by decide +kernel), List.mem_of_getElem? (i := 553) (by decide +kernel)⟩
theorem lw_p27 : lw_okq (⟨"DescriptorDesk", "showByte", "(I)V"⟩, 7) := ⟨⟨by decide +kernel, by decide +kernel⟩, List.mem_of_getElem? (i := 16) (by decide +kernel), List.mem_of_getElem? (i := 565) (by decide +kernel), List.mem_of_getElem? (i := 566) (by decide +kernel)⟩
theorem lw_p28 : lw_okq (⟨"DescriptorDeskModel", "freeProcess", "()I"⟩, 21) := ⟨⟨by decide +kernel, by decide +kernel⟩, List.mem_of_getElem? (i := 616) (by decide +kernel), List.mem_of_getElem? (i := 696) (by decide +kernel), List.mem_of_getElem? (i := 697) (by decide +kernel)⟩
theorem lw_p29 : lw_okq (⟨"DescriptorDeskModel", "freeOpening", "()I"⟩, 21) := ⟨⟨by decide +kernel, by decide +kernel⟩, List.mem_of_getElem? (i := 616) (by decide +kernel), List.mem_of_getElem? (i := 700) (by decide +kernel), List.mem_of_getElem? (i := 701) (by decide +kernel)⟩
theorem lw_p30 : lw_okq (⟨"DescriptorDeskModel", "begin", "(I)V"⟩, 21) := ⟨⟨by decide +kernel, by decide +kernel⟩, List.mem_of_getElem? (i := 616) (by decide +kernel), List.mem_of_getElem? (i := 704) (by decide +kernel), List.mem_of_getElem? (i := 705) (by decide +kernel)⟩
theorem lw_p31 : lw_okq (⟨"DescriptorDeskModel", "newOpening", "(III)I"⟩, 21) := ⟨⟨by decide +kernel, by decide +kernel⟩, List.mem_of_getElem? (i := 616) (by decide +kernel), List.mem_of_getElem? (i := 708) (by decide +kernel), List.mem_of_getElem? (i := 709) (by decide +kernel)⟩
def lw_privs_2 : List (MethodName × Nat) := [(⟨"java/lang/Throwable", "fillInStackTrace", "(I)Ljava/lang/Throwable;"⟩, 6), (⟨"DescriptorDesk", "wakeAll", "()I"⟩, 7), (⟨"DescriptorDesk", "mustWait", "(LDescriptorDesk$Proc;)Z"⟩, 7), (⟨"DescriptorDesk", "hindranceToRead", "(LDescriptorDesk$Opening;I)I"⟩, 7), (⟨"DescriptorDesk", "fileNamed", "(I)LDescriptorDesk$StoredFile;"⟩, 7), (⟨"DescriptorDesk", "freeFile", "()LDescriptorDesk$StoredFile;"⟩, 7), (⟨"DescriptorDesk", "freePipe", "()LDescriptorDesk$Pipe;"⟩, 7), (⟨"DescriptorDesk", "take", "(LDescriptorDesk$Proc;LDescriptorDesk$Opening;I)I"⟩, 7), (⟨"DescriptorDesk", "takeFromConsole", "(LDescriptorDesk$Proc;I)I"⟩, 7), (⟨"DescriptorDesk", "put", "(LDescriptorDesk$Opening;JI)V"⟩, 7), (⟨"DescriptorDesk", "putByte", "(LDescriptorDesk$Opening;I)V"⟩, 7), (⟨"DescriptorDesk", "showByte", "(I)V"⟩, 7), (⟨"DescriptorDeskModel", "freeProcess", "()I"⟩, 21), (⟨"DescriptorDeskModel", "freeOpening", "()I"⟩, 21), (⟨"DescriptorDeskModel", "begin", "(I)V"⟩, 21), (⟨"DescriptorDeskModel", "newOpening", "(III)I"⟩, 21)]
theorem lw_r2 : ∀ q ∈ lw_privs_2, lw_okq q := List.forall_mem_cons.mpr ⟨lw_p16, List.forall_mem_cons.mpr ⟨lw_p17, List.forall_mem_cons.mpr ⟨lw_p18, List.forall_mem_cons.mpr ⟨lw_p19, List.forall_mem_cons.mpr ⟨lw_p20, List.forall_mem_cons.mpr ⟨lw_p21, List.forall_mem_cons.mpr ⟨lw_p22, List.forall_mem_cons.mpr ⟨lw_p23, List.forall_mem_cons.mpr ⟨lw_p24, List.forall_mem_cons.mpr ⟨lw_p25, List.forall_mem_cons.mpr ⟨lw_p26, List.forall_mem_cons.mpr ⟨lw_p27, List.forall_mem_cons.mpr ⟨lw_p28, List.forall_mem_cons.mpr ⟨lw_p29, List.forall_mem_cons.mpr ⟨lw_p30, List.forall_mem_cons.mpr ⟨lw_p31, fun _ h => absurd h List.not_mem_nil⟩⟩⟩⟩⟩⟩⟩⟩⟩⟩⟩⟩⟩⟩⟩⟩
theorem lw_p32 : lw_okq (⟨"DescriptorDeskModel", "give", "(II)I"⟩, 21) := ⟨⟨by decide +kernel, by decide +kernel⟩, List.mem_of_getElem? (i := 616) (by decide +kernel), List.mem_of_getElem? (i := 712) (by decide +kernel), List.mem_of_getElem? (i := 713) (by decide +kernel)⟩
theorem lw_p33 : lw_okq (⟨"DescriptorDeskModel", "freeDescriptor", "(I)I"⟩, 21) := ⟨⟨by decide +kernel, by decide +kernel⟩, List.mem_of_getElem? (i := 616) (by decide +kernel), List.mem_of_getElem? (i := 716) (by decide +kernel), List.mem_of_getElem? (i := 717) (by decide +kernel)⟩
theorem lw_p34 : lw_okq (⟨"DescriptorDeskModel", "isReady", "(I)Z"⟩, 21) := ⟨⟨by decide +kernel, by decide +kernel⟩, List.mem_of_getElem? (i := 616) (by decide +kernel), List.mem_of_getElem? (i := 724) (by decide +kernel), List.mem_of_getElem? (i := 725) (by decide +kernel)⟩
theorem lw_p35 : lw_okq (⟨"DescriptorDeskModel", "fails", "(ZZ)Z"⟩, 21) := ⟨⟨by decide +kernel, by decide +kernel⟩, List.mem_of_getElem? (i := 616) (by decide +kernel), List.mem_of_getElem? (i := 731) (by decide +kernel), List.mem_of_getElem? (i := 732) (by decide +kernel)⟩
theorem lw_p36 : lw_okq (⟨"DescriptorDeskModel", "isThere", "(I)Z"⟩, 21) := ⟨⟨by decide +kernel, by decide +kernel⟩, List.mem_of_getElem? (i := 616) (by decide +kernel), List.mem_of_getElem? (i := 739) (by decide +kernel), List.mem_of_getElem? (i := 740) (by decide +kernel)⟩
theorem lw_p37 : lw_okq (⟨"DescriptorDeskModel", "sweep", "()V"⟩, 21) := ⟨⟨by decide +kernel, by decide +kernel⟩, List.mem_of_getElem? (i := 616) (by decide +kernel), List.mem_of_getElem? (i := 743) (by decide +kernel), List.mem_of_getElem? (i := 744) (by decide +kernel)⟩
theorem lw_p38 : lw_okq (⟨"DescriptorDeskModel", "holders", "(I)I"⟩, 21) := ⟨⟨by decide +kernel, by decide +kernel⟩, List.mem_of_getElem? (i := 616) (by decide +kernel), List.mem_of_getElem? (i := 747) (by decide +kernel), List.mem_of_getElem? (i := 748) (by decide +kernel)⟩
theorem lw_p39 : lw_okq (⟨"DescriptorDeskModel", "openings", "(II)I"⟩, 21) := ⟨⟨by decide +kernel, by decide +kernel⟩, List.mem_of_getElem? (i := 616) (by decide +kernel), List.mem_of_getElem? (i := 751) (by decide +kernel), List.mem_of_getElem? (i := 752) (by decide +kernel)⟩
theorem lw_p40 : lw_okq (⟨"DescriptorDeskModel", "wake", "()I"⟩, 21) := ⟨⟨by decide +kernel, by decide +kernel⟩, List.mem_of_getElem? (i := 616) (by decide +kernel), List.mem_of_getElem? (i := 755) (by decide +kernel), List.mem_of_getElem? (i := 756) (by decide +kernel)⟩
theorem lw_p41 : lw_okq (⟨"DescriptorDeskModel", "waits", "(IZI)Z"⟩, 21) := ⟨⟨by decide +kernel, by decide +kernel⟩, List.mem_of_getElem? (i := 616) (by decide +kernel), List.mem_of_getElem? (i := 759) (by decide +kernel), List.mem_of_getElem? (i := 760) (by decide +kernel)⟩
theorem lw_p42 : lw_okq (⟨"DescriptorDeskModel", "named", "(I)I"⟩, 21) := ⟨⟨by decide +kernel, by decide +kernel⟩, List.mem_of_getElem? (i := 616) (by decide +kernel), List.mem_of_getElem? (i := 767) (by decide +kernel), List.mem_of_getElem? (i := 768) (by decide +kernel)⟩
theorem lw_p43 : lw_okq (⟨"DescriptorDeskModel", "freeFile", "()I"⟩, 21) := ⟨⟨by decide +kernel, by decide +kernel⟩, List.mem_of_getElem? (i := 616) (by decide +kernel), List.mem_of_getElem? (i := 771) (by decide +kernel), List.mem_of_getElem? (i := 772) (by decide +kernel)⟩
theorem lw_p44 : lw_okq (⟨"DescriptorDeskModel", "openingOf", "(II)I"⟩, 21) := ⟨⟨by decide +kernel, by decide +kernel⟩, List.mem_of_getElem? (i := 616) (by decide +kernel), List.mem_of_getElem? (i := 787) (by decide +kernel), List.mem_of_getElem? (i := 788) (by decide +kernel)⟩
theorem lw_p45 : lw_okq (⟨"DescriptorDeskModel", "freeDescriptors", "(I)I"⟩, 21) := ⟨⟨by decide +kernel, by decide +kernel⟩, List.mem_of_getElem? (i := 616) (by decide +kernel), List.mem_of_getElem? (i := 796) (by decide +kernel), List.mem_of_getElem? (i := 797) (by decide +kernel)⟩
theorem lw_p46 : lw_okq (⟨"DescriptorDeskModel", "countOpenings", "()I"⟩, 21) := ⟨⟨by decide +kernel, by decide +kernel⟩, List.mem_of_getElem? (i := 616) (by decide +kernel), List.mem_of_getElem? (i := 800) (by decide +kernel), List.mem_of_getElem? (i := 801) (by decide +kernel)⟩
theorem lw_p47 : lw_okq (⟨"DescriptorDeskModel", "waitFor", "(IIII)I"⟩, 21) := ⟨⟨by decide +kernel, by decide +kernel⟩, List.mem_of_getElem? (i := 616) (by decide +kernel), List.mem_of_getElem? (i := 808) (by decide +kernel), List.mem_of_getElem? (i := 809) (by decide +kernel)⟩
def lw_privs_3 : List (MethodName × Nat) := [(⟨"DescriptorDeskModel", "give", "(II)I"⟩, 21), (⟨"DescriptorDeskModel", "freeDescriptor", "(I)I"⟩, 21), (⟨"DescriptorDeskModel", "isReady", "(I)Z"⟩, 21), (⟨"DescriptorDeskModel", "fails", "(ZZ)Z"⟩, 21), (⟨"DescriptorDeskModel", "isThere", "(I)Z"⟩, 21), (⟨"DescriptorDeskModel", "sweep", "()V"⟩, 21), (⟨"DescriptorDeskModel", "holders", "(I)I"⟩, 21), (⟨"DescriptorDeskModel", "openings", "(II)I"⟩, 21), (⟨"DescriptorDeskModel", "wake", "()I"⟩, 21), (⟨"DescriptorDeskModel", "waits", "(IZI)Z"⟩, 21), (⟨"DescriptorDeskModel", "named", "(I)I"⟩, 21), (⟨"DescriptorDeskModel", "freeFile", "()I"⟩, 21), (⟨"DescriptorDeskModel", "openingOf", "(II)I"⟩, 21), (⟨"DescriptorDeskModel", "freeDescriptors", "(I)I"⟩, 21), (⟨"DescriptorDeskModel", "countOpenings", "()I"⟩, 21), (⟨"DescriptorDeskModel", "waitFor", "(IIII)I"⟩, 21)]
theorem lw_r3 : ∀ q ∈ lw_privs_3, lw_okq q := List.forall_mem_cons.mpr ⟨lw_p32, List.forall_mem_cons.mpr ⟨lw_p33, List.forall_mem_cons.mpr ⟨lw_p34, List.forall_mem_cons.mpr ⟨lw_p35, List.forall_mem_cons.mpr ⟨lw_p36, List.forall_mem_cons.mpr ⟨lw_p37, List.forall_mem_cons.mpr ⟨lw_p38, List.forall_mem_cons.mpr ⟨lw_p39, List.forall_mem_cons.mpr ⟨lw_p40, List.forall_mem_cons.mpr ⟨lw_p41, List.forall_mem_cons.mpr ⟨lw_p42, List.forall_mem_cons.mpr ⟨lw_p43, List.forall_mem_cons.mpr ⟨lw_p44, List.forall_mem_cons.mpr ⟨lw_p45, List.forall_mem_cons.mpr ⟨lw_p46, List.forall_mem_cons.mpr ⟨lw_p47, fun _ h => absurd h List.not_mem_nil⟩⟩⟩⟩⟩⟩⟩⟩⟩⟩⟩⟩⟩⟩⟩⟩
theorem lw_p48 : lw_okq (⟨"DescriptorDeskModel", "readPipe", "(III)I"⟩, 21) := ⟨⟨by decide +kernel, by decide +kernel⟩, List.mem_of_getElem? (i := 616) (by decide +kernel), List.mem_of_getElem? (i := 812) (by decide +kernel), List.mem_of_getElem? (i := 813) (by decide +kernel)⟩
theorem lw_p49 : lw_okq (⟨"DescriptorDeskModel", "take", "(III)V"⟩, 21) := ⟨⟨by decide +kernel, by decide +kernel⟩, List.mem_of_getElem? (i := 616) (by decide +kernel), List.mem_of_getElem? (i := 816) (by decide +kernel), List.mem_of_getElem? (i := 817) (by decide +kernel)⟩
theorem lw_p50 : lw_okq (⟨"DescriptorDeskModel", "readFile", "(III)I"⟩, 21) := ⟨⟨by decide +kernel, by decide +kernel⟩, List.mem_of_getElem? (i := 616) (by decide +kernel), List.mem_of_getElem? (i := 820) (by decide +kernel), List.mem_of_getElem? (i := 821) (by decide +kernel)⟩
theorem lw_p51 : lw_okq (⟨"DescriptorDeskModel", "readConsole", "(II)I"⟩, 21) := ⟨⟨by decide +kernel, by decide +kernel⟩, List.mem_of_getElem? (i := 616) (by decide +kernel), List.mem_of_getElem? (i := 824) (by decide +kernel), List.mem_of_getElem? (i := 825) (by decide +kernel)⟩
theorem lw_p52 : lw_okq (⟨"DescriptorDeskModel", "writeFile", "(IJI)I"⟩, 21) := ⟨⟨by decide +kernel, by decide +kernel⟩, List.mem_of_getElem? (i := 616) (by decide +kernel), List.mem_of_getElem? (i := 836) (by decide +kernel), List.mem_of_getElem? (i := 837) (by decide +kernel)⟩
theorem lw_p53 : lw_okq (⟨"DescriptorDeskModel", "show", "(I)V"⟩, 21) := ⟨⟨by decide +kernel, by decide +kernel⟩, List.mem_of_getElem? (i := 616) (by decide +kernel), List.mem_of_getElem? (i := 840) (by decide +kernel), List.mem_of_getElem? (i := 841) (by decide +kernel)⟩
theorem lw_p54 : lw_okq (⟨"DescriptorDeskModel", "vain", "()I"⟩, 21) := ⟨⟨by decide +kernel, by decide +kernel⟩, List.mem_of_getElem? (i := 616) (by decide +kernel), List.mem_of_getElem? (i := 873) (by decide +kernel), List.mem_of_getElem? (i := 874) (by decide +kernel)⟩
theorem lw_p55 : lw_okq (⟨"DescriptorDeskModel", "isOnly", "(III)Z"⟩, 21) := ⟨⟨by decide +kernel, by decide +kernel⟩, List.mem_of_getElem? (i := 616) (by decide +kernel), List.mem_of_getElem? (i := 877) (by decide +kernel), List.mem_of_getElem? (i := 878) (by decide +kernel)⟩
def lw_privs_4 : List (MethodName × Nat) := [(⟨"DescriptorDeskModel", "readPipe", "(III)I"⟩, 21), (⟨"DescriptorDeskModel", "take", "(III)V"⟩, 21), (⟨"DescriptorDeskModel", "readFile", "(III)I"⟩, 21), (⟨"DescriptorDeskModel", "readConsole", "(II)I"⟩, 21), (⟨"DescriptorDeskModel", "writeFile", "(IJI)I"⟩, 21), (⟨"DescriptorDeskModel", "show", "(I)V"⟩, 21), (⟨"DescriptorDeskModel", "vain", "()I"⟩, 21), (⟨"DescriptorDeskModel", "isOnly", "(III)Z"⟩, 21)]
theorem lw_r4 : ∀ q ∈ lw_privs_4, lw_okq q := List.forall_mem_cons.mpr ⟨lw_p48, List.forall_mem_cons.mpr ⟨lw_p49, List.forall_mem_cons.mpr ⟨lw_p50, List.forall_mem_cons.mpr ⟨lw_p51, List.forall_mem_cons.mpr ⟨lw_p52, List.forall_mem_cons.mpr ⟨lw_p53, List.forall_mem_cons.mpr ⟨lw_p54, List.forall_mem_cons.mpr ⟨lw_p55, fun _ h => absurd h List.not_mem_nil⟩⟩⟩⟩⟩⟩⟩⟩
def lw_privs : List (MethodName × Nat) := lw_privs_1 ++ (lw_privs_2 ++ (lw_privs_3 ++ (lw_privs_4)))
def lw_tbl : List Cond := k2_sels lw_privs ++ tables_1
theorem lw_privs_ok : ∀ q ∈ lw_privs, lw_okq q := by
  show ∀ q ∈ lw_privs_1 ++ (lw_privs_2 ++ (lw_privs_3 ++ (lw_privs_4))), lw_okq q
  exact List.forall_mem_append.mpr ⟨lw_r1, List.forall_mem_append.mpr ⟨lw_r2, List.forall_mem_append.mpr ⟨lw_r3, lw_r4⟩⟩⟩
-- ===== end of PART A; then your names; then what follows =====
end
section
/-! NAMES, by program (wip/gen): classes, fields, pools, the words that keep, the methods' names and decoded code -/
def x_tb : List Cond := lw_tbl.filter goodWord
def cn_0 : String := "DescriptorDesk"
def ft_0 : u_T := fun k => match k with
  | 0 => ("DescriptorDesk", "procs", "[LDescriptorDesk$Proc;", true)
  | 1 => ("DescriptorDesk", "openings", "[LDescriptorDesk$Opening;", true)
  | 2 => ("DescriptorDesk", "pipes", "[LDescriptorDesk$Pipe;", true)
  | 3 => ("DescriptorDesk", "files", "[LDescriptorDesk$StoredFile;", true)
  | 4 => ("DescriptorDesk", "typedBytes", "LDescriptorDesk$ByteRow;", true)
  | 5 => ("DescriptorDesk", "shownBytes", "LDescriptorDesk$ByteRow;", true)
  | _ => ("DescriptorDesk", "shownInAll", "I", false)
def cn_1 : String := "DescriptorDesk$Proc"
def ft_1 : u_T := fun k => match k with
  | 0 => ("DescriptorDesk$Proc", "descriptors", "[LDescriptorDesk$Opening;", true)
  | 1 => ("DescriptorDesk$Proc", "condition", "I", false)
  | 2 => ("DescriptorDesk$Proc", "waitsThrough", "I", false)
  | 3 => ("DescriptorDesk$Proc", "wants", "I", false)
  | _ => ("DescriptorDesk$Proc", "latest", "J", false)
def cn_2 : String := "DescriptorDesk$Opening"
def ft_2 : u_T := fun k => match k with
  | 0 => ("DescriptorDesk$Opening", "pipe", "LDescriptorDesk$Pipe;", false)
  | 1 => ("DescriptorDesk$Opening", "file", "LDescriptorDesk$StoredFile;", false)
  | 2 => ("DescriptorDesk$Opening", "position", "I", false)
  | 3 => ("DescriptorDesk$Opening", "rights", "I", false)
  | _ => ("DescriptorDesk$Opening", "holders", "I", false)
def cn_3 : String := "DescriptorDesk$Pipe"
def ft_3 : u_T := fun k => match k with
  | 0 => ("DescriptorDesk$Pipe", "bytes", "LDescriptorDesk$ByteRow;", true)
  | 1 => ("DescriptorDesk$Pipe", "readers", "I", false)
  | _ => ("DescriptorDesk$Pipe", "writers", "I", false)
def cn_4 : String := "DescriptorDesk$StoredFile"
def ft_4 : u_T := fun k => match k with
  | 0 => ("DescriptorDesk$StoredFile", "bytes", "[I", true)
  | 1 => ("DescriptorDesk$StoredFile", "length", "I", false)
  | 2 => ("DescriptorDesk$StoredFile", "name", "I", false)
  | _ => ("DescriptorDesk$StoredFile", "users", "I", false)
def cn_5 : String := "DescriptorDesk$ByteRow"
def ft_5 : u_T := fun k => match k with
  | 0 => ("DescriptorDesk$ByteRow", "places", "[I", true)
  | 1 => ("DescriptorDesk$ByteRow", "first", "I", false)
  | _ => ("DescriptorDesk$ByteRow", "size", "I", false)
def cn_6 : String := "DescriptorDeskModel"
def ft_6 : u_T := fun k => match k with
  | 0 => ("DescriptorDeskModel", "code", "I", false)
  | 1 => ("DescriptorDeskModel", "life", "[I", true)
  | 2 => ("DescriptorDeskModel", "through", "[I", true)
  | 3 => ("DescriptorDeskModel", "wanted", "[I", true)
  | 4 => ("DescriptorDeskModel", "descriptor", "[I", true)
  | 5 => ("DescriptorDeskModel", "given", "[J", true)
  | 6 => ("DescriptorDeskModel", "kind", "[I", true)
  | 7 => ("DescriptorDeskModel", "thing", "[I", true)
  | 8 => ("DescriptorDeskModel", "position", "[I", true)
  | 9 => ("DescriptorDeskModel", "right", "[I", true)
  | 10 => ("DescriptorDeskModel", "piped", "[I", true)
  | 11 => ("DescriptorDeskModel", "pipeBytes", "[I", true)
  | 12 => ("DescriptorDeskModel", "isPipe", "[Z", true)
  | 13 => ("DescriptorDeskModel", "isFile", "[Z", true)
  | 14 => ("DescriptorDeskModel", "name", "[I", true)
  | 15 => ("DescriptorDeskModel", "length", "[I", true)
  | 16 => ("DescriptorDeskModel", "fileBytes", "[I", true)
  | 17 => ("DescriptorDeskModel", "typed", "I", false)
  | 18 => ("DescriptorDeskModel", "typedBytes", "[I", true)
  | 19 => ("DescriptorDeskModel", "shown", "J", false)
  | _ => ("DescriptorDeskModel", "shownBytes", "[I", true)
abbrev xk_cl : List vw_C := [(cn_0, ft_0, 7), (cn_1, ft_1, 5), (cn_2, ft_2, 5), (cn_3, ft_3, 3), (cn_4, ft_4, 4), (cn_5, ft_5, 3), (cn_6, ft_6, 21)]
/-- the type of a field: by the class's number and the field's -/
def xk_ty : Nat → Nat → FieldType := fun c k => match c, k with
  | 0, 0 => .array (.object "DescriptorDesk$Proc")
  | 0, 1 => .array (.object "DescriptorDesk$Opening")
  | 0, 2 => .array (.object "DescriptorDesk$Pipe")
  | 0, 3 => .array (.object "DescriptorDesk$StoredFile")
  | 0, 4 => .object "DescriptorDesk$ByteRow"
  | 0, 5 => .object "DescriptorDesk$ByteRow"
  | 0, 6 => .int
  | 1, 0 => .array (.object "DescriptorDesk$Opening")
  | 1, 1 => .int
  | 1, 2 => .int
  | 1, 3 => .int
  | 1, 4 => .long
  | 2, 0 => .object "DescriptorDesk$Pipe"
  | 2, 1 => .object "DescriptorDesk$StoredFile"
  | 2, 2 => .int
  | 2, 3 => .int
  | 2, 4 => .int
  | 3, 0 => .object "DescriptorDesk$ByteRow"
  | 3, 1 => .int
  | 3, 2 => .int
  | 4, 0 => .array .int
  | 4, 1 => .int
  | 4, 2 => .int
  | 4, 3 => .int
  | 5, 0 => .array .int
  | 5, 1 => .int
  | 5, 2 => .int
  | 6, 0 => .int
  | 6, 1 => .array .int
  | 6, 2 => .array .int
  | 6, 3 => .array .int
  | 6, 4 => .array .int
  | 6, 5 => .array .long
  | 6, 6 => .array .int
  | 6, 7 => .array .int
  | 6, 8 => .array .int
  | 6, 9 => .array .int
  | 6, 10 => .array .int
  | 6, 11 => .array .int
  | 6, 12 => .array .boolean
  | 6, 13 => .array .boolean
  | 6, 14 => .array .int
  | 6, 15 => .array .int
  | 6, 16 => .array .int
  | 6, 17 => .int
  | 6, 18 => .array .int
  | 6, 19 => .long
  | 6, 20 => .array .int
  | _, _ => .int
/-- a pool's class by number; none: a pool of arrays -/
def xk_c : Nat → Option Nat := fun q => match q with
  | 0 => some 0
  | 1 => some 1
  | 2 => some 2
  | 3 => some 3
  | 4 => some 4
  | 5 => some 5
  | 32 => some 6
  | _ => none
/-- how many slots an object of the pool has -/
def xk_n : Nat → Nat := fun q => match q with
  | 0 => 7
  | 1 => 5
  | 2 => 5
  | 3 => 3
  | 4 => 4
  | 5 => 3
  | 32 => 21
  | 6 => 8
  | 7 => 20
  | 8 => 6
  | 9 => 6
  | 10 => 8
  | 11 => 64
  | 12 => 64
  | 33 => 8
  | 34 => 8
  | 35 => 8
  | 36 => 64
  | 37 => 8
  | 38 => 20
  | 39 => 20
  | 40 => 20
  | 41 => 20
  | 42 => 6
  | 43 => 192
  | 44 => 6
  | 45 => 6
  | 46 => 6
  | 47 => 6
  | 48 => 384
  | 49 => 40
  | 50 => 60
  | 64 => 1
  | _ => 0
/-- a slot's sort: 0 an int, 1 a long, 2 a reference -/
def xk_s : Nat → Nat → Nat := fun q => match q with
  | 0 => fun k => match k with
    | 0 => 2
    | 1 => 2
    | 2 => 2
    | 3 => 2
    | 4 => 2
    | 5 => 2
    | 6 => 0
    | _ => 0
  | 1 => fun k => match k with
    | 0 => 2
    | 1 => 0
    | 2 => 0
    | 3 => 0
    | 4 => 1
    | _ => 0
  | 2 => fun k => match k with
    | 0 => 2
    | 1 => 2
    | 2 => 0
    | 3 => 0
    | 4 => 0
    | _ => 0
  | 3 => fun k => match k with
    | 0 => 2
    | 1 => 0
    | 2 => 0
    | _ => 0
  | 4 => fun k => match k with
    | 0 => 2
    | 1 => 0
    | 2 => 0
    | 3 => 0
    | _ => 0
  | 5 => fun k => match k with
    | 0 => 2
    | 1 => 0
    | 2 => 0
    | _ => 0
  | 32 => fun k => match k with
    | 0 => 0
    | 1 => 2
    | 2 => 2
    | 3 => 2
    | 4 => 2
    | 5 => 2
    | 6 => 2
    | 7 => 2
    | 8 => 2
    | 9 => 2
    | 10 => 2
    | 11 => 2
    | 12 => 2
    | 13 => 2
    | 14 => 2
    | 15 => 2
    | 16 => 2
    | 17 => 0
    | 18 => 2
    | 19 => 1
    | 20 => 2
    | _ => 0
  | 6 => fun _ => 2
  | 7 => fun _ => 2
  | 8 => fun _ => 2
  | 9 => fun _ => 2
  | 10 => fun _ => 2
  | 11 => fun _ => 0
  | 12 => fun _ => 0
  | 33 => fun _ => 0
  | 34 => fun _ => 0
  | 35 => fun _ => 0
  | 36 => fun _ => 0
  | 37 => fun _ => 1
  | 38 => fun _ => 0
  | 39 => fun _ => 0
  | 40 => fun _ => 0
  | 41 => fun _ => 0
  | 42 => fun _ => 0
  | 43 => fun _ => 0
  | 44 => fun _ => 0
  | 45 => fun _ => 0
  | 46 => fun _ => 0
  | 47 => fun _ => 0
  | 48 => fun _ => 0
  | 49 => fun _ => 0
  | 50 => fun _ => 0
  | 64 => fun _ => 1
  | _ => fun _ => 0
/-- the pool to which a slot's reference leads -/
def xk_t : Nat → Nat → Nat := fun q => match q with
  | 0 => fun k => match k with
    | 0 => 6
    | 1 => 7
    | 2 => 8
    | 3 => 9
    | 4 => 5
    | 5 => 5
    | _ => 0
  | 1 => fun k => match k with
    | 0 => 10
    | _ => 0
  | 2 => fun k => match k with
    | 0 => 3
    | 1 => 4
    | _ => 0
  | 3 => fun k => match k with
    | 0 => 5
    | _ => 0
  | 4 => fun k => match k with
    | 0 => 11
    | _ => 0
  | 5 => fun k => match k with
    | 0 => 12
    | _ => 0
  | 32 => fun k => match k with
    | 1 => 33
    | 2 => 34
    | 3 => 35
    | 4 => 36
    | 5 => 37
    | 6 => 38
    | 7 => 39
    | 8 => 40
    | 9 => 41
    | 10 => 42
    | 11 => 43
    | 12 => 44
    | 13 => 45
    | 14 => 46
    | 15 => 47
    | 16 => 48
    | 18 => 49
    | 20 => 50
    | _ => 0
  | 6 => fun _ => 1
  | 7 => fun _ => 2
  | 8 => fun _ => 3
  | 9 => fun _ => 4
  | 10 => fun _ => 2
  | _ => fun _ => 0
/-- an array pool's component type -/
def xk_a : Nat → Option FieldType := fun q => match q with
  | 6 => some (.object "DescriptorDesk$Proc")
  | 7 => some (.object "DescriptorDesk$Opening")
  | 8 => some (.object "DescriptorDesk$Pipe")
  | 9 => some (.object "DescriptorDesk$StoredFile")
  | 10 => some (.object "DescriptorDesk$Opening")
  | 11 => some (.int)
  | 12 => some (.int)
  | 33 => some (.int)
  | 34 => some (.int)
  | 35 => some (.int)
  | 36 => some (.int)
  | 37 => some (.long)
  | 38 => some (.int)
  | 39 => some (.int)
  | 40 => some (.int)
  | 41 => some (.int)
  | 42 => some (.int)
  | 43 => some (.int)
  | 44 => some (.boolean)
  | 45 => some (.boolean)
  | 46 => some (.int)
  | 47 => some (.int)
  | 48 => some (.int)
  | 49 => some (.int)
  | 50 => some (.int)
  | 64 => some (.long)
  | _ => none
/-- the words on nest mates -/
def xk_nest : List Cond := [(Jvm.Cond.methodLinkNest "DescriptorDesk" (35 : Nat) ({ cls := "DescriptorDesk$ByteRow", name := "<init>", desc := "()V" } : Jvm.MethodName) "DescriptorDesk"), (Jvm.Cond.fieldLinkNest "DescriptorDesk" (169 : Nat) "DescriptorDesk$ByteRow" "size" "I" "DescriptorDesk"), (Jvm.Cond.methodLinkNest "DescriptorDesk" (47 : Nat) ({ cls := "DescriptorDesk$Proc", name := "<init>", desc := "()V" } : Jvm.MethodName) "DescriptorDesk"), (Jvm.Cond.fieldLinkNest "DescriptorDesk" (178 : Nat) "DescriptorDesk$Proc" "condition" "I" "DescriptorDesk"), (Jvm.Cond.fieldLinkNest "DescriptorDesk" (181 : Nat) "DescriptorDesk$Proc" "waitsThrough" "I" "DescriptorDesk"), (Jvm.Cond.fieldLinkNest "DescriptorDesk" (184 : Nat) "DescriptorDesk$Proc" "wants" "I" "DescriptorDesk"), (Jvm.Cond.fieldLinkNest "DescriptorDesk" (133 : Nat) "DescriptorDesk$Proc" "latest" "J" "DescriptorDesk"), (Jvm.Cond.methodLinkNest "DescriptorDesk" (48 : Nat) ({ cls := "DescriptorDesk$Opening", name := "<init>", desc := "()V" } : Jvm.MethodName) "DescriptorDesk"), (Jvm.Cond.fieldLinkNest "DescriptorDesk" (246 : Nat) "DescriptorDesk$Opening" "pipe" "LDescriptorDesk$Pipe;" "DescriptorDesk"), (Jvm.Cond.fieldLinkNest "DescriptorDesk" (158 : Nat) "DescriptorDesk$Opening" "file" "LDescriptorDesk$StoredFile;" "DescriptorDesk"), (Jvm.Cond.fieldLinkNest "DescriptorDesk" (162 : Nat) "DescriptorDesk$Opening" "position" "I" "DescriptorDesk"), (Jvm.Cond.fieldLinkNest "DescriptorDesk" (197 : Nat) "DescriptorDesk$Opening" "rights" "I" "DescriptorDesk"), (Jvm.Cond.fieldLinkNest "DescriptorDesk$Proc" (44 : Nat) "DescriptorDesk$Opening" "holders" "I" "DescriptorDesk"), (Jvm.Cond.fieldLinkNest "DescriptorDesk" (191 : Nat) "DescriptorDesk$Opening" "holders" "I" "DescriptorDesk"), (Jvm.Cond.methodLinkNest "DescriptorDesk" (49 : Nat) ({ cls := "DescriptorDesk$Pipe", name := "<init>", desc := "()V" } : Jvm.MethodName) "DescriptorDesk"), (Jvm.Cond.methodLinkNest "DescriptorDesk$Pipe" (11 : Nat) ({ cls := "DescriptorDesk$ByteRow", name := "<init>", desc := "()V" } : Jvm.MethodName) "DescriptorDesk"), (Jvm.Cond.fieldLinkNest "DescriptorDesk" (250 : Nat) "DescriptorDesk$Pipe" "bytes" "LDescriptorDesk$ByteRow;" "DescriptorDesk"), (Jvm.Cond.fieldLinkNest "DescriptorDesk" (256 : Nat) "DescriptorDesk$Pipe" "readers" "I" "DescriptorDesk"), (Jvm.Cond.fieldLinkNest "DescriptorDesk" (253 : Nat) "DescriptorDesk$Pipe" "writers" "I" "DescriptorDesk"), (Jvm.Cond.methodLinkNest "DescriptorDesk" (50 : Nat) ({ cls := "DescriptorDesk$StoredFile", name := "<init>", desc := "()V" } : Jvm.MethodName) "DescriptorDesk"), (Jvm.Cond.fieldLinkNest "DescriptorDesk" (115 : Nat) "DescriptorDesk$StoredFile" "length" "I" "DescriptorDesk"), (Jvm.Cond.fieldLinkNest "DescriptorDesk" (112 : Nat) "DescriptorDesk$StoredFile" "name" "I" "DescriptorDesk"), (Jvm.Cond.fieldLinkNest "DescriptorDesk$Opening" (33 : Nat) "DescriptorDesk$StoredFile" "users" "I" "DescriptorDesk")]
theorem xk_in : ∀ c, c < 7 → ∀ w ∈ u_ws (xk_cl.getD c ("", ft_0, 0)).1 (xk_cl.getD c ("", ft_0, 0)).2.1 (xk_cl.getD c ("", ft_0, 0)).2.2, w ∈ x_tb := by decide +kernel
theorem xk_tyok : ∀ c, c < 7 → ∀ k, k < (xk_cl.getD c ("", ft_0, 0)).2.2 → parseFieldDescriptor ((xk_cl.getD c ("", ft_0, 0)).2.1 k).2.2.1 = some (xk_ty c k) := by decide +kernel
theorem xk_nm : ∀ c, c < 7 → ∀ a, a < (xk_cl.getD c ("", ft_0, 0)).2.2 → ∀ b, b < (xk_cl.getD c ("", ft_0, 0)).2.2 → a ≠ b → ((xk_cl.getD c ("", ft_0, 0)).2.1 a).2.1 ≠ ((xk_cl.getD c ("", ft_0, 0)).2.1 b).2.1 := by decide +kernel
theorem xk_nestok : ∀ w ∈ xk_nest, w ∈ lw_tbl := by decide +kernel
theorem xk_un : ∀ q, xk_c q = none → ∀ k, xk_s q k = xk_s q 0 ∧ xk_t q k = xk_t q 0 := by
  intro q h k
  unfold xk_c at h
  constructor
  · unfold xk_s; split <;> first | rfl | cases h
  · unfold xk_t; split <;> first | rfl | cases h
theorem xk_s_le : ∀ q k, xk_s q k ≤ 2 := by
  intro q k
  unfold xk_s; split <;> first | (show _ ≤ 2; dsimp only; split <;> decide) | (dsimp only; decide)
/-- the texts of the exceptions -/
def xk_str : List (String × Nat × String) := [("DescriptorDesk", 229, "the process is absent or waits"), ("DescriptorDesk", 82, "no such process"), ("DescriptorDesk", 231, "a name is 1 .. 9"), ("DescriptorDesk", 235, "there is no such way to open"), ("DescriptorDesk", 233, "n is not 0 .. 8"), ("DescriptorDesk", 153, "no such descriptor to copy to"), ("DescriptorDesk", 156, "from is not 0 .. 2"), ("DescriptorDesk", 167, "not a byte")]
def xk_over : List String := ["DescriptorDesk$Proc", "DescriptorDesk$Opening", "DescriptorDesk$Pipe", "DescriptorDesk$StoredFile"]
def xk_unc : List (String × String) := [("java/lang/IllegalStateException", "java/lang/IllegalArgumentException"), ("java/lang/IllegalArgumentException", "java/lang/IllegalStateException")]
def xk_dec : List MethodName := [({ cls := "java/lang/RuntimeException", name := "<init>", desc := "()V" } : Jvm.MethodName), ({ cls := "java/lang/RuntimeException", name := "<init>", desc := "(Ljava/lang/String;)V" } : Jvm.MethodName), ({ cls := "java/lang/Exception", name := "<init>", desc := "()V" } : Jvm.MethodName), ({ cls := "java/lang/Exception", name := "<init>", desc := "(Ljava/lang/String;)V" } : Jvm.MethodName), ({ cls := "java/lang/Throwable", name := "<init>", desc := "()V" } : Jvm.MethodName), ({ cls := "java/lang/Throwable", name := "<init>", desc := "(Ljava/lang/String;)V" } : Jvm.MethodName)]
/-- what a method is: its class, bytes, locals, return type, handlers, name -/
abbrev XM : Type := String × ByteArray × Nat × Option FieldType × List (Nat × Nat × Nat × Nat) × String
theorem xk_nestform : ∀ w ∈ xk_nest, (∃ a i b n d ho, w = .fieldLinkNest a i b n d ho) ∨ (∃ a i x ho, w = .methodLinkNest a i x ho) := by
  intro w hw
  simp only [xk_nest, List.mem_cons, List.not_mem_nil, or_false] at hw
  rcases hw with rfl | rfl | rfl | rfl | rfl | rfl | rfl | rfl | rfl | rfl | rfl | rfl | rfl | rfl | rfl | rfl | rfl | rfl | rfl | rfl | rfl | rfl | rfl <;> first | exact Or.inl ⟨_, _, _, _, _, _, rfl⟩ | exact Or.inr ⟨_, _, _, _, rfl⟩
end
section
/-! the methods: descriptors, rooms, decoded code, by program (wip/gen/gen20.py) -/
abbrev M_B_init : XM := ("DescriptorDesk$ByteRow", prog_2_method_1_code, 1, (none : Option FieldType), [], "<init>")
abbrev rm_B_init : Room := { frames := 1, cells := 1, slots := 64, locals := 20 }
def tb_B_init : List (Nat × Instr × Nat) := [(0, .aload_n 0, 1), (1, .invokespecial 3, 3), (4, .aload_n 0, 1), (5, .bipush 64, 2), (7, .newarray .int, 2), (9, .putfield 9, 3), (12, .aload_n 0, 1), (13, .iconst 0, 1), (14, .putfield 13, 3), (17, .aload_n 0, 1), (18, .iconst 0, 1), (19, .putfield 17, 3), (22, .return_, 1)]
theorem dd_B_init : ∀ q ∈ tb_B_init, decode prog_2_method_1_code q.1 = .ok q.2 := by decide +kernel
theorem d_B_init {pc len : Nat} {i : Instr} (k : Nat) (h : tb_B_init[k]? = some (pc, i, len)) : decode prog_2_method_1_code pc = .ok (i, len) := dd_B_init (pc, i, len) (List.mem_of_getElem? h)
abbrev M_P_init : XM := ("DescriptorDesk$Proc", prog_5_method_1_code, 1, (none : Option FieldType), [], "<init>")
abbrev rm_P_init : Room := { frames := 1, cells := 1, slots := 8, locals := 20 }
def tb_P_init : List (Nat × Instr × Nat) := [(0, .aload_n 0, 1), (1, .invokespecial 3, 3), (4, .aload_n 0, 1), (5, .bipush 8, 2), (7, .anewarray 9, 3), (10, .putfield 11, 3), (13, .aload_n 0, 1), (14, .iconst 0, 1), (15, .putfield 17, 3), (18, .aload_n 0, 1), (19, .iconst (-1), 1), (20, .putfield 21, 3), (23, .aload_n 0, 1), (24, .iconst 0, 1), (25, .putfield 24, 3), (28, .aload_n 0, 1), (29, .lconst 0, 1), (30, .putfield 27, 3), (33, .return_, 1)]
theorem dd_P_init : ∀ q ∈ tb_P_init, decode prog_5_method_1_code q.1 = .ok q.2 := by decide +kernel
theorem d_P_init {pc len : Nat} {i : Instr} (k : Nat) (h : tb_P_init[k]? = some (pc, i, len)) : decode prog_5_method_1_code pc = .ok (i, len) := dd_P_init (pc, i, len) (List.mem_of_getElem? h)
abbrev M_O_init : XM := ("DescriptorDesk$Opening", prog_3_method_1_code, 1, (none : Option FieldType), [], "<init>")
abbrev rm_O_init : Room := { frames := 1, cells := 0, slots := 0, locals := 20 }
def tb_O_init : List (Nat × Instr × Nat) := [(0, .aload_n 0, 1), (1, .invokespecial 1, 3), (4, .aload_n 0, 1), (5, .aconst_null, 1), (6, .putfield 7, 3), (9, .aload_n 0, 1), (10, .aconst_null, 1), (11, .putfield 13, 3), (14, .aload_n 0, 1), (15, .iconst 0, 1), (16, .putfield 17, 3), (19, .aload_n 0, 1), (20, .iconst 0, 1), (21, .putfield 21, 3), (24, .aload_n 0, 1), (25, .iconst 0, 1), (26, .putfield 24, 3), (29, .return_, 1)]
theorem dd_O_init : ∀ q ∈ tb_O_init, decode prog_3_method_1_code q.1 = .ok q.2 := by decide +kernel
theorem d_O_init {pc len : Nat} {i : Instr} (k : Nat) (h : tb_O_init[k]? = some (pc, i, len)) : decode prog_3_method_1_code pc = .ok (i, len) := dd_O_init (pc, i, len) (List.mem_of_getElem? h)
abbrev M_I_init : XM := ("DescriptorDesk$Pipe", prog_4_method_1_code, 1, (none : Option FieldType), [], "<init>")
abbrev rm_I_init : Room := { frames := 2, cells := 2, slots := 67, locals := 40 }
def tb_I_init : List (Nat × Instr × Nat) := [(0, .aload_n 0, 1), (1, .invokespecial 3, 3), (4, .aload_n 0, 1), (5, .new 9, 3), (8, .dup, 1), (9, .invokespecial 11, 3), (12, .putfield 12, 3), (15, .aload_n 0, 1), (16, .iconst 0, 1), (17, .putfield 18, 3), (20, .aload_n 0, 1), (21, .iconst 0, 1), (22, .putfield 22, 3), (25, .return_, 1)]
theorem dd_I_init : ∀ q ∈ tb_I_init, decode prog_4_method_1_code q.1 = .ok q.2 := by decide +kernel
theorem d_I_init {pc len : Nat} {i : Instr} (k : Nat) (h : tb_I_init[k]? = some (pc, i, len)) : decode prog_4_method_1_code pc = .ok (i, len) := dd_I_init (pc, i, len) (List.mem_of_getElem? h)
abbrev M_F_init : XM := ("DescriptorDesk$StoredFile", prog_6_method_1_code, 1, (none : Option FieldType), [], "<init>")
abbrev rm_F_init : Room := { frames := 1, cells := 1, slots := 64, locals := 20 }
def tb_F_init : List (Nat × Instr × Nat) := [(0, .aload_n 0, 1), (1, .invokespecial 3, 3), (4, .aload_n 0, 1), (5, .bipush 64, 2), (7, .newarray .int, 2), (9, .putfield 9, 3), (12, .aload_n 0, 1), (13, .iconst 0, 1), (14, .putfield 15, 3), (17, .aload_n 0, 1), (18, .iconst 0, 1), (19, .putfield 19, 3), (22, .aload_n 0, 1), (23, .iconst 0, 1), (24, .putfield 22, 3), (27, .return_, 1)]
theorem dd_F_init : ∀ q ∈ tb_F_init, decode prog_6_method_1_code q.1 = .ok q.2 := by decide +kernel
theorem d_F_init {pc len : Nat} {i : Instr} (k : Nat) (h : tb_F_init[k]? = some (pc, i, len)) : decode prog_6_method_1_code pc = .ok (i, len) := dd_F_init (pc, i, len) (List.mem_of_getElem? h)
abbrev M_D_init : XM := ("DescriptorDesk", prog_1_method_1_code, 2, (none : Option FieldType), [], "<init>")
abbrev rm_D_init : Room := { frames := 3, cells := 74, slots := 1206, locals := 60 }
def tb_D_init : List (Nat × Instr × Nat) := [(0, .aload_n 0, 1), (1, .invokespecial 3, 3), (4, .aload_n 0, 1), (5, .bipush 8, 2), (7, .anewarray 9, 3), (10, .putfield 11, 3), (13, .aload_n 0, 1), (14, .bipush 20, 2), (16, .anewarray 15, 3), (19, .putfield 17, 3), (22, .aload_n 0, 1), (23, .bipush 6, 2), (25, .anewarray 21, 3), (28, .putfield 23, 3), (31, .aload_n 0, 1), (32, .bipush 6, 2), (34, .anewarray 27, 3), (37, .putfield 29, 3), (40, .aload_n 0, 1), (41, .new 33, 3), (44, .dup, 1), (45, .invokespecial 35, 3), (48, .putfield 36, 3), (51, .aload_n 0, 1), (52, .new 33, 3), (55, .dup, 1), (56, .invokespecial 35, 3), (59, .putfield 40, 3), (62, .aload_n 0, 1), (63, .iconst 0, 1), (64, .putfield 43, 3), (67, .iconst 0, 1), (68, .istore_n 1, 1), (69, .iload_n 1, 1), (70, .bipush 8, 2), (72, .if_icmp .ge 22, 3), (75, .aload_n 0, 1), (76, .getfield 11, 3), (79, .iload_n 1, 1), (80, .new 9, 3), (83, .dup, 1), (84, .invokespecial 47, 3), (87, .aastore, 1), (88, .iinc 1 1, 3), (91, .goto (-22), 3), (94, .iconst 0, 1), (95, .istore_n 1, 1), (96, .iload_n 1, 1), (97, .bipush 20, 2), (99, .if_icmp .ge 22, 3), (102, .aload_n 0, 1), (103, .getfield 17, 3), (106, .iload_n 1, 1), (107, .new 15, 3), (110, .dup, 1), (111, .invokespecial 48, 3), (114, .aastore, 1), (115, .iinc 1 1, 3), (118, .goto (-22), 3), (121, .iconst 0, 1), (122, .istore_n 1, 1), (123, .iload_n 1, 1), (124, .bipush 6, 2), (126, .if_icmp .ge 22, 3), (129, .aload_n 0, 1), (130, .getfield 23, 3), (133, .iload_n 1, 1), (134, .new 21, 3), (137, .dup, 1), (138, .invokespecial 49, 3), (141, .aastore, 1), (142, .iinc 1 1, 3), (145, .goto (-22), 3), (148, .iconst 0, 1), (149, .istore_n 1, 1), (150, .iload_n 1, 1), (151, .bipush 6, 2), (153, .if_icmp .ge 22, 3), (156, .aload_n 0, 1), (157, .getfield 29, 3), (160, .iload_n 1, 1), (161, .new 27, 3), (164, .dup, 1), (165, .invokespecial 50, 3), (168, .aastore, 1), (169, .iinc 1 1, 3), (172, .goto (-22), 3), (175, .return_, 1)]
theorem dd_D_init : ∀ q ∈ tb_D_init, decode prog_1_method_1_code q.1 = .ok q.2 := by decide +kernel
theorem d_D_init {pc len : Nat} {i : Instr} (k : Nat) (h : tb_D_init[k]? = some (pc, i, len)) : decode prog_1_method_1_code pc = .ok (i, len) := dd_D_init (pc, i, len) (List.mem_of_getElem? h)
abbrev M_D_leastAbsent : XM := ("DescriptorDesk", prog_1_method_25_code, 2, (some FieldType.int), [], "leastAbsent")
abbrev rm_D_leastAbsent : Room := { frames := 0, cells := 0, slots := 0, locals := 0 }
def tb_D_leastAbsent : List (Nat × Instr × Nat) := [(0, .iconst 0, 1), (1, .istore_n 1, 1), (2, .iload_n 1, 1), (3, .bipush 8, 2), (5, .if_icmp .ge 23, 3), (8, .aload_n 0, 1), (9, .getfield 11, 3), (12, .iload_n 1, 1), (13, .aaload, 1), (14, .getfield 178, 3), (17, .ifCond .ne 5, 3), (20, .iload_n 1, 1), (21, .ireturn, 1), (22, .iinc 1 1, 3), (25, .goto (-23), 3), (28, .iconst (-1), 1), (29, .ireturn, 1)]
theorem dd_D_leastAbsent : ∀ q ∈ tb_D_leastAbsent, decode prog_1_method_25_code q.1 = .ok q.2 := by decide +kernel
theorem d_D_leastAbsent {pc len : Nat} {i : Instr} (k : Nat) (h : tb_D_leastAbsent[k]? = some (pc, i, len)) : decode prog_1_method_25_code pc = .ok (i, len) := dd_D_leastAbsent (pc, i, len) (List.mem_of_getElem? h)
abbrev M_D_freeOpening : XM := ("DescriptorDesk", prog_1_method_26_code, 6, (some (FieldType.object "DescriptorDesk$Opening")), [], "freeOpening")
abbrev rm_D_freeOpening : Room := { frames := 0, cells := 0, slots := 0, locals := 0 }
def tb_D_freeOpening : List (Nat × Instr × Nat) := [(0, .aload_n 0, 1), (1, .getfield 17, 3), (4, .astore_n 2, 1), (5, .aload_n 2, 1), (6, .arraylength, 1), (7, .istore_n 3, 1), (8, .iconst 0, 1), (9, .istore 4, 2), (11, .iload 4, 2), (13, .iload_n 3, 1), (14, .if_icmp .ge 32, 3), (17, .aload_n 2, 1), (18, .iload 4, 2), (20, .aaload, 1), (21, .astore 5, 2), (23, .aload 5, 2), (25, .getfield 191, 3), (28, .ifCond .ne 12, 3), (31, .aload 5, 2), (33, .aload_n 1, 1), (34, .if_acmp .eq 6, 3), (37, .aload 5, 2), (39, .areturn, 1), (40, .iinc 4 1, 3), (43, .goto (-32), 3), (46, .aconst_null, 1), (47, .areturn, 1)]
theorem dd_D_freeOpening : ∀ q ∈ tb_D_freeOpening, decode prog_1_method_26_code q.1 = .ok q.2 := by decide +kernel
theorem d_D_freeOpening {pc len : Nat} {i : Instr} (k : Nat) (h : tb_D_freeOpening[k]? = some (pc, i, len)) : decode prog_1_method_26_code pc = .ok (i, len) := dd_D_freeOpening (pc, i, len) (List.mem_of_getElem? h)
abbrev M_P_beReady : XM := ("DescriptorDesk$Proc", prog_5_method_3_code, 1, (none : Option FieldType), [], "beReady")
abbrev rm_P_beReady : Room := { frames := 0, cells := 0, slots := 0, locals := 0 }
def tb_P_beReady : List (Nat × Instr × Nat) := [(0, .aload_n 0, 1), (1, .iconst 1, 1), (2, .putfield 17, 3), (5, .aload_n 0, 1), (6, .iconst (-1), 1), (7, .putfield 21, 3), (10, .aload_n 0, 1), (11, .iconst 0, 1), (12, .putfield 24, 3), (15, .return_, 1)]
theorem dd_P_beReady : ∀ q ∈ tb_P_beReady, decode prog_5_method_3_code q.1 = .ok q.2 := by decide +kernel
theorem d_P_beReady {pc len : Nat} {i : Instr} (k : Nat) (h : tb_P_beReady[k]? = some (pc, i, len)) : decode prog_5_method_3_code pc = .ok (i, len) := dd_P_beReady (pc, i, len) (List.mem_of_getElem? h)
abbrev M_P_begin : XM := ("DescriptorDesk$Proc", prog_5_method_2_code, 1, (none : Option FieldType), [], "begin")
abbrev rm_P_begin : Room := { frames := 1, cells := 0, slots := 0, locals := 20 }
def tb_P_begin : List (Nat × Instr × Nat) := [(0, .aload_n 0, 1), (1, .invokevirtual 31, 3), (4, .aload_n 0, 1), (5, .lconst 0, 1), (6, .putfield 27, 3), (9, .return_, 1)]
theorem dd_P_begin : ∀ q ∈ tb_P_begin, decode prog_5_method_2_code q.1 = .ok q.2 := by decide +kernel
theorem d_P_begin {pc len : Nat} {i : Instr} (k : Nat) (h : tb_P_begin[k]? = some (pc, i, len)) : decode prog_5_method_2_code pc = .ok (i, len) := dd_P_begin (pc, i, len) (List.mem_of_getElem? h)
abbrev M_I_addEnd : XM := ("DescriptorDesk$Pipe", prog_4_method_3_code, 2, (none : Option FieldType), [], "addEnd")
abbrev rm_I_addEnd : Room := { frames := 0, cells := 0, slots := 0, locals := 0 }
def tb_I_addEnd : List (Nat × Instr × Nat) := [(0, .iload_n 1, 1), (1, .iconst 1, 1), (2, .if_icmp .ne 16, 3), (5, .aload_n 0, 1), (6, .dup, 1), (7, .getfield 18, 3), (10, .iconst 1, 1), (11, .iadd, 1), (12, .putfield 18, 3), (15, .goto 13, 3), (18, .aload_n 0, 1), (19, .dup, 1), (20, .getfield 22, 3), (23, .iconst 1, 1), (24, .iadd, 1), (25, .putfield 22, 3), (28, .return_, 1)]
theorem dd_I_addEnd : ∀ q ∈ tb_I_addEnd, decode prog_4_method_3_code q.1 = .ok q.2 := by decide +kernel
theorem d_I_addEnd {pc len : Nat} {i : Instr} (k : Nat) (h : tb_I_addEnd[k]? = some (pc, i, len)) : decode prog_4_method_3_code pc = .ok (i, len) := dd_I_addEnd (pc, i, len) (List.mem_of_getElem? h)
abbrev M_O_begin : XM := ("DescriptorDesk$Opening", prog_3_method_2_code, 4, (none : Option FieldType), [], "begin")
abbrev rm_O_begin : Room := { frames := 1, cells := 0, slots := 0, locals := 21 }
def tb_O_begin : List (Nat × Instr × Nat) := [(0, .aload_n 0, 1), (1, .aload_n 1, 1), (2, .putfield 7, 3), (5, .aload_n 0, 1), (6, .aload_n 2, 1), (7, .putfield 13, 3), (10, .aload_n 0, 1), (11, .iconst 0, 1), (12, .putfield 17, 3), (15, .aload_n 0, 1), (16, .iload_n 3, 1), (17, .putfield 21, 3), (20, .aload_n 1, 1), (21, .ifnull 8, 3), (24, .aload_n 1, 1), (25, .iload_n 3, 1), (26, .invokevirtual 27, 3), (29, .aload_n 2, 1), (30, .ifnull 13, 3), (33, .aload_n 2, 1), (34, .dup, 1), (35, .getfield 33, 3), (38, .iconst 1, 1), (39, .iadd, 1), (40, .putfield 33, 3), (43, .return_, 1)]
theorem dd_O_begin : ∀ q ∈ tb_O_begin, decode prog_3_method_2_code q.1 = .ok q.2 := by decide +kernel
theorem d_O_begin {pc len : Nat} {i : Instr} (k : Nat) (h : tb_O_begin[k]? = some (pc, i, len)) : decode prog_3_method_2_code pc = .ok (i, len) := dd_O_begin (pc, i, len) (List.mem_of_getElem? h)
abbrev M_P_openingAt : XM := ("DescriptorDesk$Proc", prog_5_method_7_code, 2, (some (FieldType.object "DescriptorDesk$Opening")), [], "openingAt")
abbrev rm_P_openingAt : Room := { frames := 0, cells := 0, slots := 0, locals := 0 }
def tb_P_openingAt : List (Nat × Instr × Nat) := [(0, .iload_n 1, 1), (1, .ifCond .lt 18, 3), (4, .iload_n 1, 1), (5, .bipush 8, 2), (7, .if_icmp .ge 12, 3), (10, .aload_n 0, 1), (11, .getfield 11, 3), (14, .iload_n 1, 1), (15, .aaload, 1), (16, .goto 4, 3), (19, .aconst_null, 1), (20, .areturn, 1)]
theorem dd_P_openingAt : ∀ q ∈ tb_P_openingAt, decode prog_5_method_7_code q.1 = .ok q.2 := by decide +kernel
theorem d_P_openingAt {pc len : Nat} {i : Instr} (k : Nat) (h : tb_P_openingAt[k]? = some (pc, i, len)) : decode prog_5_method_7_code pc = .ok (i, len) := dd_P_openingAt (pc, i, len) (List.mem_of_getElem? h)
abbrev M_I_isThere : XM := ("DescriptorDesk$Pipe", prog_4_method_2_code, 1, (some FieldType.boolean), [], "isThere")
abbrev rm_I_isThere : Room := { frames := 0, cells := 0, slots := 0, locals := 0 }
def tb_I_isThere : List (Nat × Instr × Nat) := [(0, .aload_n 0, 1), (1, .getfield 18, 3), (4, .aload_n 0, 1), (5, .getfield 22, 3), (8, .iadd, 1), (9, .ifCond .le 7, 3), (12, .iconst 1, 1), (13, .goto 4, 3), (16, .iconst 0, 1), (17, .ireturn, 1)]
theorem dd_I_isThere : ∀ q ∈ tb_I_isThere, decode prog_4_method_2_code q.1 = .ok q.2 := by decide +kernel
theorem d_I_isThere {pc len : Nat} {i : Instr} (k : Nat) (h : tb_I_isThere[k]? = some (pc, i, len)) : decode prog_4_method_2_code pc = .ok (i, len) := dd_I_isThere (pc, i, len) (List.mem_of_getElem? h)
abbrev M_B_empty : XM := ("DescriptorDesk$ByteRow", prog_2_method_5_code, 1, (none : Option FieldType), [], "empty")
abbrev rm_B_empty : Room := { frames := 0, cells := 0, slots := 0, locals := 0 }
def tb_B_empty : List (Nat × Instr × Nat) := [(0, .aload_n 0, 1), (1, .iconst 0, 1), (2, .putfield 13, 3), (5, .aload_n 0, 1), (6, .iconst 0, 1), (7, .putfield 17, 3), (10, .return_, 1)]
theorem dd_B_empty : ∀ q ∈ tb_B_empty, decode prog_2_method_5_code q.1 = .ok q.2 := by decide +kernel
theorem d_B_empty {pc len : Nat} {i : Instr} (k : Nat) (h : tb_B_empty[k]? = some (pc, i, len)) : decode prog_2_method_5_code pc = .ok (i, len) := dd_B_empty (pc, i, len) (List.mem_of_getElem? h)
abbrev M_I_dropEnd : XM := ("DescriptorDesk$Pipe", prog_4_method_4_code, 2, (none : Option FieldType), [], "dropEnd")
abbrev rm_I_dropEnd : Room := { frames := 1, cells := 0, slots := 0, locals := 20 }
def tb_I_dropEnd : List (Nat × Instr × Nat) := [(0, .iload_n 1, 1), (1, .iconst 1, 1), (2, .if_icmp .ne 16, 3), (5, .aload_n 0, 1), (6, .dup, 1), (7, .getfield 18, 3), (10, .iconst 1, 1), (11, .isub, 1), (12, .putfield 18, 3), (15, .goto 13, 3), (18, .aload_n 0, 1), (19, .dup, 1), (20, .getfield 22, 3), (23, .iconst 1, 1), (24, .isub, 1), (25, .putfield 22, 3), (28, .aload_n 0, 1), (29, .invokevirtual 25, 3), (32, .ifCond .ne 10, 3), (35, .aload_n 0, 1), (36, .getfield 12, 3), (39, .invokevirtual 29, 3), (42, .return_, 1)]
theorem dd_I_dropEnd : ∀ q ∈ tb_I_dropEnd, decode prog_4_method_4_code q.1 = .ok q.2 := by decide +kernel
theorem d_I_dropEnd {pc len : Nat} {i : Instr} (k : Nat) (h : tb_I_dropEnd[k]? = some (pc, i, len)) : decode prog_4_method_4_code pc = .ok (i, len) := dd_I_dropEnd (pc, i, len) (List.mem_of_getElem? h)
abbrev M_O_drop : XM := ("DescriptorDesk$Opening", prog_3_method_5_code, 1, (none : Option FieldType), [], "drop")
abbrev rm_O_drop : Room := { frames := 2, cells := 0, slots := 0, locals := 41 }
def tb_O_drop : List (Nat × Instr × Nat) := [(0, .aload_n 0, 1), (1, .dup, 1), (2, .getfield 24, 3), (5, .iconst 1, 1), (6, .isub, 1), (7, .putfield 24, 3), (10, .aload_n 0, 1), (11, .getfield 24, 3), (14, .ifCond .le 4, 3), (17, .return_, 1), (18, .aload_n 0, 1), (19, .getfield 7, 3), (22, .ifnull 14, 3), (25, .aload_n 0, 1), (26, .getfield 7, 3), (29, .aload_n 0, 1), (30, .getfield 21, 3), (33, .invokevirtual 38, 3), (36, .aload_n 0, 1), (37, .getfield 13, 3), (40, .ifnull 16, 3), (43, .aload_n 0, 1), (44, .getfield 13, 3), (47, .dup, 1), (48, .getfield 33, 3), (51, .iconst 1, 1), (52, .isub, 1), (53, .putfield 33, 3), (56, .return_, 1)]
theorem dd_O_drop : ∀ q ∈ tb_O_drop, decode prog_3_method_5_code q.1 = .ok q.2 := by decide +kernel
theorem d_O_drop {pc len : Nat} {i : Instr} (k : Nat) (h : tb_O_drop[k]? = some (pc, i, len)) : decode prog_3_method_5_code pc = .ok (i, len) := dd_O_drop (pc, i, len) (List.mem_of_getElem? h)
abbrev M_P_release : XM := ("DescriptorDesk$Proc", prog_5_method_10_code, 3, (none : Option FieldType), [], "release")
abbrev rm_P_release : Room := { frames := 3, cells := 0, slots := 0, locals := 61 }
def tb_P_release : List (Nat × Instr × Nat) := [(0, .aload_n 0, 1), (1, .iload_n 1, 1), (2, .invokevirtual 47, 3), (5, .astore_n 2, 1), (6, .aload_n 2, 1), (7, .ifnull 14, 3), (10, .aload_n 2, 1), (11, .invokevirtual 51, 3), (14, .aload_n 0, 1), (15, .getfield 11, 3), (18, .iload_n 1, 1), (19, .aconst_null, 1), (20, .aastore, 1), (21, .return_, 1)]
theorem dd_P_release : ∀ q ∈ tb_P_release, decode prog_5_method_10_code q.1 = .ok q.2 := by decide +kernel
theorem d_P_release {pc len : Nat} {i : Instr} (k : Nat) (h : tb_P_release[k]? = some (pc, i, len)) : decode prog_5_method_10_code pc = .ok (i, len) := dd_P_release (pc, i, len) (List.mem_of_getElem? h)
abbrev M_P_hold : XM := ("DescriptorDesk$Proc", prog_5_method_9_code, 3, (none : Option FieldType), [], "hold")
abbrev rm_P_hold : Room := { frames := 4, cells := 0, slots := 0, locals := 83 }
def tb_P_hold : List (Nat × Instr × Nat) := [(0, .iload_n 1, 1), (1, .ifCond .lt 9, 3), (4, .iload_n 1, 1), (5, .bipush 8, 2), (7, .if_icmp .lt 4, 3), (10, .return_, 1), (11, .aload_n 2, 1), (12, .dup, 1), (13, .getfield 44, 3), (16, .iconst 1, 1), (17, .iadd, 1), (18, .putfield 44, 3), (21, .aload_n 0, 1), (22, .iload_n 1, 1), (23, .invokevirtual 34, 3), (26, .aload_n 0, 1), (27, .getfield 11, 3), (30, .iload_n 1, 1), (31, .aload_n 2, 1), (32, .aastore, 1), (33, .return_, 1)]
theorem dd_P_hold : ∀ q ∈ tb_P_hold, decode prog_5_method_9_code q.1 = .ok q.2 := by decide +kernel
theorem d_P_hold {pc len : Nat} {i : Instr} (k : Nat) (h : tb_P_hold[k]? = some (pc, i, len)) : decode prog_5_method_9_code pc = .ok (i, len) := dd_P_hold (pc, i, len) (List.mem_of_getElem? h)
abbrev M_D_spawn : XM := ("DescriptorDesk", prog_1_method_2_code, 4, (some FieldType.int), [], "spawn")
abbrev rm_D_spawn : Room := { frames := 5, cells := 0, slots := 0, locals := 105 }
def tb_D_spawn : List (Nat × Instr × Nat) := [(0, .aload_n 0, 1), (1, .invokevirtual 51, 3), (4, .istore_n 1, 1), (5, .aload_n 0, 1), (6, .aconst_null, 1), (7, .invokevirtual 55, 3), (10, .astore_n 2, 1), (11, .iload_n 1, 1), (12, .ifCond .lt 7, 3), (15, .aload_n 2, 1), (16, .ifnonnull 6, 3), (19, .bipush (-4), 2), (21, .ireturn, 1), (22, .aload_n 0, 1), (23, .getfield 11, 3), (26, .iload_n 1, 1), (27, .aaload, 1), (28, .astore_n 3, 1), (29, .aload_n 3, 1), (30, .invokevirtual 59, 3), (33, .aload_n 2, 1), (34, .aconst_null, 1), (35, .aconst_null, 1), (36, .iconst 3, 1), (37, .invokevirtual 62, 3), (40, .aload_n 3, 1), (41, .iconst 0, 1), (42, .aload_n 2, 1), (43, .invokevirtual 65, 3), (46, .aload_n 3, 1), (47, .iconst 1, 1), (48, .aload_n 2, 1), (49, .invokevirtual 65, 3), (52, .iload_n 1, 1), (53, .ireturn, 1)]
theorem dd_D_spawn : ∀ q ∈ tb_D_spawn, decode prog_1_method_2_code q.1 = .ok q.2 := by decide +kernel
theorem d_D_spawn {pc len : Nat} {i : Instr} (k : Nat) (h : tb_D_spawn[k]? = some (pc, i, len)) : decode prog_1_method_2_code pc = .ok (i, len) := dd_D_spawn (pc, i, len) (List.mem_of_getElem? h)
abbrev M_D_procThere : XM := ("DescriptorDesk", prog_1_method_20_code, 2, (some (FieldType.object "DescriptorDesk$Proc")), [], "procThere")
abbrev rm_D_procThere : Room := { frames := 0, cells := 0, slots := 0, locals := 0 }
def tb_D_procThere : List (Nat × Instr × Nat) := [(0, .iload_n 1, 1), (1, .ifCond .lt 21, 3), (4, .iload_n 1, 1), (5, .bipush 8, 2), (7, .if_icmp .ge 15, 3), (10, .aload_n 0, 1), (11, .getfield 11, 3), (14, .iload_n 1, 1), (15, .aaload, 1), (16, .getfield 178, 3), (19, .ifCond .ne 5, 3), (22, .aconst_null, 1), (23, .areturn, 1), (24, .aload_n 0, 1), (25, .getfield 11, 3), (28, .iload_n 1, 1), (29, .aaload, 1), (30, .areturn, 1)]
theorem dd_D_procThere : ∀ q ∈ tb_D_procThere, decode prog_1_method_20_code q.1 = .ok q.2 := by decide +kernel
theorem d_D_procThere {pc len : Nat} {i : Instr} (k : Nat) (h : tb_D_procThere[k]? = some (pc, i, len)) : decode prog_1_method_20_code pc = .ok (i, len) := dd_D_procThere (pc, i, len) (List.mem_of_getElem? h)
abbrev M_D_given : XM := ("DescriptorDesk", prog_1_method_8_code, 3, (some FieldType.long), [], "given")
abbrev rm_D_given : Room := { frames := 1, cells := 0, slots := 0, locals := 21 }
def tb_D_given : List (Nat × Instr × Nat) := [(0, .aload_n 0, 1), (1, .iload_n 1, 1), (2, .invokevirtual 77, 3), (5, .astore_n 2, 1), (6, .aload_n 2, 1), (7, .ifnonnull 7, 3), (10, .lconst 0, 1), (11, .goto 7, 3), (14, .aload_n 2, 1), (15, .getfield 133, 3), (18, .lreturn, 1)]
theorem dd_D_given : ∀ q ∈ tb_D_given, decode prog_1_method_8_code q.1 = .ok q.2 := by decide +kernel
theorem d_D_given {pc len : Nat} {i : Instr} (k : Nat) (h : tb_D_given[k]? = some (pc, i, len)) : decode prog_1_method_8_code pc = .ok (i, len) := dd_D_given (pc, i, len) (List.mem_of_getElem? h)
abbrev M_B_byteAt : XM := ("DescriptorDesk$ByteRow", prog_2_method_2_code, 2, (some FieldType.int), [], "byteAt")
abbrev rm_B_byteAt : Room := { frames := 0, cells := 0, slots := 0, locals := 0 }
def tb_B_byteAt : List (Nat × Instr × Nat) := [(0, .aload_n 0, 1), (1, .getfield 9, 3), (4, .aload_n 0, 1), (5, .getfield 13, 3), (8, .iload_n 1, 1), (9, .iadd, 1), (10, .bipush 63, 2), (12, .iand, 1), (13, .iaload, 1), (14, .ireturn, 1)]
theorem dd_B_byteAt : ∀ q ∈ tb_B_byteAt, decode prog_2_method_2_code q.1 = .ok q.2 := by decide +kernel
theorem d_B_byteAt {pc len : Nat} {i : Instr} (k : Nat) (h : tb_B_byteAt[k]? = some (pc, i, len)) : decode prog_2_method_2_code pc = .ok (i, len) := dd_B_byteAt (pc, i, len) (List.mem_of_getElem? h)
abbrev M_D_shown : XM := ("DescriptorDesk", prog_1_method_16_code, 2, (some FieldType.int), [], "shown")
abbrev rm_D_shown : Room := { frames := 1, cells := 0, slots := 0, locals := 21 }
def tb_D_shown : List (Nat × Instr × Nat) := [(0, .iload_n 1, 1), (1, .ifCond .lt 25, 3), (4, .iload_n 1, 1), (5, .aload_n 0, 1), (6, .getfield 40, 3), (9, .getfield 169, 3), (12, .if_icmp .ge 14, 3), (15, .aload_n 0, 1), (16, .getfield 40, 3), (19, .iload_n 1, 1), (20, .invokevirtual 175, 3), (23, .goto 4, 3), (26, .iconst (-1), 1), (27, .ireturn, 1)]
theorem dd_D_shown : ∀ q ∈ tb_D_shown, decode prog_1_method_16_code q.1 = .ok q.2 := by decide +kernel
theorem d_D_shown {pc len : Nat} {i : Instr} (k : Nat) (h : tb_D_shown[k]? = some (pc, i, len)) : decode prog_1_method_16_code pc = .ok (i, len) := dd_D_shown (pc, i, len) (List.mem_of_getElem? h)
abbrev M_D_state : XM := ("DescriptorDesk", prog_1_method_17_code, 4, (some FieldType.int), [], "state")
abbrev rm_D_state : Room := { frames := 1, cells := 0, slots := 0, locals := 21 }
def tb_D_state : List (Nat × Instr × Nat) := [(0, .aload_n 0, 1), (1, .iload_n 1, 1), (2, .invokevirtual 77, 3), (5, .astore_n 3, 1), (6, .iload_n 2, 1), (7, .tableswitch 64 0 2 #[25, 38, 51], 25), (32, .aload_n 3, 1), (33, .ifnonnull 7, 3), (36, .iconst 0, 1), (37, .goto 7, 3), (40, .aload_n 3, 1), (41, .getfield 178, 3), (44, .ireturn, 1), (45, .aload_n 3, 1), (46, .ifnonnull 7, 3), (49, .iconst (-1), 1), (50, .goto 7, 3), (53, .aload_n 3, 1), (54, .getfield 181, 3), (57, .ireturn, 1), (58, .aload_n 3, 1), (59, .ifnonnull 7, 3), (62, .iconst 0, 1), (63, .goto 7, 3), (66, .aload_n 3, 1), (67, .getfield 184, 3), (70, .ireturn, 1), (71, .iconst (-1), 1), (72, .ireturn, 1)]
theorem dd_D_state : ∀ q ∈ tb_D_state, decode prog_1_method_17_code q.1 = .ok q.2 := by decide +kernel
theorem d_D_state {pc len : Nat} {i : Instr} (k : Nat) (h : tb_D_state[k]? = some (pc, i, len)) : decode prog_1_method_17_code pc = .ok (i, len) := dd_D_state (pc, i, len) (List.mem_of_getElem? h)
abbrev M_O_has : XM := ("DescriptorDesk$Opening", prog_3_method_3_code, 2, (some FieldType.boolean), [], "has")
abbrev rm_O_has : Room := { frames := 0, cells := 0, slots := 0, locals := 0 }
def tb_O_has : List (Nat × Instr × Nat) := [(0, .aload_n 0, 1), (1, .getfield 21, 3), (4, .iload_n 1, 1), (5, .iand, 1), (6, .ifCond .eq 7, 3), (9, .iconst 1, 1), (10, .goto 4, 3), (13, .iconst 0, 1), (14, .ireturn, 1)]
theorem dd_O_has : ∀ q ∈ tb_O_has, decode prog_3_method_3_code q.1 = .ok q.2 := by decide +kernel
theorem d_O_has {pc len : Nat} {i : Instr} (k : Nat) (h : tb_O_has[k]? = some (pc, i, len)) : decode prog_3_method_3_code pc = .ok (i, len) := dd_O_has (pc, i, len) (List.mem_of_getElem? h)
abbrev M_D_kindOf : XM := ("DescriptorDesk", prog_1_method_42_code, 1, (some FieldType.int), [], "kindOf")
abbrev rm_D_kindOf : Room := { frames := 1, cells := 0, slots := 0, locals := 21 }
def tb_D_kindOf : List (Nat × Instr × Nat) := [(0, .aload_n 0, 1), (1, .getfield 246, 3), (4, .ifnull 17, 3), (7, .aload_n 0, 1), (8, .iconst 1, 1), (9, .invokevirtual 242, 3), (12, .ifCond .eq 7, 3), (15, .iconst 1, 1), (16, .goto 4, 3), (19, .iconst 2, 1), (20, .ireturn, 1), (21, .aload_n 0, 1), (22, .getfield 158, 3), (25, .ifnull 7, 3), (28, .iconst 3, 1), (29, .goto 4, 3), (32, .iconst 4, 1), (33, .ireturn, 1)]
theorem dd_D_kindOf : ∀ q ∈ tb_D_kindOf, decode prog_1_method_42_code q.1 = .ok q.2 := by decide +kernel
theorem d_D_kindOf {pc len : Nat} {i : Instr} (k : Nat) (h : tb_D_kindOf[k]? = some (pc, i, len)) : decode prog_1_method_42_code pc = .ok (i, len) := dd_D_kindOf (pc, i, len) (List.mem_of_getElem? h)
abbrev M_D_bytesIn : XM := ("DescriptorDesk", prog_1_method_43_code, 2, (some FieldType.int), [], "bytesIn")
abbrev rm_D_bytesIn : Room := { frames := 0, cells := 0, slots := 0, locals := 0 }
def tb_D_bytesIn : List (Nat × Instr × Nat) := [(0, .aload_n 1, 1), (1, .getfield 246, 3), (4, .ifnull 14, 3), (7, .aload_n 1, 1), (8, .getfield 246, 3), (11, .getfield 250, 3), (14, .getfield 169, 3), (17, .ireturn, 1), (18, .aload_n 1, 1), (19, .getfield 158, 3), (22, .ifnull 13, 3), (25, .aload_n 1, 1), (26, .getfield 158, 3), (29, .getfield 115, 3), (32, .goto 10, 3), (35, .aload_n 0, 1), (36, .getfield 36, 3), (39, .getfield 169, 3), (42, .ireturn, 1)]
theorem dd_D_bytesIn : ∀ q ∈ tb_D_bytesIn, decode prog_1_method_43_code q.1 = .ok q.2 := by decide +kernel
theorem d_D_bytesIn {pc len : Nat} {i : Instr} (k : Nat) (h : tb_D_bytesIn[k]? = some (pc, i, len)) : decode prog_1_method_43_code pc = .ok (i, len) := dd_D_bytesIn (pc, i, len) (List.mem_of_getElem? h)
abbrev M_D_about : XM := ("DescriptorDesk", prog_1_method_18_code, 5, (some FieldType.int), [], "about")
abbrev rm_D_about : Room := { frames := 2, cells := 0, slots := 0, locals := 41 }
def tb_D_about : List (Nat × Instr × Nat) := [(0, .iload_n 1, 1), (1, .ifCond .lt 19, 3), (4, .iload_n 1, 1), (5, .bipush 8, 2), (7, .if_icmp .ge 13, 3), (10, .iload_n 2, 1), (11, .ifCond .lt 9, 3), (14, .iload_n 2, 1), (15, .bipush 8, 2), (17, .if_icmp .lt 5, 3), (20, .iconst (-1), 1), (21, .ireturn, 1), (22, .aload_n 0, 1), (23, .getfield 11, 3), (26, .iload_n 1, 1), (27, .aaload, 1), (28, .iload_n 2, 1), (29, .invokevirtual 73, 3), (32, .astore 4, 2), (34, .aload 4, 2), (36, .ifnonnull 13, 3), (39, .iload_n 3, 1), (40, .ifCond .ne 7, 3), (43, .iconst 0, 1), (44, .goto 4, 3), (47, .iconst (-1), 1), (48, .ireturn, 1), (49, .iload_n 3, 1), (50, .tableswitch 65 0 4 #[34, 40, 46, 53, 59], 34), (84, .aload 4, 2), (86, .invokestatic 187, 3), (89, .ireturn, 1), (90, .aload 4, 2), (92, .getfield 191, 3), (95, .ireturn, 1), (96, .aload_n 0, 1), (97, .aload 4, 2), (99, .invokevirtual 194, 3), (102, .ireturn, 1), (103, .aload 4, 2), (105, .getfield 162, 3), (108, .ireturn, 1), (109, .aload 4, 2), (111, .getfield 197, 3), (114, .ireturn, 1), (115, .iconst (-1), 1), (116, .ireturn, 1)]
theorem dd_D_about : ∀ q ∈ tb_D_about, decode prog_1_method_18_code q.1 = .ok q.2 := by decide +kernel
theorem d_D_about {pc len : Nat} {i : Instr} (k : Nat) (h : tb_D_about[k]? = some (pc, i, len)) : decode prog_1_method_18_code pc = .ok (i, len) := dd_D_about (pc, i, len) (List.mem_of_getElem? h)
abbrev M_D_procsThere : XM := ("DescriptorDesk", prog_1_method_44_code, 6, (some FieldType.int), [], "procsThere")
abbrev rm_D_procsThere : Room := { frames := 0, cells := 0, slots := 0, locals := 0 }
def tb_D_procsThere : List (Nat × Instr × Nat) := [(0, .iconst 0, 1), (1, .istore_n 1, 1), (2, .aload_n 0, 1), (3, .getfield 11, 3), (6, .astore_n 2, 1), (7, .aload_n 2, 1), (8, .arraylength, 1), (9, .istore_n 3, 1), (10, .iconst 0, 1), (11, .istore 4, 2), (13, .iload 4, 2), (15, .iload_n 3, 1), (16, .if_icmp .ge 31, 3), (19, .aload_n 2, 1), (20, .iload 4, 2), (22, .aaload, 1), (23, .astore 5, 2), (25, .iload_n 1, 1), (26, .aload 5, 2), (28, .getfield 178, 3), (31, .ifCond .eq 7, 3), (34, .iconst 1, 1), (35, .goto 4, 3), (38, .iconst 0, 1), (39, .iadd, 1), (40, .istore_n 1, 1), (41, .iinc 4 1, 3), (44, .goto (-31), 3), (47, .iload_n 1, 1), (48, .ireturn, 1)]
theorem dd_D_procsThere : ∀ q ∈ tb_D_procsThere, decode prog_1_method_44_code q.1 = .ok q.2 := by decide +kernel
theorem d_D_procsThere {pc len : Nat} {i : Instr} (k : Nat) (h : tb_D_procsThere[k]? = some (pc, i, len)) : decode prog_1_method_44_code pc = .ok (i, len) := dd_D_procsThere (pc, i, len) (List.mem_of_getElem? h)
abbrev M_P_isWaiting : XM := ("DescriptorDesk$Proc", prog_5_method_6_code, 1, (some FieldType.boolean), [], "isWaiting")
abbrev rm_P_isWaiting : Room := { frames := 0, cells := 0, slots := 0, locals := 0 }
def tb_P_isWaiting : List (Nat × Instr × Nat) := [(0, .aload_n 0, 1), (1, .getfield 17, 3), (4, .iconst 2, 1), (5, .if_icmp .eq 11, 3), (8, .aload_n 0, 1), (9, .getfield 17, 3), (12, .iconst 3, 1), (13, .if_icmp .ne 7, 3), (16, .iconst 1, 1), (17, .goto 4, 3), (20, .iconst 0, 1), (21, .ireturn, 1)]
theorem dd_P_isWaiting : ∀ q ∈ tb_P_isWaiting, decode prog_5_method_6_code q.1 = .ok q.2 := by decide +kernel
theorem d_P_isWaiting {pc len : Nat} {i : Instr} (k : Nat) (h : tb_P_isWaiting[k]? = some (pc, i, len)) : decode prog_5_method_6_code pc = .ok (i, len) := dd_P_isWaiting (pc, i, len) (List.mem_of_getElem? h)
abbrev M_D_procsWaiting : XM := ("DescriptorDesk", prog_1_method_45_code, 6, (some FieldType.int), [], "procsWaiting")
abbrev rm_D_procsWaiting : Room := { frames := 1, cells := 0, slots := 0, locals := 20 }
def tb_D_procsWaiting : List (Nat × Instr × Nat) := [(0, .iconst 0, 1), (1, .istore_n 1, 1), (2, .aload_n 0, 1), (3, .getfield 11, 3), (6, .astore_n 2, 1), (7, .aload_n 2, 1), (8, .arraylength, 1), (9, .istore_n 3, 1), (10, .iconst 0, 1), (11, .istore 4, 2), (13, .iload 4, 2), (15, .iload_n 3, 1), (16, .if_icmp .ge 31, 3), (19, .aload_n 2, 1), (20, .iload 4, 2), (22, .aaload, 1), (23, .astore 5, 2), (25, .iload_n 1, 1), (26, .aload 5, 2), (28, .invokevirtual 301, 3), (31, .ifCond .eq 7, 3), (34, .iconst 1, 1), (35, .goto 4, 3), (38, .iconst 0, 1), (39, .iadd, 1), (40, .istore_n 1, 1), (41, .iinc 4 1, 3), (44, .goto (-31), 3), (47, .iload_n 1, 1), (48, .ireturn, 1)]
theorem dd_D_procsWaiting : ∀ q ∈ tb_D_procsWaiting, decode prog_1_method_45_code q.1 = .ok q.2 := by decide +kernel
theorem d_D_procsWaiting {pc len : Nat} {i : Instr} (k : Nat) (h : tb_D_procsWaiting[k]? = some (pc, i, len)) : decode prog_1_method_45_code pc = .ok (i, len) := dd_D_procsWaiting (pc, i, len) (List.mem_of_getElem? h)
abbrev M_D_openingsThere : XM := ("DescriptorDesk", prog_1_method_46_code, 6, (some FieldType.int), [], "openingsThere")
abbrev rm_D_openingsThere : Room := { frames := 0, cells := 0, slots := 0, locals := 0 }
def tb_D_openingsThere : List (Nat × Instr × Nat) := [(0, .iconst 0, 1), (1, .istore_n 1, 1), (2, .aload_n 0, 1), (3, .getfield 17, 3), (6, .astore_n 2, 1), (7, .aload_n 2, 1), (8, .arraylength, 1), (9, .istore_n 3, 1), (10, .iconst 0, 1), (11, .istore 4, 2), (13, .iload 4, 2), (15, .iload_n 3, 1), (16, .if_icmp .ge 31, 3), (19, .aload_n 2, 1), (20, .iload 4, 2), (22, .aaload, 1), (23, .astore 5, 2), (25, .iload_n 1, 1), (26, .aload 5, 2), (28, .getfield 191, 3), (31, .ifCond .le 7, 3), (34, .iconst 1, 1), (35, .goto 4, 3), (38, .iconst 0, 1), (39, .iadd, 1), (40, .istore_n 1, 1), (41, .iinc 4 1, 3), (44, .goto (-31), 3), (47, .iload_n 1, 1), (48, .ireturn, 1)]
theorem dd_D_openingsThere : ∀ q ∈ tb_D_openingsThere, decode prog_1_method_46_code q.1 = .ok q.2 := by decide +kernel
theorem d_D_openingsThere {pc len : Nat} {i : Instr} (k : Nat) (h : tb_D_openingsThere[k]? = some (pc, i, len)) : decode prog_1_method_46_code pc = .ok (i, len) := dd_D_openingsThere (pc, i, len) (List.mem_of_getElem? h)
abbrev M_D_pipesThere : XM := ("DescriptorDesk", prog_1_method_47_code, 6, (some FieldType.int), [], "pipesThere")
abbrev rm_D_pipesThere : Room := { frames := 1, cells := 0, slots := 0, locals := 20 }
def tb_D_pipesThere : List (Nat × Instr × Nat) := [(0, .iconst 0, 1), (1, .istore_n 1, 1), (2, .aload_n 0, 1), (3, .getfield 23, 3), (6, .astore_n 2, 1), (7, .aload_n 2, 1), (8, .arraylength, 1), (9, .istore_n 3, 1), (10, .iconst 0, 1), (11, .istore 4, 2), (13, .iload 4, 2), (15, .iload_n 3, 1), (16, .if_icmp .ge 31, 3), (19, .aload_n 2, 1), (20, .iload 4, 2), (22, .aaload, 1), (23, .astore 5, 2), (25, .iload_n 1, 1), (26, .aload 5, 2), (28, .invokevirtual 237, 3), (31, .ifCond .eq 7, 3), (34, .iconst 1, 1), (35, .goto 4, 3), (38, .iconst 0, 1), (39, .iadd, 1), (40, .istore_n 1, 1), (41, .iinc 4 1, 3), (44, .goto (-31), 3), (47, .iload_n 1, 1), (48, .ireturn, 1)]
theorem dd_D_pipesThere : ∀ q ∈ tb_D_pipesThere, decode prog_1_method_47_code q.1 = .ok q.2 := by decide +kernel
theorem d_D_pipesThere {pc len : Nat} {i : Instr} (k : Nat) (h : tb_D_pipesThere[k]? = some (pc, i, len)) : decode prog_1_method_47_code pc = .ok (i, len) := dd_D_pipesThere (pc, i, len) (List.mem_of_getElem? h)
abbrev M_F_isThere : XM := ("DescriptorDesk$StoredFile", prog_6_method_2_code, 1, (some FieldType.boolean), [], "isThere")
abbrev rm_F_isThere : Room := { frames := 0, cells := 0, slots := 0, locals := 0 }
def tb_F_isThere : List (Nat × Instr × Nat) := [(0, .aload_n 0, 1), (1, .getfield 19, 3), (4, .ifCond .ne 10, 3), (7, .aload_n 0, 1), (8, .getfield 22, 3), (11, .ifCond .le 7, 3), (14, .iconst 1, 1), (15, .goto 4, 3), (18, .iconst 0, 1), (19, .ireturn, 1)]
theorem dd_F_isThere : ∀ q ∈ tb_F_isThere, decode prog_6_method_2_code q.1 = .ok q.2 := by decide +kernel
theorem d_F_isThere {pc len : Nat} {i : Instr} (k : Nat) (h : tb_F_isThere[k]? = some (pc, i, len)) : decode prog_6_method_2_code pc = .ok (i, len) := dd_F_isThere (pc, i, len) (List.mem_of_getElem? h)
abbrev M_D_filesThere : XM := ("DescriptorDesk", prog_1_method_48_code, 6, (some FieldType.int), [], "filesThere")
abbrev rm_D_filesThere : Room := { frames := 1, cells := 0, slots := 0, locals := 20 }
def tb_D_filesThere : List (Nat × Instr × Nat) := [(0, .iconst 0, 1), (1, .istore_n 1, 1), (2, .aload_n 0, 1), (3, .getfield 29, 3), (6, .astore_n 2, 1), (7, .aload_n 2, 1), (8, .arraylength, 1), (9, .istore_n 3, 1), (10, .iconst 0, 1), (11, .istore 4, 2), (13, .iload 4, 2), (15, .iload_n 3, 1), (16, .if_icmp .ge 31, 3), (19, .aload_n 2, 1), (20, .iload 4, 2), (22, .aaload, 1), (23, .astore 5, 2), (25, .iload_n 1, 1), (26, .aload 5, 2), (28, .invokevirtual 241, 3), (31, .ifCond .eq 7, 3), (34, .iconst 1, 1), (35, .goto 4, 3), (38, .iconst 0, 1), (39, .iadd, 1), (40, .istore_n 1, 1), (41, .iinc 4 1, 3), (44, .goto (-31), 3), (47, .iload_n 1, 1), (48, .ireturn, 1)]
theorem dd_D_filesThere : ∀ q ∈ tb_D_filesThere, decode prog_1_method_48_code q.1 = .ok q.2 := by decide +kernel
theorem d_D_filesThere {pc len : Nat} {i : Instr} (k : Nat) (h : tb_D_filesThere[k]? = some (pc, i, len)) : decode prog_1_method_48_code pc = .ok (i, len) := dd_D_filesThere (pc, i, len) (List.mem_of_getElem? h)
abbrev M_D_filesWithNames : XM := ("DescriptorDesk", prog_1_method_49_code, 6, (some FieldType.int), [], "filesWithNames")
abbrev rm_D_filesWithNames : Room := { frames := 0, cells := 0, slots := 0, locals := 0 }
def tb_D_filesWithNames : List (Nat × Instr × Nat) := [(0, .iconst 0, 1), (1, .istore_n 1, 1), (2, .aload_n 0, 1), (3, .getfield 29, 3), (6, .astore_n 2, 1), (7, .aload_n 2, 1), (8, .arraylength, 1), (9, .istore_n 3, 1), (10, .iconst 0, 1), (11, .istore 4, 2), (13, .iload 4, 2), (15, .iload_n 3, 1), (16, .if_icmp .ge 31, 3), (19, .aload_n 2, 1), (20, .iload 4, 2), (22, .aaload, 1), (23, .astore 5, 2), (25, .iload_n 1, 1), (26, .aload 5, 2), (28, .getfield 112, 3), (31, .ifCond .eq 7, 3), (34, .iconst 1, 1), (35, .goto 4, 3), (38, .iconst 0, 1), (39, .iadd, 1), (40, .istore_n 1, 1), (41, .iinc 4 1, 3), (44, .goto (-31), 3), (47, .iload_n 1, 1), (48, .ireturn, 1)]
theorem dd_D_filesWithNames : ∀ q ∈ tb_D_filesWithNames, decode prog_1_method_49_code q.1 = .ok q.2 := by decide +kernel
theorem d_D_filesWithNames {pc len : Nat} {i : Instr} (k : Nat) (h : tb_D_filesWithNames[k]? = some (pc, i, len)) : decode prog_1_method_49_code pc = .ok (i, len) := dd_D_filesWithNames (pc, i, len) (List.mem_of_getElem? h)
abbrev M_D_bytesInPipes : XM := ("DescriptorDesk", prog_1_method_50_code, 6, (some FieldType.int), [], "bytesInPipes")
abbrev rm_D_bytesInPipes : Room := { frames := 0, cells := 0, slots := 0, locals := 0 }
def tb_D_bytesInPipes : List (Nat × Instr × Nat) := [(0, .iconst 0, 1), (1, .istore_n 1, 1), (2, .aload_n 0, 1), (3, .getfield 23, 3), (6, .astore_n 2, 1), (7, .aload_n 2, 1), (8, .arraylength, 1), (9, .istore_n 3, 1), (10, .iconst 0, 1), (11, .istore 4, 2), (13, .iload 4, 2), (15, .iload_n 3, 1), (16, .if_icmp .ge 26, 3), (19, .aload_n 2, 1), (20, .iload 4, 2), (22, .aaload, 1), (23, .astore 5, 2), (25, .iload_n 1, 1), (26, .aload 5, 2), (28, .getfield 250, 3), (31, .getfield 169, 3), (34, .iadd, 1), (35, .istore_n 1, 1), (36, .iinc 4 1, 3), (39, .goto (-26), 3), (42, .iload_n 1, 1), (43, .ireturn, 1)]
theorem dd_D_bytesInPipes : ∀ q ∈ tb_D_bytesInPipes, decode prog_1_method_50_code q.1 = .ok q.2 := by decide +kernel
theorem d_D_bytesInPipes {pc len : Nat} {i : Instr} (k : Nat) (h : tb_D_bytesInPipes[k]? = some (pc, i, len)) : decode prog_1_method_50_code pc = .ok (i, len) := dd_D_bytesInPipes (pc, i, len) (List.mem_of_getElem? h)
abbrev M_O_isEnd : XM := ("DescriptorDesk$Opening", prog_3_method_4_code, 3, (some FieldType.boolean), [], "isEnd")
abbrev rm_O_isEnd : Room := { frames := 0, cells := 0, slots := 0, locals := 0 }
def tb_O_isEnd : List (Nat × Instr × Nat) := [(0, .aload_n 0, 1), (1, .getfield 7, 3), (4, .aload_n 1, 1), (5, .if_acmp .ne 15, 3), (8, .aload_n 0, 1), (9, .getfield 21, 3), (12, .iload_n 2, 1), (13, .if_icmp .ne 7, 3), (16, .iconst 1, 1), (17, .goto 4, 3), (20, .iconst 0, 1), (21, .ireturn, 1)]
theorem dd_O_isEnd : ∀ q ∈ tb_O_isEnd, decode prog_3_method_4_code q.1 = .ok q.2 := by decide +kernel
theorem d_O_isEnd {pc len : Nat} {i : Instr} (k : Nat) (h : tb_O_isEnd[k]? = some (pc, i, len)) : decode prog_3_method_4_code pc = .ok (i, len) := dd_O_isEnd (pc, i, len) (List.mem_of_getElem? h)
abbrev M_P_holdsEnd : XM := ("DescriptorDesk$Proc", prog_5_method_11_code, 7, (some FieldType.boolean), [], "holdsEnd")
abbrev rm_P_holdsEnd : Room := { frames := 1, cells := 0, slots := 0, locals := 22 }
def tb_P_holdsEnd : List (Nat × Instr × Nat) := [(0, .aload_n 0, 1), (1, .getfield 11, 3), (4, .astore_n 3, 1), (5, .aload_n 3, 1), (6, .arraylength, 1), (7, .istore 4, 2), (9, .iconst 0, 1), (10, .istore 5, 2), (12, .iload 5, 2), (14, .iload 4, 2), (16, .if_icmp .ge 32, 3), (19, .aload_n 3, 1), (20, .iload 5, 2), (22, .aaload, 1), (23, .astore 6, 2), (25, .aload 6, 2), (27, .ifnull 15, 3), (30, .aload 6, 2), (32, .aload_n 1, 1), (33, .iload_n 2, 1), (34, .invokevirtual 54, 3), (37, .ifCond .eq 5, 3), (40, .iconst 1, 1), (41, .ireturn, 1), (42, .iinc 5 1, 3), (45, .goto (-33), 3), (48, .iconst 0, 1), (49, .ireturn, 1)]
theorem dd_P_holdsEnd : ∀ q ∈ tb_P_holdsEnd, decode prog_5_method_11_code q.1 = .ok q.2 := by decide +kernel
theorem d_P_holdsEnd {pc len : Nat} {i : Instr} (k : Nat) (h : tb_P_holdsEnd[k]? = some (pc, i, len)) : decode prog_5_method_11_code pc = .ok (i, len) := dd_P_holdsEnd (pc, i, len) (List.mem_of_getElem? h)
abbrev M_D_holdersOfEnd : XM := ("DescriptorDesk", prog_1_method_54_code, 5, (some FieldType.int), [], "holdersOfEnd")
abbrev rm_D_holdersOfEnd : Room := { frames := 2, cells := 0, slots := 0, locals := 48 }
def tb_D_holdersOfEnd : List (Nat × Instr × Nat) := [(0, .iconst 0, 1), (1, .istore_n 3, 1), (2, .iconst 0, 1), (3, .istore 4, 2), (5, .iload 4, 2), (7, .bipush 8, 2), (9, .if_icmp .ge 31, 3), (12, .aload_n 0, 1), (13, .getfield 11, 3), (16, .iload 4, 2), (18, .aaload, 1), (19, .aload_n 1, 1), (20, .iload_n 2, 1), (21, .invokevirtual 322, 3), (24, .ifCond .eq 10, 3), (27, .iload_n 3, 1), (28, .iconst 1, 1), (29, .iload 4, 2), (31, .ishl, 1), (32, .ior, 1), (33, .istore_n 3, 1), (34, .iinc 4 1, 3), (37, .goto (-32), 3), (40, .iload_n 3, 1), (41, .ireturn, 1)]
theorem dd_D_holdersOfEnd : ∀ q ∈ tb_D_holdersOfEnd, decode prog_1_method_54_code q.1 = .ok q.2 := by decide +kernel
theorem d_D_holdersOfEnd {pc len : Nat} {i : Instr} (k : Nat) (h : tb_D_holdersOfEnd[k]? = some (pc, i, len)) : decode prog_1_method_54_code pc = .ok (i, len) := dd_D_holdersOfEnd (pc, i, len) (List.mem_of_getElem? h)
abbrev M_D_waitsForNoneBut : XM := ("DescriptorDesk", prog_1_method_53_code, 5, (some FieldType.boolean), [], "waitsForNoneBut")
abbrev rm_D_waitsForNoneBut : Room := { frames := 3, cells := 0, slots := 0, locals := 72 }
def tb_D_waitsForNoneBut : List (Nat × Instr × Nat) := [(0, .aload_n 1, 1), (1, .invokevirtual 301, 3), (4, .ifCond .eq 14, 3), (7, .aload_n 1, 1), (8, .aload_n 1, 1), (9, .getfield 181, 3), (12, .invokevirtual 73, 3), (15, .goto 4, 3), (18, .aconst_null, 1), (19, .astore_n 3, 1), (20, .aload_n 3, 1), (21, .ifnull 10, 3), (24, .aload_n 3, 1), (25, .getfield 246, 3), (28, .ifnonnull 5, 3), (31, .iconst 0, 1), (32, .ireturn, 1), (33, .aload_n 3, 1), (34, .iconst 1, 1), (35, .invokevirtual 242, 3), (38, .ifCond .eq 7, 3), (41, .iconst 2, 1), (42, .goto 4, 3), (45, .iconst 1, 1), (46, .istore 4, 2), (48, .aload_n 0, 1), (49, .aload_n 3, 1), (50, .getfield 246, 3), (53, .iload 4, 2), (55, .invokevirtual 318, 3), (58, .iload_n 2, 1), (59, .iconst (-1), 1), (60, .ixor, 1), (61, .iand, 1), (62, .ifCond .ne 7, 3), (65, .iconst 1, 1), (66, .goto 4, 3), (69, .iconst 0, 1), (70, .ireturn, 1)]
theorem dd_D_waitsForNoneBut : ∀ q ∈ tb_D_waitsForNoneBut, decode prog_1_method_53_code q.1 = .ok q.2 := by decide +kernel
theorem d_D_waitsForNoneBut {pc len : Nat} {i : Instr} (k : Nat) (h : tb_D_waitsForNoneBut[k]? = some (pc, i, len)) : decode prog_1_method_53_code pc = .ok (i, len) := dd_D_waitsForNoneBut (pc, i, len) (List.mem_of_getElem? h)
abbrev M_D_vainAmong : XM := ("DescriptorDesk", prog_1_method_52_code, 5, (some FieldType.int), [], "vainAmong")
abbrev rm_D_vainAmong : Room := { frames := 4, cells := 0, slots := 0, locals := 96 }
def tb_D_vainAmong : List (Nat × Instr × Nat) := [(0, .iconst 0, 1), (1, .istore_n 2, 1), (2, .iconst 0, 1), (3, .istore_n 3, 1), (4, .iload_n 3, 1), (5, .bipush 8, 2), (7, .if_icmp .ge 40, 3), (10, .iconst 1, 1), (11, .iload_n 3, 1), (12, .ishl, 1), (13, .istore 4, 2), (15, .iload_n 1, 1), (16, .iload 4, 2), (18, .iand, 1), (19, .ifCond .eq 22, 3), (22, .aload_n 0, 1), (23, .aload_n 0, 1), (24, .getfield 11, 3), (27, .iload_n 3, 1), (28, .aaload, 1), (29, .iload_n 1, 1), (30, .invokevirtual 314, 3), (33, .ifCond .eq 8, 3), (36, .iload_n 2, 1), (37, .iload 4, 2), (39, .ior, 1), (40, .istore_n 2, 1), (41, .iinc 3 1, 3), (44, .goto (-40), 3), (47, .iload_n 2, 1), (48, .ireturn, 1)]
theorem dd_D_vainAmong : ∀ q ∈ tb_D_vainAmong, decode prog_1_method_52_code q.1 = .ok q.2 := by decide +kernel
theorem d_D_vainAmong {pc len : Nat} {i : Instr} (k : Nat) (h : tb_D_vainAmong[k]? = some (pc, i, len)) : decode prog_1_method_52_code pc = .ok (i, len) := dd_D_vainAmong (pc, i, len) (List.mem_of_getElem? h)
abbrev M_D_waitingInVain : XM := ("DescriptorDesk", prog_1_method_51_code, 3, (some FieldType.int), [], "waitingInVain")
abbrev rm_D_waitingInVain : Room := { frames := 5, cells := 0, slots := 0, locals := 120 }
def tb_D_waitingInVain : List (Nat × Instr × Nat) := [(0, .sipush 255, 3), (3, .istore_n 1, 1), (4, .iconst 0, 1), (5, .istore_n 2, 1), (6, .iload_n 2, 1), (7, .bipush 8, 2), (9, .if_icmp .ge 15, 3), (12, .aload_n 0, 1), (13, .iload_n 1, 1), (14, .invokevirtual 311, 3), (17, .istore_n 1, 1), (18, .iinc 2 1, 3), (21, .goto (-15), 3), (24, .iload_n 1, 1), (25, .ireturn, 1)]
theorem dd_D_waitingInVain : ∀ q ∈ tb_D_waitingInVain, decode prog_1_method_51_code q.1 = .ok q.2 := by decide +kernel
theorem d_D_waitingInVain {pc len : Nat} {i : Instr} (k : Nat) (h : tb_D_waitingInVain[k]? = some (pc, i, len)) : decode prog_1_method_51_code pc = .ok (i, len) := dd_D_waitingInVain (pc, i, len) (List.mem_of_getElem? h)
abbrev M_Int_bitCount : XM := ("java/lang/Integer", prog_12_method_49_code, 1, (some FieldType.int), [], "bitCount")
abbrev rm_Int_bitCount : Room := { frames := 0, cells := 0, slots := 0, locals := 0 }
def tb_Int_bitCount : List (Nat × Instr × Nat) := [(0, .iload_n 0, 1), (1, .iload_n 0, 1), (2, .iconst 1, 1), (3, .iushr, 1), (4, .ldc_w 265, 3), (7, .iand, 1), (8, .isub, 1), (9, .istore_n 0, 1), (10, .iload_n 0, 1), (11, .ldc_w 266, 3), (14, .iand, 1), (15, .iload_n 0, 1), (16, .iconst 2, 1), (17, .iushr, 1), (18, .ldc_w 266, 3), (21, .iand, 1), (22, .iadd, 1), (23, .istore_n 0, 1), (24, .iload_n 0, 1), (25, .iload_n 0, 1), (26, .iconst 4, 1), (27, .iushr, 1), (28, .iadd, 1), (29, .ldc_w 267, 3), (32, .iand, 1), (33, .istore_n 0, 1), (34, .iload_n 0, 1), (35, .iload_n 0, 1), (36, .bipush 8, 2), (38, .iushr, 1), (39, .iadd, 1), (40, .istore_n 0, 1), (41, .iload_n 0, 1), (42, .iload_n 0, 1), (43, .bipush 16, 2), (45, .iushr, 1), (46, .iadd, 1), (47, .istore_n 0, 1), (48, .iload_n 0, 1), (49, .bipush 63, 2), (51, .iand, 1), (52, .ireturn, 1)]
theorem dd_Int_bitCount : ∀ q ∈ tb_Int_bitCount, decode prog_12_method_49_code q.1 = .ok q.2 := by decide +kernel
theorem d_Int_bitCount {pc len : Nat} {i : Instr} (k : Nat) (h : tb_Int_bitCount[k]? = some (pc, i, len)) : decode prog_12_method_49_code pc = .ok (i, len) := dd_Int_bitCount (pc, i, len) (List.mem_of_getElem? h)
abbrev M_D_count : XM := ("DescriptorDesk", prog_1_method_19_code, 2, (some FieldType.int), [], "count")
abbrev rm_D_count : Room := { frames := 6, cells := 0, slots := 0, locals := 142 }
def tb_D_count : List (Nat × Instr × Nat) := [(0, .iload_n 1, 1), (1, .tableswitch 99 0 8 #[51, 56, 61, 66, 71, 76, 81, 86, 91], 51), (52, .aload_n 0, 1), (53, .invokevirtual 200, 3), (56, .ireturn, 1), (57, .aload_n 0, 1), (58, .invokevirtual 203, 3), (61, .ireturn, 1), (62, .aload_n 0, 1), (63, .invokevirtual 206, 3), (66, .ireturn, 1), (67, .aload_n 0, 1), (68, .invokevirtual 209, 3), (71, .ireturn, 1), (72, .aload_n 0, 1), (73, .invokevirtual 212, 3), (76, .ireturn, 1), (77, .aload_n 0, 1), (78, .invokevirtual 215, 3), (81, .ireturn, 1), (82, .aload_n 0, 1), (83, .invokevirtual 218, 3), (86, .ireturn, 1), (87, .aload_n 0, 1), (88, .getfield 43, 3), (91, .ireturn, 1), (92, .aload_n 0, 1), (93, .invokevirtual 221, 3), (96, .invokestatic 224, 3), (99, .ireturn, 1), (100, .iconst (-1), 1), (101, .ireturn, 1)]
theorem dd_D_count : ∀ q ∈ tb_D_count, decode prog_1_method_19_code q.1 = .ok q.2 := by decide +kernel
theorem d_D_count {pc len : Nat} {i : Instr} (k : Nat) (h : tb_D_count[k]? = some (pc, i, len)) : decode prog_1_method_19_code pc = .ok (i, len) := dd_D_count (pc, i, len) (List.mem_of_getElem? h)
abbrev M_D_readyProc : XM := ("DescriptorDesk", prog_1_method_21_code, 3, (some (FieldType.object "DescriptorDesk$Proc")), [], "readyProc")
abbrev rm_D_readyProc : Room := { frames := 6, cells := 1, slots := 6, locals := 90 }
def tb_D_readyProc : List (Nat × Instr × Nat) := [(0, .aload_n 0, 1), (1, .iload_n 1, 1), (2, .invokevirtual 77, 3), (5, .astore_n 2, 1), (6, .aload_n 2, 1), (7, .ifnull 11, 3), (10, .aload_n 2, 1), (11, .getfield 178, 3), (14, .iconst 1, 1), (15, .if_icmp .eq 13, 3), (18, .new 80, 3), (21, .dup, 1), (22, .ldc 229, 2), (24, .invokespecial 84, 3), (27, .athrow, 1), (28, .aload_n 2, 1), (29, .areturn, 1)]
theorem dd_D_readyProc : ∀ q ∈ tb_D_readyProc, decode prog_1_method_21_code q.1 = .ok q.2 := by decide +kernel
theorem d_D_readyProc {pc len : Nat} {i : Instr} (k : Nat) (h : tb_D_readyProc[k]? = some (pc, i, len)) : decode prog_1_method_21_code pc = .ok (i, len) := dd_D_readyProc (pc, i, len) (List.mem_of_getElem? h)
abbrev M_D_fork : XM := ("DescriptorDesk", prog_1_method_3_code, 7, (some FieldType.int), [], "fork")
abbrev rm_D_fork : Room := { frames := 7, cells := 1, slots := 6, locals := 112 }
def tb_D_fork : List (Nat × Instr × Nat) := [(0, .aload_n 0, 1), (1, .iload_n 1, 1), (2, .invokevirtual 69, 3), (5, .astore_n 2, 1), (6, .aload_n 0, 1), (7, .invokevirtual 51, 3), (10, .istore_n 3, 1), (11, .iload_n 3, 1), (12, .ifCond .ge 6, 3), (15, .bipush (-4), 2), (17, .ireturn, 1), (18, .aload_n 0, 1), (19, .getfield 11, 3), (22, .iload_n 3, 1), (23, .aaload, 1), (24, .astore 4, 2), (26, .aload 4, 2), (28, .invokevirtual 59, 3), (31, .iconst 0, 1), (32, .istore 5, 2), (34, .iload 5, 2), (36, .bipush 8, 2), (38, .if_icmp .ge 31, 3), (41, .aload_n 2, 1), (42, .iload 5, 2), (44, .invokevirtual 73, 3), (47, .astore 6, 2), (49, .aload 6, 2), (51, .ifnull 12, 3), (54, .aload 4, 2), (56, .iload 5, 2), (58, .aload 6, 2), (60, .invokevirtual 65, 3), (63, .iinc 5 1, 3), (66, .goto (-32), 3), (69, .iload_n 3, 1), (70, .ireturn, 1)]
theorem dd_D_fork : ∀ q ∈ tb_D_fork, decode prog_1_method_3_code q.1 = .ok q.2 := by decide +kernel
theorem d_D_fork {pc len : Nat} {i : Instr} (k : Nat) (h : tb_D_fork[k]? = some (pc, i, len)) : decode prog_1_method_3_code pc = .ok (i, len) := dd_D_fork (pc, i, len) (List.mem_of_getElem? h)
abbrev M_P_beAbsent : XM := ("DescriptorDesk$Proc", prog_5_method_5_code, 2, (none : Option FieldType), [], "beAbsent")
abbrev rm_P_beAbsent : Room := { frames := 4, cells := 0, slots := 0, locals := 83 }
def tb_P_beAbsent : List (Nat × Instr × Nat) := [(0, .iconst 0, 1), (1, .istore_n 1, 1), (2, .iload_n 1, 1), (3, .bipush 8, 2), (5, .if_icmp .ge 14, 3), (8, .aload_n 0, 1), (9, .iload_n 1, 1), (10, .invokevirtual 34, 3), (13, .iinc 1 1, 3), (16, .goto (-14), 3), (19, .aload_n 0, 1), (20, .iconst 0, 1), (21, .putfield 17, 3), (24, .return_, 1)]
theorem dd_P_beAbsent : ∀ q ∈ tb_P_beAbsent, decode prog_5_method_5_code q.1 = .ok q.2 := by decide +kernel
theorem d_P_beAbsent {pc len : Nat} {i : Instr} (k : Nat) (h : tb_P_beAbsent[k]? = some (pc, i, len)) : decode prog_5_method_5_code pc = .ok (i, len) := dd_P_beAbsent (pc, i, len) (List.mem_of_getElem? h)
abbrev M_D_hindranceToRead : XM := ("DescriptorDesk", prog_1_method_30_code, 3, (some FieldType.int), [], "hindranceToRead")
abbrev rm_D_hindranceToRead : Room := { frames := 1, cells := 0, slots := 0, locals := 21 }
def tb_D_hindranceToRead : List (Nat × Instr × Nat) := [(0, .aload_n 1, 1), (1, .iconst 1, 1), (2, .invokevirtual 242, 3), (5, .ifCond .ne 5, 3), (8, .iconst (-1), 1), (9, .ireturn, 1), (10, .iload_n 2, 1), (11, .ifCond .eq 10, 3), (14, .aload_n 1, 1), (15, .getfield 158, 3), (18, .ifnull 5, 3), (21, .iconst 0, 1), (22, .ireturn, 1), (23, .aload_n 1, 1), (24, .getfield 246, 3), (27, .ifnull 33, 3), (30, .aload_n 1, 1), (31, .getfield 246, 3), (34, .getfield 250, 3), (37, .getfield 169, 3), (40, .ifCond .ne 18, 3), (43, .aload_n 1, 1), (44, .getfield 246, 3), (47, .getfield 253, 3), (50, .ifCond .le 8, 3), (53, .bipush (-6), 2), (55, .goto 4, 3), (58, .iconst 0, 1), (59, .ireturn, 1), (60, .aload_n 0, 1), (61, .getfield 36, 3), (64, .getfield 169, 3), (67, .ifCond .ne 8, 3), (70, .bipush (-6), 2), (72, .goto 4, 3), (75, .iconst 0, 1), (76, .ireturn, 1)]
theorem dd_D_hindranceToRead : ∀ q ∈ tb_D_hindranceToRead, decode prog_1_method_30_code q.1 = .ok q.2 := by decide +kernel
theorem d_D_hindranceToRead {pc len : Nat} {i : Instr} (k : Nat) (h : tb_D_hindranceToRead[k]? = some (pc, i, len)) : decode prog_1_method_30_code pc = .ok (i, len) := dd_D_hindranceToRead (pc, i, len) (List.mem_of_getElem? h)
abbrev M_D_placeToWrite : XM := ("DescriptorDesk", prog_1_method_32_code, 2, (some FieldType.int), [], "placeToWrite")
abbrev rm_D_placeToWrite : Room := { frames := 1, cells := 0, slots := 0, locals := 21 }
def tb_D_placeToWrite : List (Nat × Instr × Nat) := [(0, .aload_n 0, 1), (1, .iconst 4, 1), (2, .invokevirtual 242, 3), (5, .ifCond .eq 10, 3), (8, .aload_n 1, 1), (9, .getfield 115, 3), (12, .goto 7, 3), (15, .aload_n 0, 1), (16, .getfield 162, 3), (19, .ireturn, 1)]
theorem dd_D_placeToWrite : ∀ q ∈ tb_D_placeToWrite, decode prog_1_method_32_code q.1 = .ok q.2 := by decide +kernel
theorem d_D_placeToWrite {pc len : Nat} {i : Instr} (k : Nat) (h : tb_D_placeToWrite[k]? = some (pc, i, len)) : decode prog_1_method_32_code pc = .ok (i, len) := dd_D_placeToWrite (pc, i, len) (List.mem_of_getElem? h)
abbrev M_D_hindranceToWrite : XM := ("DescriptorDesk", prog_1_method_31_code, 2, (some FieldType.int), [], "hindranceToWrite")
abbrev rm_D_hindranceToWrite : Room := { frames := 2, cells := 0, slots := 0, locals := 42 }
def tb_D_hindranceToWrite : List (Nat × Instr × Nat) := [(0, .aload_n 0, 1), (1, .iconst 2, 1), (2, .invokevirtual 242, 3), (5, .ifCond .ne 5, 3), (8, .iconst (-1), 1), (9, .ireturn, 1), (10, .aload_n 0, 1), (11, .getfield 246, 3), (14, .ifnull 40, 3), (17, .aload_n 0, 1), (18, .getfield 246, 3), (21, .getfield 256, 3), (24, .ifCond .ne 6, 3), (27, .bipush (-5), 2), (29, .ireturn, 1), (30, .aload_n 0, 1), (31, .getfield 246, 3), (34, .getfield 250, 3), (37, .getfield 169, 3), (40, .iload_n 1, 1), (41, .iadd, 1), (42, .bipush 32, 2), (44, .if_icmp .le 8, 3), (47, .bipush (-6), 2), (49, .goto 4, 3), (52, .iconst 0, 1), (53, .ireturn, 1), (54, .aload_n 0, 1), (55, .getfield 158, 3), (58, .ifnull 25, 3), (61, .aload_n 0, 1), (62, .aload_n 0, 1), (63, .getfield 158, 3), (66, .invokestatic 259, 3), (69, .iload_n 1, 1), (70, .iadd, 1), (71, .bipush 64, 2), (73, .if_icmp .le 8, 3), (76, .bipush (-7), 2), (78, .goto 4, 3), (81, .iconst 0, 1), (82, .ireturn, 1), (83, .iconst 0, 1), (84, .ireturn, 1)]
theorem dd_D_hindranceToWrite : ∀ q ∈ tb_D_hindranceToWrite, decode prog_1_method_31_code q.1 = .ok q.2 := by decide +kernel
theorem d_D_hindranceToWrite {pc len : Nat} {i : Instr} (k : Nat) (h : tb_D_hindranceToWrite[k]? = some (pc, i, len)) : decode prog_1_method_31_code pc = .ok (i, len) := dd_D_hindranceToWrite (pc, i, len) (List.mem_of_getElem? h)
abbrev M_D_mustWait : XM := ("DescriptorDesk", prog_1_method_41_code, 4, (some FieldType.boolean), [], "mustWait")
abbrev rm_D_mustWait : Room := { frames := 3, cells := 0, slots := 0, locals := 63 }
def tb_D_mustWait : List (Nat × Instr × Nat) := [(0, .aload_n 1, 1), (1, .aload_n 1, 1), (2, .getfield 181, 3), (5, .invokevirtual 73, 3), (8, .astore_n 2, 1), (9, .aload_n 2, 1), (10, .ifnonnull 5, 3), (13, .iconst 0, 1), (14, .ireturn, 1), (15, .aload_n 1, 1), (16, .getfield 178, 3), (19, .iconst 2, 1), (20, .if_icmp .ne 15, 3), (23, .aload_n 0, 1), (24, .aload_n 2, 1), (25, .aload_n 1, 1), (26, .getfield 184, 3), (29, .invokevirtual 125, 3), (32, .goto 11, 3), (35, .aload_n 2, 1), (36, .aload_n 1, 1), (37, .getfield 184, 3), (40, .invokestatic 141, 3), (43, .istore_n 3, 1), (44, .iload_n 3, 1), (45, .bipush (-6), 2), (47, .if_icmp .ne 7, 3), (50, .iconst 1, 1), (51, .goto 4, 3), (54, .iconst 0, 1), (55, .ireturn, 1)]
theorem dd_D_mustWait : ∀ q ∈ tb_D_mustWait, decode prog_1_method_41_code q.1 = .ok q.2 := by decide +kernel
theorem d_D_mustWait {pc len : Nat} {i : Instr} (k : Nat) (h : tb_D_mustWait[k]? = some (pc, i, len)) : decode prog_1_method_41_code pc = .ok (i, len) := dd_D_mustWait (pc, i, len) (List.mem_of_getElem? h)
abbrev M_D_wakeAll : XM := ("DescriptorDesk", prog_1_method_40_code, 6, (some FieldType.int), [], "wakeAll")
abbrev rm_D_wakeAll : Room := { frames := 4, cells := 0, slots := 0, locals := 86 }
def tb_D_wakeAll : List (Nat × Instr × Nat) := [(0, .iconst 0, 1), (1, .istore_n 1, 1), (2, .aload_n 0, 1), (3, .getfield 11, 3), (6, .astore_n 2, 1), (7, .aload_n 2, 1), (8, .arraylength, 1), (9, .istore_n 3, 1), (10, .iconst 0, 1), (11, .istore 4, 2), (13, .iload 4, 2), (15, .iload_n 3, 1), (16, .if_icmp .ge 40, 3), (19, .aload_n 2, 1), (20, .iload 4, 2), (22, .aaload, 1), (23, .astore 5, 2), (25, .aload 5, 2), (27, .invokevirtual 301, 3), (30, .ifCond .eq 20, 3), (33, .aload_n 0, 1), (34, .aload 5, 2), (36, .invokevirtual 304, 3), (39, .ifCond .ne 11, 3), (42, .aload 5, 2), (44, .invokevirtual 308, 3), (47, .iinc 1 1, 3), (50, .iinc 4 1, 3), (53, .goto (-40), 3), (56, .iload_n 1, 1), (57, .ireturn, 1)]
theorem dd_D_wakeAll : ∀ q ∈ tb_D_wakeAll, decode prog_1_method_40_code q.1 = .ok q.2 := by decide +kernel
theorem d_D_wakeAll {pc len : Nat} {i : Instr} (k : Nat) (h : tb_D_wakeAll[k]? = some (pc, i, len)) : decode prog_1_method_40_code pc = .ok (i, len) := dd_D_wakeAll (pc, i, len) (List.mem_of_getElem? h)
abbrev M_D_exit : XM := ("DescriptorDesk", prog_1_method_4_code, 3, (some FieldType.int), [], "exit")
abbrev rm_D_exit : Room := { frames := 6, cells := 1, slots := 6, locals := 111 }
def tb_D_exit : List (Nat × Instr × Nat) := [(0, .aload_n 0, 1), (1, .iload_n 1, 1), (2, .invokevirtual 77, 3), (5, .astore_n 2, 1), (6, .aload_n 2, 1), (7, .ifnonnull 13, 3), (10, .new 80, 3), (13, .dup, 1), (14, .ldc 82, 2), (16, .invokespecial 84, 3), (19, .athrow, 1), (20, .aload_n 2, 1), (21, .invokevirtual 87, 3), (24, .aload_n 0, 1), (25, .invokevirtual 90, 3), (28, .ireturn, 1)]
theorem dd_D_exit : ∀ q ∈ tb_D_exit, decode prog_1_method_4_code q.1 = .ok q.2 := by decide +kernel
theorem d_D_exit {pc len : Nat} {i : Instr} (k : Nat) (h : tb_D_exit[k]? = some (pc, i, len)) : decode prog_1_method_4_code pc = .ok (i, len) := dd_D_exit (pc, i, len) (List.mem_of_getElem? h)
abbrev M_D_checkName : XM := ("DescriptorDesk", prog_1_method_22_code, 1, (none : Option FieldType), [], "checkName")
abbrev rm_D_checkName : Room := { frames := 6, cells := 1, slots := 6, locals := 90 }
def tb_D_checkName : List (Nat × Instr × Nat) := [(0, .iload_n 0, 1), (1, .iconst 1, 1), (2, .if_icmp .lt 9, 3), (5, .iload_n 0, 1), (6, .bipush 9, 2), (8, .if_icmp .le 13, 3), (11, .new 151, 3), (14, .dup, 1), (15, .ldc 231, 2), (17, .invokespecial 155, 3), (20, .athrow, 1), (21, .return_, 1)]
theorem dd_D_checkName : ∀ q ∈ tb_D_checkName, decode prog_1_method_22_code q.1 = .ok q.2 := by decide +kernel
theorem d_D_checkName {pc len : Nat} {i : Instr} (k : Nat) (h : tb_D_checkName[k]? = some (pc, i, len)) : decode prog_1_method_22_code pc = .ok (i, len) := dd_D_checkName (pc, i, len) (List.mem_of_getElem? h)
abbrev M_D_checkHow : XM := ("DescriptorDesk", prog_1_method_24_code, 6, (none : Option FieldType), [], "checkHow")
abbrev rm_D_checkHow : Room := { frames := 6, cells := 1, slots := 6, locals := 90 }
def tb_D_checkHow : List (Nat × Instr × Nat) := [(0, .iload_n 0, 1), (1, .iconst 1, 1), (2, .if_icmp .lt 13, 3), (5, .iload_n 0, 1), (6, .bipush 63, 2), (8, .if_icmp .gt 7, 3), (11, .iconst 1, 1), (12, .goto 4, 3), (15, .iconst 0, 1), (16, .istore_n 1, 1), (17, .iload_n 0, 1), (18, .iconst 2, 1), (19, .iand, 1), (20, .ifCond .eq 7, 3), (23, .iconst 1, 1), (24, .goto 4, 3), (27, .iconst 0, 1), (28, .istore_n 2, 1), (29, .iload_n 2, 1), (30, .ifCond .ne 9, 3), (33, .iload_n 0, 1), (34, .iconst 1, 1), (35, .iand, 1), (36, .ifCond .eq 7, 3), (39, .iconst 1, 1), (40, .goto 4, 3), (43, .iconst 0, 1), (44, .istore_n 3, 1), (45, .iload_n 0, 1), (46, .bipush 36, 2), (48, .iand, 1), (49, .ifCond .eq 7, 3), (52, .iconst 1, 1), (53, .goto 4, 3), (56, .iconst 0, 1), (57, .istore 4, 2), (59, .iload_n 0, 1), (60, .bipush 16, 2), (62, .iand, 1), (63, .ifCond .eq 7, 3), (66, .iconst 1, 1), (67, .goto 4, 3), (70, .iconst 0, 1), (71, .istore 5, 2), (73, .iload_n 1, 1), (74, .ifCond .eq 28, 3), (77, .iload_n 3, 1), (78, .ifCond .eq 24, 3), (81, .iload 4, 2), (83, .ifCond .eq 7, 3), (86, .iload_n 2, 1), (87, .ifCond .eq 15, 3), (90, .iload 5, 2), (92, .ifCond .eq 20, 3), (95, .iload_n 0, 1), (96, .bipush 8, 2), (98, .iand, 1), (99, .ifCond .ne 13, 3), (102, .new 151, 3), (105, .dup, 1), (106, .ldc 235, 2), (108, .invokespecial 155, 3), (111, .athrow, 1), (112, .return_, 1)]
theorem dd_D_checkHow : ∀ q ∈ tb_D_checkHow, decode prog_1_method_24_code q.1 = .ok q.2 := by decide +kernel
theorem d_D_checkHow {pc len : Nat} {i : Instr} (k : Nat) (h : tb_D_checkHow[k]? = some (pc, i, len)) : decode prog_1_method_24_code pc = .ok (i, len) := dd_D_checkHow (pc, i, len) (List.mem_of_getElem? h)
abbrev M_D_fileNamed : XM := ("DescriptorDesk", prog_1_method_29_code, 6, (some (FieldType.object "DescriptorDesk$StoredFile")), [], "fileNamed")
abbrev rm_D_fileNamed : Room := { frames := 0, cells := 0, slots := 0, locals := 0 }
def tb_D_fileNamed : List (Nat × Instr × Nat) := [(0, .aload_n 0, 1), (1, .getfield 29, 3), (4, .astore_n 2, 1), (5, .aload_n 2, 1), (6, .arraylength, 1), (7, .istore_n 3, 1), (8, .iconst 0, 1), (9, .istore 4, 2), (11, .iload 4, 2), (13, .iload_n 3, 1), (14, .if_icmp .ge 27, 3), (17, .aload_n 2, 1), (18, .iload 4, 2), (20, .aaload, 1), (21, .astore 5, 2), (23, .aload 5, 2), (25, .getfield 112, 3), (28, .iload_n 1, 1), (29, .if_icmp .ne 6, 3), (32, .aload 5, 2), (34, .areturn, 1), (35, .iinc 4 1, 3), (38, .goto (-27), 3), (41, .aconst_null, 1), (42, .areturn, 1)]
theorem dd_D_fileNamed : ∀ q ∈ tb_D_fileNamed, decode prog_1_method_29_code q.1 = .ok q.2 := by decide +kernel
theorem d_D_fileNamed {pc len : Nat} {i : Instr} (k : Nat) (h : tb_D_fileNamed[k]? = some (pc, i, len)) : decode prog_1_method_29_code pc = .ok (i, len) := dd_D_fileNamed (pc, i, len) (List.mem_of_getElem? h)
abbrev M_D_freeFile : XM := ("DescriptorDesk", prog_1_method_28_code, 5, (some (FieldType.object "DescriptorDesk$StoredFile")), [], "freeFile")
abbrev rm_D_freeFile : Room := { frames := 1, cells := 0, slots := 0, locals := 20 }
def tb_D_freeFile : List (Nat × Instr × Nat) := [(0, .aload_n 0, 1), (1, .getfield 29, 3), (4, .astore_n 1, 1), (5, .aload_n 1, 1), (6, .arraylength, 1), (7, .istore_n 2, 1), (8, .iconst 0, 1), (9, .istore_n 3, 1), (10, .iload_n 3, 1), (11, .iload_n 2, 1), (12, .if_icmp .ge 25, 3), (15, .aload_n 1, 1), (16, .iload_n 3, 1), (17, .aaload, 1), (18, .astore 4, 2), (20, .aload 4, 2), (22, .invokevirtual 241, 3), (25, .ifCond .ne 6, 3), (28, .aload 4, 2), (30, .areturn, 1), (31, .iinc 3 1, 3), (34, .goto (-24), 3), (37, .aconst_null, 1), (38, .areturn, 1)]
theorem dd_D_freeFile : ∀ q ∈ tb_D_freeFile, decode prog_1_method_28_code q.1 = .ok q.2 := by decide +kernel
theorem d_D_freeFile {pc len : Nat} {i : Instr} (k : Nat) (h : tb_D_freeFile[k]? = some (pc, i, len)) : decode prog_1_method_28_code pc = .ok (i, len) := dd_D_freeFile (pc, i, len) (List.mem_of_getElem? h)
abbrev M_Math_max : XM := ("java/lang/Math", prog_13_method_65_code, 2, (some FieldType.int), [], "max")
abbrev rm_Math_max : Room := { frames := 0, cells := 0, slots := 0, locals := 0 }
def tb_Math_max : List (Nat × Instr × Nat) := [(0, .iload_n 0, 1), (1, .iload_n 1, 1), (2, .if_icmp .lt 7, 3), (5, .iload_n 0, 1), (6, .goto 4, 3), (9, .iload_n 1, 1), (10, .ireturn, 1)]
theorem dd_Math_max : ∀ q ∈ tb_Math_max, decode prog_13_method_65_code q.1 = .ok q.2 := by decide +kernel
theorem d_Math_max {pc len : Nat} {i : Instr} (k : Nat) (h : tb_Math_max[k]? = some (pc, i, len)) : decode prog_13_method_65_code pc = .ok (i, len) := dd_Math_max (pc, i, len) (List.mem_of_getElem? h)
abbrev M_P_freeFrom : XM := ("DescriptorDesk$Proc", prog_5_method_8_code, 3, (some FieldType.int), [], "freeFrom")
abbrev rm_P_freeFrom : Room := { frames := 1, cells := 0, slots := 0, locals := 21 }
def tb_P_freeFrom : List (Nat × Instr × Nat) := [(0, .iconst 0, 1), (1, .iload_n 1, 1), (2, .invokestatic 38, 3), (5, .istore_n 2, 1), (6, .iload_n 2, 1), (7, .bipush 8, 2), (9, .if_icmp .ge 20, 3), (12, .aload_n 0, 1), (13, .getfield 11, 3), (16, .iload_n 2, 1), (17, .aaload, 1), (18, .ifnonnull 5, 3), (21, .iload_n 2, 1), (22, .ireturn, 1), (23, .iinc 2 1, 3), (26, .goto (-20), 3), (29, .iconst (-1), 1), (30, .ireturn, 1)]
theorem dd_P_freeFrom : ∀ q ∈ tb_P_freeFrom, decode prog_5_method_8_code q.1 = .ok q.2 := by decide +kernel
theorem d_P_freeFrom {pc len : Nat} {i : Instr} (k : Nat) (h : tb_P_freeFrom[k]? = some (pc, i, len)) : decode prog_5_method_8_code pc = .ok (i, len) := dd_P_freeFrom (pc, i, len) (List.mem_of_getElem? h)
abbrev M_D_open : XM := ("DescriptorDesk", prog_1_method_5_code, 9, (some FieldType.int), [], "open")
abbrev rm_D_open : Room := { frames := 7, cells := 1, slots := 6, locals := 115 }
def tb_D_open : List (Nat × Instr × Nat) := [(0, .aload_n 0, 1), (1, .iload_n 1, 1), (2, .invokevirtual 69, 3), (5, .astore 4, 2), (7, .iload_n 2, 1), (8, .invokestatic 93, 3), (11, .iload_n 3, 1), (12, .invokestatic 97, 3), (15, .aload_n 0, 1), (16, .iload_n 2, 1), (17, .invokevirtual 100, 3), (20, .astore 5, 2), (22, .aload 5, 2), (24, .ifnonnull 13, 3), (27, .iload_n 3, 1), (28, .bipush 8, 2), (30, .iand, 1), (31, .ifCond .ne 6, 3), (34, .bipush (-2), 2), (36, .ireturn, 1), (37, .aload 5, 2), (39, .ifnull 13, 3), (42, .iload_n 3, 1), (43, .bipush 16, 2), (45, .iand, 1), (46, .ifCond .eq 6, 3), (49, .bipush (-3), 2), (51, .ireturn, 1), (52, .aload 5, 2), (54, .ifnull 8, 3), (57, .aload 5, 2), (59, .goto 7, 3), (62, .aload_n 0, 1), (63, .invokevirtual 104, 3), (66, .astore 6, 2), (68, .aload 4, 2), (70, .iconst 0, 1), (71, .invokevirtual 108, 3), (74, .istore 7, 2), (76, .aload_n 0, 1), (77, .aconst_null, 1), (78, .invokevirtual 55, 3), (81, .astore 8, 2), (83, .aload 6, 2), (85, .ifnull 13, 3), (88, .iload 7, 2), (90, .ifCond .lt 8, 3), (93, .aload 8, 2), (95, .ifnonnull 6, 3), (98, .bipush (-4), 2), (100, .ireturn, 1), (101, .aload 6, 2), (103, .iload_n 2, 1), (104, .putfield 112, 3), (107, .aload 5, 2), (109, .ifnull 10, 3), (112, .iload_n 3, 1), (113, .bipush 32, 2), (115, .iand, 1), (116, .ifCond .eq 9, 3), (119, .aload 6, 2), (121, .iconst 0, 1), (122, .putfield 115, 3), (125, .aload 8, 2), (127, .aconst_null, 1), (128, .aload 6, 2), (130, .iload_n 3, 1), (131, .bipush 7, 2), (133, .iand, 1), (134, .invokevirtual 62, 3), (137, .aload 4, 2), (139, .iload 7, 2), (141, .aload 8, 2), (143, .invokevirtual 65, 3), (146, .iload 7, 2), (148, .ireturn, 1)]
theorem dd_D_open : ∀ q ∈ tb_D_open, decode prog_1_method_5_code q.1 = .ok q.2 := by decide +kernel
theorem d_D_open {pc len : Nat} {i : Instr} (k : Nat) (h : tb_D_open[k]? = some (pc, i, len)) : decode prog_1_method_5_code pc = .ok (i, len) := dd_D_open (pc, i, len) (List.mem_of_getElem? h)
abbrev M_D_freePipe : XM := ("DescriptorDesk", prog_1_method_27_code, 5, (some (FieldType.object "DescriptorDesk$Pipe")), [], "freePipe")
abbrev rm_D_freePipe : Room := { frames := 1, cells := 0, slots := 0, locals := 20 }
def tb_D_freePipe : List (Nat × Instr × Nat) := [(0, .aload_n 0, 1), (1, .getfield 23, 3), (4, .astore_n 1, 1), (5, .aload_n 1, 1), (6, .arraylength, 1), (7, .istore_n 2, 1), (8, .iconst 0, 1), (9, .istore_n 3, 1), (10, .iload_n 3, 1), (11, .iload_n 2, 1), (12, .if_icmp .ge 25, 3), (15, .aload_n 1, 1), (16, .iload_n 3, 1), (17, .aaload, 1), (18, .astore 4, 2), (20, .aload 4, 2), (22, .invokevirtual 237, 3), (25, .ifCond .ne 6, 3), (28, .aload 4, 2), (30, .areturn, 1), (31, .iinc 3 1, 3), (34, .goto (-24), 3), (37, .aconst_null, 1), (38, .areturn, 1)]
theorem dd_D_freePipe : ∀ q ∈ tb_D_freePipe, decode prog_1_method_27_code q.1 = .ok q.2 := by decide +kernel
theorem d_D_freePipe {pc len : Nat} {i : Instr} (k : Nat) (h : tb_D_freePipe[k]? = some (pc, i, len)) : decode prog_1_method_27_code pc = .ok (i, len) := dd_D_freePipe (pc, i, len) (List.mem_of_getElem? h)
abbrev M_D_pipe : XM := ("DescriptorDesk", prog_1_method_6_code, 8, (some FieldType.int), [], "pipe")
abbrev rm_D_pipe : Room := { frames := 7, cells := 1, slots := 6, locals := 112 }
def tb_D_pipe : List (Nat × Instr × Nat) := [(0, .aload_n 0, 1), (1, .iload_n 1, 1), (2, .invokevirtual 69, 3), (5, .astore_n 2, 1), (6, .aload_n 2, 1), (7, .iconst 0, 1), (8, .invokevirtual 108, 3), (11, .istore_n 3, 1), (12, .aload_n 2, 1), (13, .iload_n 3, 1), (14, .iconst 1, 1), (15, .iadd, 1), (16, .invokevirtual 108, 3), (19, .istore 4, 2), (21, .aload_n 0, 1), (22, .aconst_null, 1), (23, .invokevirtual 55, 3), (26, .astore 5, 2), (28, .aload_n 0, 1), (29, .aload 5, 2), (31, .invokevirtual 55, 3), (34, .astore 6, 2), (36, .aload_n 0, 1), (37, .invokevirtual 118, 3), (40, .astore 7, 2), (42, .iload_n 3, 1), (43, .ifCond .lt 23, 3), (46, .iload 4, 2), (48, .ifCond .lt 18, 3), (51, .aload 5, 2), (53, .ifnull 13, 3), (56, .aload 6, 2), (58, .ifnull 8, 3), (61, .aload 7, 2), (63, .ifnonnull 6, 3), (66, .bipush (-4), 2), (68, .ireturn, 1), (69, .aload 5, 2), (71, .aload 7, 2), (73, .aconst_null, 1), (74, .iconst 1, 1), (75, .invokevirtual 62, 3), (78, .aload 6, 2), (80, .aload 7, 2), (82, .aconst_null, 1), (83, .iconst 2, 1), (84, .invokevirtual 62, 3), (87, .aload_n 2, 1), (88, .iload_n 3, 1), (89, .aload 5, 2), (91, .invokevirtual 65, 3), (94, .aload_n 2, 1), (95, .iload 4, 2), (97, .aload 6, 2), (99, .invokevirtual 65, 3), (102, .iload_n 3, 1), (103, .bipush 8, 2), (105, .iload 4, 2), (107, .imul, 1), (108, .iadd, 1), (109, .ireturn, 1)]
theorem dd_D_pipe : ∀ q ∈ tb_D_pipe, decode prog_1_method_6_code q.1 = .ok q.2 := by decide +kernel
theorem d_D_pipe {pc len : Nat} {i : Instr} (k : Nat) (h : tb_D_pipe[k]? = some (pc, i, len)) : decode prog_1_method_6_code pc = .ok (i, len) := dd_D_pipe (pc, i, len) (List.mem_of_getElem? h)
abbrev M_D_checkAmount : XM := ("DescriptorDesk", prog_1_method_23_code, 1, (none : Option FieldType), [], "checkAmount")
abbrev rm_D_checkAmount : Room := { frames := 6, cells := 1, slots := 6, locals := 90 }
def tb_D_checkAmount : List (Nat × Instr × Nat) := [(0, .iload_n 0, 1), (1, .ifCond .lt 9, 3), (4, .iload_n 0, 1), (5, .bipush 8, 2), (7, .if_icmp .le 13, 3), (10, .new 151, 3), (13, .dup, 1), (14, .ldc 233, 2), (16, .invokespecial 155, 3), (19, .athrow, 1), (20, .return_, 1)]
theorem dd_D_checkAmount : ∀ q ∈ tb_D_checkAmount, decode prog_1_method_23_code q.1 = .ok q.2 := by decide +kernel
theorem d_D_checkAmount {pc len : Nat} {i : Instr} (k : Nat) (h : tb_D_checkAmount[k]? = some (pc, i, len)) : decode prog_1_method_23_code pc = .ok (i, len) := dd_D_checkAmount (pc, i, len) (List.mem_of_getElem? h)
abbrev M_P_beWaiting : XM := ("DescriptorDesk$Proc", prog_5_method_4_code, 4, (none : Option FieldType), [], "beWaiting")
abbrev rm_P_beWaiting : Room := { frames := 0, cells := 0, slots := 0, locals := 0 }
def tb_P_beWaiting : List (Nat × Instr × Nat) := [(0, .aload_n 0, 1), (1, .iload_n 1, 1), (2, .putfield 17, 3), (5, .aload_n 0, 1), (6, .iload_n 2, 1), (7, .putfield 21, 3), (10, .aload_n 0, 1), (11, .iload_n 3, 1), (12, .putfield 24, 3), (15, .return_, 1)]
theorem dd_P_beWaiting : ∀ q ∈ tb_P_beWaiting, decode prog_5_method_4_code q.1 = .ok q.2 := by decide +kernel
theorem d_P_beWaiting {pc len : Nat} {i : Instr} (k : Nat) (h : tb_P_beWaiting[k]? = some (pc, i, len)) : decode prog_5_method_4_code pc = .ok (i, len) := dd_P_beWaiting (pc, i, len) (List.mem_of_getElem? h)
abbrev M_Math_min : XM := ("java/lang/Math", prog_13_method_69_code, 2, (some FieldType.int), [], "min")
abbrev rm_Math_min : Room := { frames := 0, cells := 0, slots := 0, locals := 0 }
def tb_Math_min : List (Nat × Instr × Nat) := [(0, .iload_n 0, 1), (1, .iload_n 1, 1), (2, .if_icmp .gt 7, 3), (5, .iload_n 0, 1), (6, .goto 4, 3), (9, .iload_n 1, 1), (10, .ireturn, 1)]
theorem dd_Math_min : ∀ q ∈ tb_Math_min, decode prog_13_method_69_code q.1 = .ok q.2 := by decide +kernel
theorem d_Math_min {pc len : Nat} {i : Instr} (k : Nat) (h : tb_Math_min[k]? = some (pc, i, len)) : decode prog_13_method_69_code pc = .ok (i, len) := dd_Math_min (pc, i, len) (List.mem_of_getElem? h)
abbrev M_B_takeFirst : XM := ("DescriptorDesk$ByteRow", prog_2_method_4_code, 2, (some FieldType.int), [], "takeFirst")
abbrev rm_B_takeFirst : Room := { frames := 0, cells := 0, slots := 0, locals := 0 }
def tb_B_takeFirst : List (Nat × Instr × Nat) := [(0, .aload_n 0, 1), (1, .getfield 9, 3), (4, .aload_n 0, 1), (5, .getfield 13, 3), (8, .bipush 63, 2), (10, .iand, 1), (11, .iaload, 1), (12, .istore_n 1, 1), (13, .aload_n 0, 1), (14, .aload_n 0, 1), (15, .getfield 13, 3), (18, .iconst 1, 1), (19, .iadd, 1), (20, .bipush 63, 2), (22, .iand, 1), (23, .putfield 13, 3), (26, .aload_n 0, 1), (27, .dup, 1), (28, .getfield 17, 3), (31, .iconst 1, 1), (32, .isub, 1), (33, .putfield 17, 3), (36, .iload_n 1, 1), (37, .ireturn, 1)]
theorem dd_B_takeFirst : ∀ q ∈ tb_B_takeFirst, decode prog_2_method_4_code q.1 = .ok q.2 := by decide +kernel
theorem d_B_takeFirst {pc len : Nat} {i : Instr} (k : Nat) (h : tb_B_takeFirst[k]? = some (pc, i, len)) : decode prog_2_method_4_code pc = .ok (i, len) := dd_B_takeFirst (pc, i, len) (List.mem_of_getElem? h)
abbrev M_P_getByte : XM := ("DescriptorDesk$Proc", prog_5_method_12_code, 2, (none : Option FieldType), [], "getByte")
abbrev rm_P_getByte : Room := { frames := 0, cells := 0, slots := 0, locals := 0 }
def tb_P_getByte : List (Nat × Instr × Nat) := [(0, .aload_n 0, 1), (1, .aload_n 0, 1), (2, .getfield 27, 3), (5, .bipush 8, 2), (7, .lshl, 1), (8, .iload_n 1, 1), (9, .i2l, 1), (10, .lor, 1), (11, .putfield 27, 3), (14, .return_, 1)]
theorem dd_P_getByte : ∀ q ∈ tb_P_getByte, decode prog_5_method_12_code q.1 = .ok q.2 := by decide +kernel
theorem d_P_getByte {pc len : Nat} {i : Instr} (k : Nat) (h : tb_P_getByte[k]? = some (pc, i, len)) : decode prog_5_method_12_code pc = .ok (i, len) := dd_P_getByte (pc, i, len) (List.mem_of_getElem? h)
abbrev M_D_takeFromPipe : XM := ("DescriptorDesk", prog_1_method_34_code, 5, (some FieldType.int), [], "takeFromPipe")
abbrev rm_D_takeFromPipe : Room := { frames := 1, cells := 0, slots := 0, locals := 21 }
def tb_D_takeFromPipe : List (Nat × Instr × Nat) := [(0, .iload_n 2, 1), (1, .aload_n 1, 1), (2, .getfield 250, 3), (5, .getfield 169, 3), (8, .invokestatic 275, 3), (11, .istore_n 3, 1), (12, .iconst 0, 1), (13, .istore 4, 2), (15, .iload 4, 2), (17, .iload_n 3, 1), (18, .if_icmp .ge 20, 3), (21, .aload_n 0, 1), (22, .aload_n 1, 1), (23, .getfield 250, 3), (26, .invokevirtual 281, 3), (29, .invokevirtual 284, 3), (32, .iinc 4 1, 3), (35, .goto (-20), 3), (38, .iload_n 3, 1), (39, .ireturn, 1)]
theorem dd_D_takeFromPipe : ∀ q ∈ tb_D_takeFromPipe, decode prog_1_method_34_code q.1 = .ok q.2 := by decide +kernel
theorem d_D_takeFromPipe {pc len : Nat} {i : Instr} (k : Nat) (h : tb_D_takeFromPipe[k]? = some (pc, i, len)) : decode prog_1_method_34_code pc = .ok (i, len) := dd_D_takeFromPipe (pc, i, len) (List.mem_of_getElem? h)
abbrev M_F_byteAt : XM := ("DescriptorDesk$StoredFile", prog_6_method_3_code, 2, (some FieldType.int), [], "byteAt")
abbrev rm_F_byteAt : Room := { frames := 0, cells := 0, slots := 0, locals := 0 }
def tb_F_byteAt : List (Nat × Instr × Nat) := [(0, .iload_n 1, 1), (1, .ifCond .lt 18, 3), (4, .iload_n 1, 1), (5, .bipush 64, 2), (7, .if_icmp .ge 12, 3), (10, .aload_n 0, 1), (11, .getfield 9, 3), (14, .iload_n 1, 1), (15, .iaload, 1), (16, .goto 4, 3), (19, .iconst 0, 1), (20, .ireturn, 1)]
theorem dd_F_byteAt : ∀ q ∈ tb_F_byteAt, decode prog_6_method_3_code q.1 = .ok q.2 := by decide +kernel
theorem d_F_byteAt {pc len : Nat} {i : Instr} (k : Nat) (h : tb_F_byteAt[k]? = some (pc, i, len)) : decode prog_6_method_3_code pc = .ok (i, len) := dd_F_byteAt (pc, i, len) (List.mem_of_getElem? h)
abbrev M_D_takeFromFile : XM := ("DescriptorDesk", prog_1_method_35_code, 6, (some FieldType.int), [], "takeFromFile")
abbrev rm_D_takeFromFile : Room := { frames := 1, cells := 0, slots := 0, locals := 21 }
def tb_D_takeFromFile : List (Nat × Instr × Nat) := [(0, .iconst 0, 1), (1, .iload_n 3, 1), (2, .aload_n 2, 1), (3, .getfield 115, 3), (6, .aload_n 1, 1), (7, .getfield 162, 3), (10, .isub, 1), (11, .invokestatic 275, 3), (14, .invokestatic 287, 3), (17, .istore 4, 2), (19, .iconst 0, 1), (20, .istore 5, 2), (22, .iload 5, 2), (24, .iload 4, 2), (26, .if_icmp .ge 24, 3), (29, .aload_n 0, 1), (30, .aload_n 2, 1), (31, .aload_n 1, 1), (32, .getfield 162, 3), (35, .iload 5, 2), (37, .iadd, 1), (38, .invokevirtual 290, 3), (41, .invokevirtual 284, 3), (44, .iinc 5 1, 3), (47, .goto (-25), 3), (50, .aload_n 1, 1), (51, .dup, 1), (52, .getfield 162, 3), (55, .iload 4, 2), (57, .iadd, 1), (58, .putfield 162, 3), (61, .iload 4, 2), (63, .ireturn, 1)]
theorem dd_D_takeFromFile : ∀ q ∈ tb_D_takeFromFile, decode prog_1_method_35_code q.1 = .ok q.2 := by decide +kernel
theorem d_D_takeFromFile {pc len : Nat} {i : Instr} (k : Nat) (h : tb_D_takeFromFile[k]? = some (pc, i, len)) : decode prog_1_method_35_code pc = .ok (i, len) := dd_D_takeFromFile (pc, i, len) (List.mem_of_getElem? h)
abbrev M_D_takeFromConsole : XM := ("DescriptorDesk", prog_1_method_36_code, 6, (some FieldType.int), [], "takeFromConsole")
abbrev rm_D_takeFromConsole : Room := { frames := 1, cells := 0, slots := 0, locals := 21 }
def tb_D_takeFromConsole : List (Nat × Instr × Nat) := [(0, .iload_n 2, 1), (1, .aload_n 0, 1), (2, .getfield 36, 3), (5, .getfield 169, 3), (8, .invokestatic 275, 3), (11, .istore_n 3, 1), (12, .iconst 0, 1), (13, .istore 4, 2), (15, .iload 4, 2), (17, .iload_n 3, 1), (18, .if_icmp .ge 33, 3), (21, .aload_n 0, 1), (22, .getfield 36, 3), (25, .invokevirtual 281, 3), (28, .istore 5, 2), (30, .iload 5, 2), (32, .iconst 4, 1), (33, .if_icmp .ne 6, 3), (36, .iload 4, 2), (38, .ireturn, 1), (39, .aload_n 1, 1), (40, .iload 5, 2), (42, .invokevirtual 284, 3), (45, .iinc 4 1, 3), (48, .goto (-33), 3), (51, .iload_n 3, 1), (52, .ireturn, 1)]
theorem dd_D_takeFromConsole : ∀ q ∈ tb_D_takeFromConsole, decode prog_1_method_36_code q.1 = .ok q.2 := by decide +kernel
theorem d_D_takeFromConsole {pc len : Nat} {i : Instr} (k : Nat) (h : tb_D_takeFromConsole[k]? = some (pc, i, len)) : decode prog_1_method_36_code pc = .ok (i, len) := dd_D_takeFromConsole (pc, i, len) (List.mem_of_getElem? h)
abbrev M_D_take : XM := ("DescriptorDesk", prog_1_method_33_code, 4, (some FieldType.int), [], "take")
abbrev rm_D_take : Room := { frames := 2, cells := 0, slots := 0, locals := 46 }
def tb_D_take : List (Nat × Instr × Nat) := [(0, .aload_n 2, 1), (1, .getfield 246, 3), (4, .ifnull 13, 3), (7, .aload_n 1, 1), (8, .aload_n 2, 1), (9, .getfield 246, 3), (12, .iload_n 3, 1), (13, .invokestatic 263, 3), (16, .ireturn, 1), (17, .aload_n 2, 1), (18, .getfield 158, 3), (21, .ifnull 14, 3), (24, .aload_n 1, 1), (25, .aload_n 2, 1), (26, .aload_n 2, 1), (27, .getfield 158, 3), (30, .iload_n 3, 1), (31, .invokestatic 267, 3), (34, .ireturn, 1), (35, .aload_n 0, 1), (36, .aload_n 1, 1), (37, .iload_n 3, 1), (38, .invokevirtual 271, 3), (41, .ireturn, 1)]
theorem dd_D_take : ∀ q ∈ tb_D_take, decode prog_1_method_33_code q.1 = .ok q.2 := by decide +kernel
theorem d_D_take {pc len : Nat} {i : Instr} (k : Nat) (h : tb_D_take[k]? = some (pc, i, len)) : decode prog_1_method_33_code pc = .ok (i, len) := dd_D_take (pc, i, len) (List.mem_of_getElem? h)
abbrev M_D_read : XM := ("DescriptorDesk", prog_1_method_7_code, 8, (some FieldType.int), [], "read")
abbrev rm_D_read : Room := { frames := 7, cells := 1, slots := 6, locals := 112 }
def tb_D_read : List (Nat × Instr × Nat) := [(0, .aload_n 0, 1), (1, .iload_n 1, 1), (2, .invokevirtual 69, 3), (5, .astore 4, 2), (7, .iload_n 3, 1), (8, .invokestatic 122, 3), (11, .aload 4, 2), (13, .iload_n 2, 1), (14, .invokevirtual 73, 3), (17, .astore 5, 2), (19, .aload 5, 2), (21, .ifnonnull 5, 3), (24, .iconst (-1), 1), (25, .ireturn, 1), (26, .aload_n 0, 1), (27, .aload 5, 2), (29, .iload_n 3, 1), (30, .invokevirtual 125, 3), (33, .istore 6, 2), (35, .iload 6, 2), (37, .bipush (-6), 2), (39, .if_icmp .ne 11, 3), (42, .aload 4, 2), (44, .iconst 2, 1), (45, .iload_n 2, 1), (46, .iload_n 3, 1), (47, .invokevirtual 129, 3), (50, .iload 6, 2), (52, .ifCond .eq 6, 3), (55, .iload 6, 2), (57, .ireturn, 1), (58, .aload 4, 2), (60, .lconst 0, 1), (61, .putfield 133, 3), (64, .aload_n 0, 1), (65, .aload 4, 2), (67, .aload 5, 2), (69, .iload_n 3, 1), (70, .invokevirtual 137, 3), (73, .istore 7, 2), (75, .aload_n 0, 1), (76, .invokevirtual 90, 3), (79, .pop, 1), (80, .iload 7, 2), (82, .ireturn, 1)]
theorem dd_D_read : ∀ q ∈ tb_D_read, decode prog_1_method_7_code q.1 = .ok q.2 := by decide +kernel
theorem d_D_read {pc len : Nat} {i : Instr} (k : Nat) (h : tb_D_read[k]? = some (pc, i, len)) : decode prog_1_method_7_code pc = .ok (i, len) := dd_D_read (pc, i, len) (List.mem_of_getElem? h)
abbrev M_B_addLast : XM := ("DescriptorDesk$ByteRow", prog_2_method_3_code, 2, (none : Option FieldType), [], "addLast")
abbrev rm_B_addLast : Room := { frames := 0, cells := 0, slots := 0, locals := 0 }
def tb_B_addLast : List (Nat × Instr × Nat) := [(0, .aload_n 0, 1), (1, .getfield 9, 3), (4, .aload_n 0, 1), (5, .getfield 13, 3), (8, .aload_n 0, 1), (9, .getfield 17, 3), (12, .iadd, 1), (13, .bipush 63, 2), (15, .iand, 1), (16, .iload_n 1, 1), (17, .iastore, 1), (18, .aload_n 0, 1), (19, .dup, 1), (20, .getfield 17, 3), (23, .iconst 1, 1), (24, .iadd, 1), (25, .putfield 17, 3), (28, .return_, 1)]
theorem dd_B_addLast : ∀ q ∈ tb_B_addLast, decode prog_2_method_3_code q.1 = .ok q.2 := by decide +kernel
theorem d_B_addLast {pc len : Nat} {i : Instr} (k : Nat) (h : tb_B_addLast[k]? = some (pc, i, len)) : decode prog_2_method_3_code pc = .ok (i, len) := dd_B_addLast (pc, i, len) (List.mem_of_getElem? h)
abbrev M_F_put : XM := ("DescriptorDesk$StoredFile", prog_6_method_4_code, 4, (none : Option FieldType), [], "put")
abbrev rm_F_put : Room := { frames := 1, cells := 0, slots := 0, locals := 21 }
def tb_F_put : List (Nat × Instr × Nat) := [(0, .iload_n 1, 1), (1, .ifCond .lt 9, 3), (4, .iload_n 1, 1), (5, .bipush 64, 2), (7, .if_icmp .lt 4, 3), (10, .return_, 1), (11, .aload_n 0, 1), (12, .getfield 15, 3), (15, .istore_n 3, 1), (16, .iload_n 3, 1), (17, .iload_n 1, 1), (18, .if_icmp .ge 16, 3), (21, .aload_n 0, 1), (22, .getfield 9, 3), (25, .iload_n 3, 1), (26, .iconst 0, 1), (27, .iastore, 1), (28, .iinc 3 1, 3), (31, .goto (-15), 3), (34, .aload_n 0, 1), (35, .getfield 9, 3), (38, .iload_n 1, 1), (39, .iload_n 2, 1), (40, .iastore, 1), (41, .aload_n 0, 1), (42, .aload_n 0, 1), (43, .getfield 15, 3), (46, .iload_n 1, 1), (47, .iconst 1, 1), (48, .iadd, 1), (49, .invokestatic 25, 3), (52, .putfield 15, 3), (55, .return_, 1)]
theorem dd_F_put : ∀ q ∈ tb_F_put, decode prog_6_method_4_code q.1 = .ok q.2 := by decide +kernel
theorem d_F_put {pc len : Nat} {i : Instr} (k : Nat) (h : tb_F_put[k]? = some (pc, i, len)) : decode prog_6_method_4_code pc = .ok (i, len) := dd_F_put (pc, i, len) (List.mem_of_getElem? h)
abbrev M_D_showByte : XM := ("DescriptorDesk", prog_1_method_39_code, 2, (none : Option FieldType), [], "showByte")
abbrev rm_D_showByte : Room := { frames := 1, cells := 0, slots := 0, locals := 21 }
def tb_D_showByte : List (Nat × Instr × Nat) := [(0, .aload_n 0, 1), (1, .getfield 40, 3), (4, .getfield 169, 3), (7, .bipush 60, 2), (9, .if_icmp .lt 11, 3), (12, .aload_n 0, 1), (13, .getfield 40, 3), (16, .invokevirtual 281, 3), (19, .pop, 1), (20, .aload_n 0, 1), (21, .getfield 40, 3), (24, .iload_n 1, 1), (25, .invokevirtual 172, 3), (28, .aload_n 0, 1), (29, .dup, 1), (30, .getfield 43, 3), (33, .iconst 1, 1), (34, .iadd, 1), (35, .putfield 43, 3), (38, .return_, 1)]
theorem dd_D_showByte : ∀ q ∈ tb_D_showByte, decode prog_1_method_39_code q.1 = .ok q.2 := by decide +kernel
theorem d_D_showByte {pc len : Nat} {i : Instr} (k : Nat) (h : tb_D_showByte[k]? = some (pc, i, len)) : decode prog_1_method_39_code pc = .ok (i, len) := dd_D_showByte (pc, i, len) (List.mem_of_getElem? h)
abbrev M_D_putByte : XM := ("DescriptorDesk", prog_1_method_38_code, 3, (none : Option FieldType), [], "putByte")
abbrev rm_D_putByte : Room := { frames := 2, cells := 0, slots := 0, locals := 44 }
def tb_D_putByte : List (Nat × Instr × Nat) := [(0, .aload_n 1, 1), (1, .getfield 246, 3), (4, .ifnull 17, 3), (7, .aload_n 1, 1), (8, .getfield 246, 3), (11, .getfield 250, 3), (14, .iload_n 2, 1), (15, .invokevirtual 172, 3), (18, .goto 40, 3), (21, .aload_n 1, 1), (22, .getfield 158, 3), (25, .ifnull 28, 3), (28, .aload_n 1, 1), (29, .getfield 158, 3), (32, .aload_n 1, 1), (33, .getfield 162, 3), (36, .iload_n 2, 1), (37, .invokevirtual 295, 3), (40, .aload_n 1, 1), (41, .dup, 1), (42, .getfield 162, 3), (45, .iconst 1, 1), (46, .iadd, 1), (47, .putfield 162, 3), (50, .goto 8, 3), (53, .aload_n 0, 1), (54, .iload_n 2, 1), (55, .invokevirtual 298, 3), (58, .return_, 1)]
theorem dd_D_putByte : ∀ q ∈ tb_D_putByte, decode prog_1_method_38_code q.1 = .ok q.2 := by decide +kernel
theorem d_D_putByte {pc len : Nat} {i : Instr} (k : Nat) (h : tb_D_putByte[k]? = some (pc, i, len)) : decode prog_1_method_38_code pc = .ok (i, len) := dd_D_putByte (pc, i, len) (List.mem_of_getElem? h)
abbrev M_D_put : XM := ("DescriptorDesk", prog_1_method_37_code, 6, (none : Option FieldType), [], "put")
abbrev rm_D_put : Room := { frames := 3, cells := 0, slots := 0, locals := 66 }
def tb_D_put : List (Nat × Instr × Nat) := [(0, .iload 4, 2), (2, .ifCond .le 22, 3), (5, .aload_n 1, 1), (6, .getfield 158, 3), (9, .ifnull 15, 3), (12, .aload_n 1, 1), (13, .aload_n 1, 1), (14, .aload_n 1, 1), (15, .getfield 158, 3), (18, .invokestatic 259, 3), (21, .putfield 162, 3), (24, .iload 4, 2), (26, .iconst 1, 1), (27, .isub, 1), (28, .istore 5, 2), (30, .iload 5, 2), (32, .ifCond .lt 26, 3), (35, .aload_n 0, 1), (36, .aload_n 1, 1), (37, .lload_n 2, 1), (38, .bipush 8, 2), (40, .iload 5, 2), (42, .imul, 1), (43, .lushr, 1), (44, .l2i, 1), (45, .sipush 255, 3), (48, .iand, 1), (49, .invokevirtual 291, 3), (52, .iinc 5 (-1), 3), (55, .goto (-25), 3), (58, .return_, 1)]
theorem dd_D_put : ∀ q ∈ tb_D_put, decode prog_1_method_37_code q.1 = .ok q.2 := by decide +kernel
theorem d_D_put {pc len : Nat} {i : Instr} (k : Nat) (h : tb_D_put[k]? = some (pc, i, len)) : decode prog_1_method_37_code pc = .ok (i, len) := dd_D_put (pc, i, len) (List.mem_of_getElem? h)
abbrev M_D_write : XM := ("DescriptorDesk", prog_1_method_9_code, 9, (some FieldType.int), [], "write")
abbrev rm_D_write : Room := { frames := 7, cells := 1, slots := 6, locals := 112 }
def tb_D_write : List (Nat × Instr × Nat) := [(0, .aload_n 0, 1), (1, .iload_n 1, 1), (2, .invokevirtual 69, 3), (5, .astore 6, 2), (7, .iload 5, 2), (9, .invokestatic 122, 3), (12, .aload 6, 2), (14, .iload_n 2, 1), (15, .invokevirtual 73, 3), (18, .astore 7, 2), (20, .aload 7, 2), (22, .ifnonnull 5, 3), (25, .iconst (-1), 1), (26, .ireturn, 1), (27, .aload 7, 2), (29, .iload 5, 2), (31, .invokestatic 141, 3), (34, .istore 8, 2), (36, .iload 8, 2), (38, .bipush (-6), 2), (40, .if_icmp .ne 12, 3), (43, .aload 6, 2), (45, .iconst 3, 1), (46, .iload_n 2, 1), (47, .iload 5, 2), (49, .invokevirtual 129, 3), (52, .iload 8, 2), (54, .ifCond .eq 6, 3), (57, .iload 8, 2), (59, .ireturn, 1), (60, .aload_n 0, 1), (61, .aload 7, 2), (63, .lload_n 3, 1), (64, .iload 5, 2), (66, .invokevirtual 144, 3), (69, .aload_n 0, 1), (70, .invokevirtual 90, 3), (73, .pop, 1), (74, .iload 5, 2), (76, .ireturn, 1)]
theorem dd_D_write : ∀ q ∈ tb_D_write, decode prog_1_method_9_code q.1 = .ok q.2 := by decide +kernel
theorem d_D_write {pc len : Nat} {i : Instr} (k : Nat) (h : tb_D_write[k]? = some (pc, i, len)) : decode prog_1_method_9_code pc = .ok (i, len) := dd_D_write (pc, i, len) (List.mem_of_getElem? h)
abbrev M_D_close : XM := ("DescriptorDesk", prog_1_method_10_code, 4, (some FieldType.int), [], "close")
abbrev rm_D_close : Room := { frames := 7, cells := 1, slots := 6, locals := 112 }
def tb_D_close : List (Nat × Instr × Nat) := [(0, .aload_n 0, 1), (1, .iload_n 1, 1), (2, .invokevirtual 69, 3), (5, .astore_n 3, 1), (6, .aload_n 3, 1), (7, .iload_n 2, 1), (8, .invokevirtual 73, 3), (11, .ifnonnull 5, 3), (14, .iconst (-1), 1), (15, .ireturn, 1), (16, .aload_n 3, 1), (17, .iload_n 2, 1), (18, .invokevirtual 148, 3), (21, .aload_n 0, 1), (22, .invokevirtual 90, 3), (25, .pop, 1), (26, .iconst 0, 1), (27, .ireturn, 1)]
theorem dd_D_close : ∀ q ∈ tb_D_close, decode prog_1_method_10_code q.1 = .ok q.2 := by decide +kernel
theorem d_D_close {pc len : Nat} {i : Instr} (k : Nat) (h : tb_D_close[k]? = some (pc, i, len)) : decode prog_1_method_10_code pc = .ok (i, len) := dd_D_close (pc, i, len) (List.mem_of_getElem? h)
abbrev M_D_dup : XM := ("DescriptorDesk", prog_1_method_11_code, 7, (some FieldType.int), [], "dup")
abbrev rm_D_dup : Room := { frames := 7, cells := 1, slots := 6, locals := 112 }
def tb_D_dup : List (Nat × Instr × Nat) := [(0, .aload_n 0, 1), (1, .iload_n 1, 1), (2, .invokevirtual 69, 3), (5, .astore 4, 2), (7, .iload_n 3, 1), (8, .iconst (-1), 1), (9, .if_icmp .lt 9, 3), (12, .iload_n 3, 1), (13, .bipush 8, 2), (15, .if_icmp .lt 13, 3), (18, .new 151, 3), (21, .dup, 1), (22, .ldc 153, 2), (24, .invokespecial 155, 3), (27, .athrow, 1), (28, .aload 4, 2), (30, .iload_n 2, 1), (31, .invokevirtual 73, 3), (34, .astore 5, 2), (36, .aload 5, 2), (38, .ifnonnull 5, 3), (41, .iconst (-1), 1), (42, .ireturn, 1), (43, .iload_n 3, 1), (44, .iconst (-1), 1), (45, .if_icmp .ne 12, 3), (48, .aload 4, 2), (50, .iconst 0, 1), (51, .invokevirtual 108, 3), (54, .goto 4, 3), (57, .iload_n 3, 1), (58, .istore 6, 2), (60, .iload 6, 2), (62, .ifCond .ge 6, 3), (65, .bipush (-4), 2), (67, .ireturn, 1), (68, .aload 4, 2), (70, .iload 6, 2), (72, .aload 5, 2), (74, .invokevirtual 65, 3), (77, .aload_n 0, 1), (78, .invokevirtual 90, 3), (81, .pop, 1), (82, .iload 6, 2), (84, .ireturn, 1)]
theorem dd_D_dup : ∀ q ∈ tb_D_dup, decode prog_1_method_11_code q.1 = .ok q.2 := by decide +kernel
theorem d_D_dup {pc len : Nat} {i : Instr} (k : Nat) (h : tb_D_dup[k]? = some (pc, i, len)) : decode prog_1_method_11_code pc = .ok (i, len) := dd_D_dup (pc, i, len) (List.mem_of_getElem? h)
abbrev M_D_seek : XM := ("DescriptorDesk", prog_1_method_12_code, 10, (some FieldType.int), [], "seek")
abbrev rm_D_seek : Room := { frames := 7, cells := 1, slots := 6, locals := 112 }
def tb_D_seek : List (Nat × Instr × Nat) := [(0, .aload_n 0, 1), (1, .iload_n 1, 1), (2, .invokevirtual 69, 3), (5, .astore 5, 2), (7, .iload 4, 2), (9, .ifCond .lt 9, 3), (12, .iload 4, 2), (14, .iconst 2, 1), (15, .if_icmp .le 13, 3), (18, .new 151, 3), (21, .dup, 1), (22, .ldc 156, 2), (24, .invokespecial 155, 3), (27, .athrow, 1), (28, .aload 5, 2), (30, .iload_n 2, 1), (31, .invokevirtual 73, 3), (34, .astore 6, 2), (36, .aload 6, 2), (38, .ifnull 11, 3), (41, .aload 6, 2), (43, .getfield 158, 3), (46, .ifnonnull 5, 3), (49, .iconst (-1), 1), (50, .ireturn, 1), (51, .iload 4, 2), (53, .ifCond .ne 7, 3), (56, .iconst 0, 1), (57, .goto 25, 3), (60, .iload 4, 2), (62, .iconst 1, 1), (63, .if_icmp .ne 11, 3), (66, .aload 6, 2), (68, .getfield 162, 3), (71, .goto 11, 3), (74, .aload 6, 2), (76, .getfield 158, 3), (79, .getfield 115, 3), (82, .istore 7, 2), (84, .iload 7, 2), (86, .i2l, 1), (87, .iload_n 3, 1), (88, .i2l, 1), (89, .ladd, 1), (90, .lstore 8, 2), (92, .lload 8, 2), (94, .lconst 0, 1), (95, .lcmp, 1), (96, .ifCond .lt 12, 3), (99, .lload 8, 2), (101, .ldc2_w 165, 3), (104, .lcmp, 1), (105, .ifCond .le 5, 3), (108, .iconst (-1), 1), (109, .ireturn, 1), (110, .aload 6, 2), (112, .lload 8, 2), (114, .l2i, 1), (115, .putfield 162, 3), (118, .aload 6, 2), (120, .getfield 162, 3), (123, .ireturn, 1)]
theorem dd_D_seek : ∀ q ∈ tb_D_seek, decode prog_1_method_12_code q.1 = .ok q.2 := by decide +kernel
theorem d_D_seek {pc len : Nat} {i : Instr} (k : Nat) (h : tb_D_seek[k]? = some (pc, i, len)) : decode prog_1_method_12_code pc = .ok (i, len) := dd_D_seek (pc, i, len) (List.mem_of_getElem? h)
abbrev M_D_unlink : XM := ("DescriptorDesk", prog_1_method_13_code, 4, (some FieldType.int), [], "unlink")
abbrev rm_D_unlink : Room := { frames := 7, cells := 1, slots := 6, locals := 112 }
def tb_D_unlink : List (Nat × Instr × Nat) := [(0, .aload_n 0, 1), (1, .iload_n 1, 1), (2, .invokevirtual 69, 3), (5, .pop, 1), (6, .iload_n 2, 1), (7, .invokestatic 93, 3), (10, .aload_n 0, 1), (11, .iload_n 2, 1), (12, .invokevirtual 100, 3), (15, .astore_n 3, 1), (16, .aload_n 3, 1), (17, .ifnonnull 6, 3), (20, .bipush (-2), 2), (22, .ireturn, 1), (23, .aload_n 3, 1), (24, .iconst 0, 1), (25, .putfield 112, 3), (28, .iconst 0, 1), (29, .ireturn, 1)]
theorem dd_D_unlink : ∀ q ∈ tb_D_unlink, decode prog_1_method_13_code q.1 = .ok q.2 := by decide +kernel
theorem d_D_unlink {pc len : Nat} {i : Instr} (k : Nat) (h : tb_D_unlink[k]? = some (pc, i, len)) : decode prog_1_method_13_code pc = .ok (i, len) := dd_D_unlink (pc, i, len) (List.mem_of_getElem? h)
abbrev M_D_rename : XM := ("DescriptorDesk", prog_1_method_14_code, 6, (some FieldType.int), [], "rename")
abbrev rm_D_rename : Room := { frames := 7, cells := 1, slots := 6, locals := 112 }
def tb_D_rename : List (Nat × Instr × Nat) := [(0, .aload_n 0, 1), (1, .iload_n 1, 1), (2, .invokevirtual 69, 3), (5, .pop, 1), (6, .iload_n 2, 1), (7, .invokestatic 93, 3), (10, .iload_n 3, 1), (11, .invokestatic 93, 3), (14, .aload_n 0, 1), (15, .iload_n 2, 1), (16, .invokevirtual 100, 3), (19, .astore 4, 2), (21, .aload 4, 2), (23, .ifnonnull 6, 3), (26, .bipush (-2), 2), (28, .ireturn, 1), (29, .aload_n 0, 1), (30, .iload_n 3, 1), (31, .invokevirtual 100, 3), (34, .astore 5, 2), (36, .aload 5, 2), (38, .ifnull 9, 3), (41, .aload 5, 2), (43, .iconst 0, 1), (44, .putfield 112, 3), (47, .aload 4, 2), (49, .iload_n 3, 1), (50, .putfield 112, 3), (53, .iconst 0, 1), (54, .ireturn, 1)]
theorem dd_D_rename : ∀ q ∈ tb_D_rename, decode prog_1_method_14_code q.1 = .ok q.2 := by decide +kernel
theorem d_D_rename {pc len : Nat} {i : Instr} (k : Nat) (h : tb_D_rename[k]? = some (pc, i, len)) : decode prog_1_method_14_code pc = .ok (i, len) := dd_D_rename (pc, i, len) (List.mem_of_getElem? h)
abbrev M_D_type : XM := ("DescriptorDesk", prog_1_method_15_code, 2, (some FieldType.int), [], "type")
abbrev rm_D_type : Room := { frames := 6, cells := 1, slots := 6, locals := 111 }
def tb_D_type : List (Nat × Instr × Nat) := [(0, .iload_n 1, 1), (1, .ifCond .lt 10, 3), (4, .iload_n 1, 1), (5, .sipush 255, 3), (8, .if_icmp .le 13, 3), (11, .new 151, 3), (14, .dup, 1), (15, .ldc 167, 2), (17, .invokespecial 155, 3), (20, .athrow, 1), (21, .aload_n 0, 1), (22, .getfield 36, 3), (25, .getfield 169, 3), (28, .bipush 40, 2), (30, .if_icmp .lt 6, 3), (33, .bipush (-7), 2), (35, .ireturn, 1), (36, .aload_n 0, 1), (37, .getfield 36, 3), (40, .iload_n 1, 1), (41, .invokevirtual 172, 3), (44, .aload_n 0, 1), (45, .invokevirtual 90, 3), (48, .ireturn, 1)]
theorem dd_D_type : ∀ q ∈ tb_D_type, decode prog_1_method_15_code q.1 = .ok q.2 := by decide +kernel
theorem d_D_type {pc len : Nat} {i : Instr} (k : Nat) (h : tb_D_type[k]? = some (pc, i, len)) : decode prog_1_method_15_code pc = .ok (i, len) := dd_D_type (pc, i, len) (List.mem_of_getElem? h)
abbrev M_M_init : XM := ("DescriptorDeskModel", prog_8_method_1_code, 2, (none : Option FieldType), [], "<init>")
abbrev rm_M_init : Room := { frames := 1, cells := 18, slots := 882, locals := 20 }
def tb_M_init : List (Nat × Instr × Nat) := [(0, .aload_n 0, 1), (1, .invokespecial 1, 3), (4, .aload_n 0, 1), (5, .bipush 8, 2), (7, .newarray .int, 2), (9, .putfield 7, 3), (12, .aload_n 0, 1), (13, .bipush 8, 2), (15, .newarray .int, 2), (17, .putfield 13, 3), (20, .aload_n 0, 1), (21, .bipush 8, 2), (23, .newarray .int, 2), (25, .putfield 16, 3), (28, .aload_n 0, 1), (29, .bipush 64, 2), (31, .newarray .int, 2), (33, .putfield 19, 3), (36, .aload_n 0, 1), (37, .bipush 8, 2), (39, .newarray .long, 2), (41, .putfield 22, 3), (44, .aload_n 0, 1), (45, .bipush 20, 2), (47, .newarray .int, 2), (49, .putfield 26, 3), (52, .aload_n 0, 1), (53, .bipush 20, 2), (55, .newarray .int, 2), (57, .putfield 29, 3), (60, .aload_n 0, 1), (61, .bipush 20, 2), (63, .newarray .int, 2), (65, .putfield 32, 3), (68, .aload_n 0, 1), (69, .bipush 20, 2), (71, .newarray .int, 2), (73, .putfield 35, 3), (76, .aload_n 0, 1), (77, .bipush 6, 2), (79, .newarray .int, 2), (81, .putfield 38, 3), (84, .aload_n 0, 1), (85, .sipush 192, 3), (88, .newarray .int, 2), (90, .putfield 41, 3), (93, .aload_n 0, 1), (94, .bipush 6, 2), (96, .newarray .boolean, 2), (98, .putfield 44, 3), (101, .aload_n 0, 1), (102, .bipush 6, 2), (104, .newarray .boolean, 2), (106, .putfield 48, 3), (109, .aload_n 0, 1), (110, .bipush 6, 2), (112, .newarray .int, 2), (114, .putfield 51, 3), (117, .aload_n 0, 1), (118, .bipush 6, 2), (120, .newarray .int, 2), (122, .putfield 54, 3), (125, .aload_n 0, 1), (126, .sipush 384, 3), (129, .newarray .int, 2), (131, .putfield 57, 3), (134, .aload_n 0, 1), (135, .bipush 40, 2), (137, .newarray .int, 2), (139, .putfield 60, 3), (142, .aload_n 0, 1), (143, .bipush 60, 2), (145, .newarray .int, 2), (147, .putfield 63, 3), (150, .iconst 0, 1), (151, .istore_n 1, 1), (152, .iload_n 1, 1), (153, .bipush 64, 2), (155, .if_icmp .ge 16, 3), (158, .aload_n 0, 1), (159, .getfield 19, 3), (162, .iload_n 1, 1), (163, .iconst (-1), 1), (164, .iastore, 1), (165, .iinc 1 1, 3), (168, .goto (-16), 3), (171, .iconst 0, 1), (172, .istore_n 1, 1), (173, .iload_n 1, 1), (174, .bipush 8, 2), (176, .if_icmp .ge 16, 3), (179, .aload_n 0, 1), (180, .getfield 13, 3), (183, .iload_n 1, 1), (184, .iconst (-1), 1), (185, .iastore, 1), (186, .iinc 1 1, 3), (189, .goto (-16), 3), (192, .return_, 1)]
theorem dd_M_init : ∀ q ∈ tb_M_init, decode prog_8_method_1_code q.1 = .ok q.2 := by decide +kernel
theorem d_M_init {pc len : Nat} {i : Instr} (k : Nat) (h : tb_M_init[k]? = some (pc, i, len)) : decode prog_8_method_1_code pc = .ok (i, len) := dd_M_init (pc, i, len) (List.mem_of_getElem? h)
abbrev M_M_thrown : XM := ("DescriptorDeskModel", prog_8_method_2_code, 1, (some FieldType.int), [], "thrown")
abbrev rm_M_thrown : Room := { frames := 0, cells := 0, slots := 0, locals := 0 }
def tb_M_thrown : List (Nat × Instr × Nat) := [(0, .aload_n 0, 1), (1, .getfield 66, 3), (4, .ireturn, 1)]
theorem dd_M_thrown : ∀ q ∈ tb_M_thrown, decode prog_8_method_2_code q.1 = .ok q.2 := by decide +kernel
theorem d_M_thrown {pc len : Nat} {i : Instr} (k : Nat) (h : tb_M_thrown[k]? = some (pc, i, len)) : decode prog_8_method_2_code pc = .ok (i, len) := dd_M_thrown (pc, i, len) (List.mem_of_getElem? h)
abbrev M_M_freeProcess : XM := ("DescriptorDeskModel", prog_8_method_17_code, 2, (some FieldType.int), [], "freeProcess")
abbrev rm_M_freeProcess : Room := { frames := 0, cells := 0, slots := 0, locals := 0 }
def tb_M_freeProcess : List (Nat × Instr × Nat) := [(0, .iconst 0, 1), (1, .istore_n 1, 1), (2, .iload_n 1, 1), (3, .bipush 8, 2), (5, .if_icmp .ge 18, 3), (8, .aload_n 0, 1), (9, .getfield 7, 3), (12, .iload_n 1, 1), (13, .iaload, 1), (14, .ifCond .le 9, 3), (17, .iinc 1 1, 3), (20, .goto (-18), 3), (23, .iload_n 1, 1), (24, .bipush 8, 2), (26, .if_icmp .ge 7, 3), (29, .iload_n 1, 1), (30, .goto 4, 3), (33, .iconst (-1), 1), (34, .ireturn, 1)]
theorem dd_M_freeProcess : ∀ q ∈ tb_M_freeProcess, decode prog_8_method_17_code q.1 = .ok q.2 := by decide +kernel
theorem d_M_freeProcess {pc len : Nat} {i : Instr} (k : Nat) (h : tb_M_freeProcess[k]? = some (pc, i, len)) : decode prog_8_method_17_code pc = .ok (i, len) := dd_M_freeProcess (pc, i, len) (List.mem_of_getElem? h)
abbrev M_M_freeOpening : XM := ("DescriptorDeskModel", prog_8_method_10_code, 2, (some FieldType.int), [], "freeOpening")
abbrev rm_M_freeOpening : Room := { frames := 0, cells := 0, slots := 0, locals := 0 }
def tb_M_freeOpening : List (Nat × Instr × Nat) := [(0, .iconst 0, 1), (1, .istore_n 1, 1), (2, .iload_n 1, 1), (3, .bipush 20, 2), (5, .if_icmp .ge 18, 3), (8, .aload_n 0, 1), (9, .getfield 26, 3), (12, .iload_n 1, 1), (13, .iaload, 1), (14, .ifCond .le 9, 3), (17, .iinc 1 1, 3), (20, .goto (-18), 3), (23, .iload_n 1, 1), (24, .bipush 20, 2), (26, .if_icmp .ge 7, 3), (29, .iload_n 1, 1), (30, .goto 4, 3), (33, .iconst (-1), 1), (34, .ireturn, 1)]
theorem dd_M_freeOpening : ∀ q ∈ tb_M_freeOpening, decode prog_8_method_10_code q.1 = .ok q.2 := by decide +kernel
theorem d_M_freeOpening {pc len : Nat} {i : Instr} (k : Nat) (h : tb_M_freeOpening[k]? = some (pc, i, len)) : decode prog_8_method_10_code pc = .ok (i, len) := dd_M_freeOpening (pc, i, len) (List.mem_of_getElem? h)
abbrev M_M_begin : XM := ("DescriptorDeskModel", prog_8_method_18_code, 2, (none : Option FieldType), [], "begin")
abbrev rm_M_begin : Room := { frames := 0, cells := 0, slots := 0, locals := 0 }
def tb_M_begin : List (Nat × Instr × Nat) := [(0, .aload_n 0, 1), (1, .getfield 7, 3), (4, .iload_n 1, 1), (5, .iconst 1, 1), (6, .iastore, 1), (7, .aload_n 0, 1), (8, .getfield 13, 3), (11, .iload_n 1, 1), (12, .iconst (-1), 1), (13, .iastore, 1), (14, .aload_n 0, 1), (15, .getfield 16, 3), (18, .iload_n 1, 1), (19, .iconst 0, 1), (20, .iastore, 1), (21, .aload_n 0, 1), (22, .getfield 22, 3), (25, .iload_n 1, 1), (26, .lconst 0, 1), (27, .lastore, 1), (28, .return_, 1)]
theorem dd_M_begin : ∀ q ∈ tb_M_begin, decode prog_8_method_18_code q.1 = .ok q.2 := by decide +kernel
theorem d_M_begin {pc len : Nat} {i : Instr} (k : Nat) (h : tb_M_begin[k]? = some (pc, i, len)) : decode prog_8_method_18_code pc = .ok (i, len) := dd_M_begin (pc, i, len) (List.mem_of_getElem? h)
abbrev M_M_newOpening : XM := ("DescriptorDeskModel", prog_8_method_14_code, 5, (some FieldType.int), [], "newOpening")
abbrev rm_M_newOpening : Room := { frames := 1, cells := 0, slots := 0, locals := 21 }
def tb_M_newOpening : List (Nat × Instr × Nat) := [(0, .aload_n 0, 1), (1, .invokevirtual 82, 3), (4, .istore 4, 2), (6, .aload_n 0, 1), (7, .getfield 26, 3), (10, .iload 4, 2), (12, .iload_n 1, 1), (13, .iastore, 1), (14, .aload_n 0, 1), (15, .getfield 29, 3), (18, .iload 4, 2), (20, .iload_n 2, 1), (21, .iastore, 1), (22, .aload_n 0, 1), (23, .getfield 32, 3), (26, .iload 4, 2), (28, .iconst 0, 1), (29, .iastore, 1), (30, .aload_n 0, 1), (31, .getfield 35, 3), (34, .iload 4, 2), (36, .iload_n 3, 1), (37, .iastore, 1), (38, .iload 4, 2), (40, .ireturn, 1)]
theorem dd_M_newOpening : ∀ q ∈ tb_M_newOpening, decode prog_8_method_14_code q.1 = .ok q.2 := by decide +kernel
theorem d_M_newOpening {pc len : Nat} {i : Instr} (k : Nat) (h : tb_M_newOpening[k]? = some (pc, i, len)) : decode prog_8_method_14_code pc = .ok (i, len) := dd_M_newOpening (pc, i, len) (List.mem_of_getElem? h)
abbrev M_M_freeDescriptor : XM := ("DescriptorDeskModel", prog_8_method_12_code, 3, (some FieldType.int), [], "freeDescriptor")
abbrev rm_M_freeDescriptor : Room := { frames := 0, cells := 0, slots := 0, locals := 0 }
def tb_M_freeDescriptor : List (Nat × Instr × Nat) := [(0, .iconst 0, 1), (1, .istore_n 2, 1), (2, .iload_n 2, 1), (3, .bipush 8, 2), (5, .if_icmp .ge 24, 3), (8, .aload_n 0, 1), (9, .getfield 19, 3), (12, .bipush 8, 2), (14, .iload_n 1, 1), (15, .imul, 1), (16, .iload_n 2, 1), (17, .iadd, 1), (18, .iaload, 1), (19, .iconst (-1), 1), (20, .if_icmp .eq 9, 3), (23, .iinc 2 1, 3), (26, .goto (-24), 3), (29, .iload_n 2, 1), (30, .bipush 8, 2), (32, .if_icmp .ge 7, 3), (35, .iload_n 2, 1), (36, .goto 4, 3), (39, .iconst (-1), 1), (40, .ireturn, 1)]
theorem dd_M_freeDescriptor : ∀ q ∈ tb_M_freeDescriptor, decode prog_8_method_12_code q.1 = .ok q.2 := by decide +kernel
theorem d_M_freeDescriptor {pc len : Nat} {i : Instr} (k : Nat) (h : tb_M_freeDescriptor[k]? = some (pc, i, len)) : decode prog_8_method_12_code pc = .ok (i, len) := dd_M_freeDescriptor (pc, i, len) (List.mem_of_getElem? h)
abbrev M_M_give : XM := ("DescriptorDeskModel", prog_8_method_15_code, 4, (some FieldType.int), [], "give")
abbrev rm_M_give : Room := { frames := 1, cells := 0, slots := 0, locals := 22 }
def tb_M_give : List (Nat × Instr × Nat) := [(0, .aload_n 0, 1), (1, .iload_n 1, 1), (2, .invokevirtual 86, 3), (5, .istore_n 3, 1), (6, .aload_n 0, 1), (7, .getfield 19, 3), (10, .bipush 8, 2), (12, .iload_n 1, 1), (13, .imul, 1), (14, .iload_n 3, 1), (15, .iadd, 1), (16, .iload_n 2, 1), (17, .iastore, 1), (18, .iload_n 3, 1), (19, .ireturn, 1)]
theorem dd_M_give : ∀ q ∈ tb_M_give, decode prog_8_method_15_code q.1 = .ok q.2 := by decide +kernel
theorem d_M_give {pc len : Nat} {i : Instr} (k : Nat) (h : tb_M_give[k]? = some (pc, i, len)) : decode prog_8_method_15_code pc = .ok (i, len) := dd_M_give (pc, i, len) (List.mem_of_getElem? h)
abbrev M_M_spawn : XM := ("DescriptorDeskModel", prog_8_method_19_code, 3, (some FieldType.int), [], "spawn")
abbrev rm_M_spawn : Room := { frames := 2, cells := 0, slots := 0, locals := 45 }
def tb_M_spawn : List (Nat × Instr × Nat) := [(0, .aload_n 0, 1), (1, .iconst 0, 1), (2, .putfield 66, 3), (5, .aload_n 0, 1), (6, .invokevirtual 89, 3), (9, .istore_n 1, 1), (10, .iload_n 1, 1), (11, .ifCond .lt 10, 3), (14, .aload_n 0, 1), (15, .invokevirtual 82, 3), (18, .ifCond .ge 6, 3), (21, .bipush (-4), 2), (23, .ireturn, 1), (24, .aload_n 0, 1), (25, .iload_n 1, 1), (26, .invokevirtual 92, 3), (29, .aload_n 0, 1), (30, .iconst 4, 1), (31, .iconst 0, 1), (32, .iconst 3, 1), (33, .invokevirtual 96, 3), (36, .istore_n 2, 1), (37, .aload_n 0, 1), (38, .iload_n 1, 1), (39, .iload_n 2, 1), (40, .invokevirtual 100, 3), (43, .pop, 1), (44, .aload_n 0, 1), (45, .iload_n 1, 1), (46, .iload_n 2, 1), (47, .invokevirtual 100, 3), (50, .pop, 1), (51, .iload_n 1, 1), (52, .ireturn, 1)]
theorem dd_M_spawn : ∀ q ∈ tb_M_spawn, decode prog_8_method_19_code q.1 = .ok q.2 := by decide +kernel
theorem d_M_spawn {pc len : Nat} {i : Instr} (k : Nat) (h : tb_M_spawn[k]? = some (pc, i, len)) : decode prog_8_method_19_code pc = .ok (i, len) := dd_M_spawn (pc, i, len) (List.mem_of_getElem? h)
abbrev M_M_in : XM := ("DescriptorDeskModel", prog_8_method_4_code, 3, (some FieldType.boolean), [], "in")
abbrev rm_M_in : Room := { frames := 0, cells := 0, slots := 0, locals := 0 }
def tb_M_in : List (Nat × Instr × Nat) := [(0, .iload_n 0, 1), (1, .iload_n 1, 1), (2, .if_icmp .lt 12, 3), (5, .iload_n 0, 1), (6, .iload_n 2, 1), (7, .if_icmp .gt 7, 3), (10, .iconst 1, 1), (11, .goto 4, 3), (14, .iconst 0, 1), (15, .ireturn, 1)]
theorem dd_M_in : ∀ q ∈ tb_M_in, decode prog_8_method_4_code q.1 = .ok q.2 := by decide +kernel
theorem d_M_in {pc len : Nat} {i : Instr} (k : Nat) (h : tb_M_in[k]? = some (pc, i, len)) : decode prog_8_method_4_code pc = .ok (i, len) := dd_M_in (pc, i, len) (List.mem_of_getElem? h)
abbrev M_M_isReady : XM := ("DescriptorDeskModel", prog_8_method_6_code, 2, (some FieldType.boolean), [], "isReady")
abbrev rm_M_isReady : Room := { frames := 1, cells := 0, slots := 0, locals := 22 }
def tb_M_isReady : List (Nat × Instr × Nat) := [(0, .iload_n 1, 1), (1, .iconst 0, 1), (2, .bipush 7, 2), (4, .invokestatic 70, 3), (7, .ifCond .eq 17, 3), (10, .aload_n 0, 1), (11, .getfield 7, 3), (14, .iload_n 1, 1), (15, .iaload, 1), (16, .iconst 1, 1), (17, .if_icmp .ne 7, 3), (20, .iconst 1, 1), (21, .goto 4, 3), (24, .iconst 0, 1), (25, .ireturn, 1)]
theorem dd_M_isReady : ∀ q ∈ tb_M_isReady, decode prog_8_method_6_code q.1 = .ok q.2 := by decide +kernel
theorem d_M_isReady {pc len : Nat} {i : Instr} (k : Nat) (h : tb_M_isReady[k]? = some (pc, i, len)) : decode prog_8_method_6_code pc = .ok (i, len) := dd_M_isReady (pc, i, len) (List.mem_of_getElem? h)
abbrev M_M_fails : XM := ("DescriptorDeskModel", prog_8_method_3_code, 3, (some FieldType.boolean), [], "fails")
abbrev rm_M_fails : Room := { frames := 0, cells := 0, slots := 0, locals := 0 }
def tb_M_fails : List (Nat × Instr × Nat) := [(0, .aload_n 0, 1), (1, .iload_n 1, 1), (2, .ifCond .eq 7, 3), (5, .iconst 1, 1), (6, .goto 12, 3), (9, .iload_n 2, 1), (10, .ifCond .eq 7, 3), (13, .iconst 2, 1), (14, .goto 4, 3), (17, .iconst 0, 1), (18, .putfield 66, 3), (21, .aload_n 0, 1), (22, .getfield 66, 3), (25, .ifCond .le 7, 3), (28, .iconst 1, 1), (29, .goto 4, 3), (32, .iconst 0, 1), (33, .ireturn, 1)]
theorem dd_M_fails : ∀ q ∈ tb_M_fails, decode prog_8_method_3_code q.1 = .ok q.2 := by decide +kernel
theorem d_M_fails {pc len : Nat} {i : Instr} (k : Nat) (h : tb_M_fails[k]? = some (pc, i, len)) : decode prog_8_method_3_code pc = .ok (i, len) := dd_M_fails (pc, i, len) (List.mem_of_getElem? h)
abbrev M_M_fork : XM := ("DescriptorDeskModel", prog_8_method_20_code, 4, (some FieldType.int), [], "fork")
abbrev rm_M_fork : Room := { frames := 2, cells := 0, slots := 0, locals := 43 }
def tb_M_fork : List (Nat × Instr × Nat) := [(0, .aload_n 0, 1), (1, .aload_n 0, 1), (2, .iload_n 1, 1), (3, .invokevirtual 103, 3), (6, .ifCond .ne 7, 3), (9, .iconst 1, 1), (10, .goto 4, 3), (13, .iconst 0, 1), (14, .iconst 0, 1), (15, .invokevirtual 107, 3), (18, .ifCond .eq 5, 3), (21, .iconst 0, 1), (22, .ireturn, 1), (23, .aload_n 0, 1), (24, .invokevirtual 89, 3), (27, .istore_n 2, 1), (28, .iload_n 2, 1), (29, .ifCond .ge 6, 3), (32, .bipush (-4), 2), (34, .ireturn, 1), (35, .aload_n 0, 1), (36, .iload_n 2, 1), (37, .invokevirtual 92, 3), (40, .iconst 0, 1), (41, .istore_n 3, 1), (42, .iload_n 3, 1), (43, .bipush 8, 2), (45, .if_icmp .ge 31, 3), (48, .aload_n 0, 1), (49, .getfield 19, 3), (52, .bipush 8, 2), (54, .iload_n 2, 1), (55, .imul, 1), (56, .iload_n 3, 1), (57, .iadd, 1), (58, .aload_n 0, 1), (59, .getfield 19, 3), (62, .bipush 8, 2), (64, .iload_n 1, 1), (65, .imul, 1), (66, .iload_n 3, 1), (67, .iadd, 1), (68, .iaload, 1), (69, .iastore, 1), (70, .iinc 3 1, 3), (73, .goto (-31), 3), (76, .iload_n 2, 1), (77, .ireturn, 1)]
theorem dd_M_fork : ∀ q ∈ tb_M_fork, decode prog_8_method_20_code q.1 = .ok q.2 := by decide +kernel
theorem d_M_fork {pc len : Nat} {i : Instr} (k : Nat) (h : tb_M_fork[k]? = some (pc, i, len)) : decode prog_8_method_20_code pc = .ok (i, len) := dd_M_fork (pc, i, len) (List.mem_of_getElem? h)
abbrev M_M_isThere : XM := ("DescriptorDeskModel", prog_8_method_5_code, 2, (some FieldType.boolean), [], "isThere")
abbrev rm_M_isThere : Room := { frames := 1, cells := 0, slots := 0, locals := 22 }
def tb_M_isThere : List (Nat × Instr × Nat) := [(0, .iload_n 1, 1), (1, .iconst 0, 1), (2, .bipush 7, 2), (4, .invokestatic 70, 3), (7, .ifCond .eq 16, 3), (10, .aload_n 0, 1), (11, .getfield 7, 3), (14, .iload_n 1, 1), (15, .iaload, 1), (16, .ifCond .le 7, 3), (19, .iconst 1, 1), (20, .goto 4, 3), (23, .iconst 0, 1), (24, .ireturn, 1)]
theorem dd_M_isThere : ∀ q ∈ tb_M_isThere, decode prog_8_method_5_code q.1 = .ok q.2 := by decide +kernel
theorem d_M_isThere {pc len : Nat} {i : Instr} (k : Nat) (h : tb_M_isThere[k]? = some (pc, i, len)) : decode prog_8_method_5_code pc = .ok (i, len) := dd_M_isThere (pc, i, len) (List.mem_of_getElem? h)
abbrev M_M_holders : XM := ("DescriptorDeskModel", prog_8_method_7_code, 4, (some FieldType.int), [], "holders")
abbrev rm_M_holders : Room := { frames := 0, cells := 0, slots := 0, locals := 0 }
def tb_M_holders : List (Nat × Instr × Nat) := [(0, .iconst 0, 1), (1, .istore_n 2, 1), (2, .iconst 0, 1), (3, .istore_n 3, 1), (4, .iload_n 3, 1), (5, .bipush 64, 2), (7, .if_icmp .ge 27, 3), (10, .aload_n 0, 1), (11, .getfield 19, 3), (14, .iload_n 3, 1), (15, .iaload, 1), (16, .iload_n 1, 1), (17, .if_icmp .ne 9, 3), (20, .iload_n 2, 1), (21, .iconst 1, 1), (22, .iadd, 1), (23, .goto 4, 3), (26, .iload_n 2, 1), (27, .istore_n 2, 1), (28, .iinc 3 1, 3), (31, .goto (-27), 3), (34, .iload_n 2, 1), (35, .ireturn, 1)]
theorem dd_M_holders : ∀ q ∈ tb_M_holders, decode prog_8_method_7_code q.1 = .ok q.2 := by decide +kernel
theorem d_M_holders {pc len : Nat} {i : Instr} (k : Nat) (h : tb_M_holders[k]? = some (pc, i, len)) : decode prog_8_method_7_code pc = .ok (i, len) := dd_M_holders (pc, i, len) (List.mem_of_getElem? h)
abbrev M_M_openings : XM := ("DescriptorDeskModel", prog_8_method_8_code, 5, (some FieldType.int), [], "openings")
abbrev rm_M_openings : Room := { frames := 0, cells := 0, slots := 0, locals := 0 }
def tb_M_openings : List (Nat × Instr × Nat) := [(0, .iconst 0, 1), (1, .istore_n 3, 1), (2, .iconst 0, 1), (3, .istore 4, 2), (5, .iload 4, 2), (7, .bipush 20, 2), (9, .if_icmp .ge 39, 3), (12, .aload_n 0, 1), (13, .getfield 26, 3), (16, .iload 4, 2), (18, .iaload, 1), (19, .iload_n 1, 1), (20, .if_icmp .ne 20, 3), (23, .aload_n 0, 1), (24, .getfield 29, 3), (27, .iload 4, 2), (29, .iaload, 1), (30, .iload_n 2, 1), (31, .if_icmp .ne 9, 3), (34, .iload_n 3, 1), (35, .iconst 1, 1), (36, .iadd, 1), (37, .goto 4, 3), (40, .iload_n 3, 1), (41, .istore_n 3, 1), (42, .iinc 4 1, 3), (45, .goto (-40), 3), (48, .iload_n 3, 1), (49, .ireturn, 1)]
theorem dd_M_openings : ∀ q ∈ tb_M_openings, decode prog_8_method_8_code q.1 = .ok q.2 := by decide +kernel
theorem d_M_openings {pc len : Nat} {i : Instr} (k : Nat) (h : tb_M_openings[k]? = some (pc, i, len)) : decode prog_8_method_8_code pc = .ok (i, len) := dd_M_openings (pc, i, len) (List.mem_of_getElem? h)
abbrev M_M_sweep : XM := ("DescriptorDeskModel", prog_8_method_9_code, 2, (none : Option FieldType), [], "sweep")
abbrev rm_M_sweep : Room := { frames := 1, cells := 0, slots := 0, locals := 24 }
def tb_M_sweep : List (Nat × Instr × Nat) := [(0, .iconst 0, 1), (1, .istore_n 1, 1), (2, .iload_n 1, 1), (3, .bipush 20, 2), (5, .if_icmp .ge 42, 3), (8, .aload_n 0, 1), (9, .getfield 26, 3), (12, .iload_n 1, 1), (13, .aload_n 0, 1), (14, .getfield 26, 3), (17, .iload_n 1, 1), (18, .iaload, 1), (19, .ifCond .le 20, 3), (22, .aload_n 0, 1), (23, .iload_n 1, 1), (24, .invokevirtual 74, 3), (27, .ifCond .le 12, 3), (30, .aload_n 0, 1), (31, .getfield 26, 3), (34, .iload_n 1, 1), (35, .iaload, 1), (36, .goto 4, 3), (39, .iconst 0, 1), (40, .iastore, 1), (41, .iinc 1 1, 3), (44, .goto (-42), 3), (47, .iconst 0, 1), (48, .istore_n 1, 1), (49, .iload_n 1, 1), (50, .bipush 6, 2), (52, .if_icmp .ge 83, 3), (55, .aload_n 0, 1), (56, .getfield 44, 3), (59, .iload_n 1, 1), (60, .aload_n 0, 1), (61, .getfield 44, 3), (64, .iload_n 1, 1), (65, .baload, 1), (66, .ifCond .eq 23, 3), (69, .aload_n 0, 1), (70, .iconst 1, 1), (71, .iload_n 1, 1), (72, .invokevirtual 78, 3), (75, .aload_n 0, 1), (76, .iconst 2, 1), (77, .iload_n 1, 1), (78, .invokevirtual 78, 3), (81, .iadd, 1), (82, .ifCond .le 7, 3), (85, .iconst 1, 1), (86, .goto 4, 3), (89, .iconst 0, 1), (90, .bastore, 1), (91, .aload_n 0, 1), (92, .getfield 48, 3), (95, .iload_n 1, 1), (96, .aload_n 0, 1), (97, .getfield 48, 3), (100, .iload_n 1, 1), (101, .baload, 1), (102, .ifCond .eq 25, 3), (105, .aload_n 0, 1), (106, .getfield 51, 3), (109, .iload_n 1, 1), (110, .iaload, 1), (111, .ifCond .gt 12, 3), (114, .aload_n 0, 1), (115, .iconst 3, 1), (116, .iload_n 1, 1), (117, .invokevirtual 78, 3), (120, .ifCond .le 7, 3), (123, .iconst 1, 1), (124, .goto 4, 3), (127, .iconst 0, 1), (128, .bastore, 1), (129, .iinc 1 1, 3), (132, .goto (-83), 3), (135, .return_, 1)]
theorem dd_M_sweep : ∀ q ∈ tb_M_sweep, decode prog_8_method_9_code q.1 = .ok q.2 := by decide +kernel
theorem d_M_sweep {pc len : Nat} {i : Instr} (k : Nat) (h : tb_M_sweep[k]? = some (pc, i, len)) : decode prog_8_method_9_code pc = .ok (i, len) := dd_M_sweep (pc, i, len) (List.mem_of_getElem? h)
abbrev M_M_waits : XM := ("DescriptorDeskModel", prog_8_method_22_code, 6, (some FieldType.boolean), [], "waits")
abbrev rm_M_waits : Room := { frames := 1, cells := 0, slots := 0, locals := 24 }
def tb_M_waits : List (Nat × Instr × Nat) := [(0, .iload_n 3, 1), (1, .ifCond .ne 5, 3), (4, .iconst 0, 1), (5, .ireturn, 1), (6, .aload_n 0, 1), (7, .getfield 26, 3), (10, .iload_n 1, 1), (11, .iaload, 1), (12, .istore 4, 2), (14, .aload_n 0, 1), (15, .getfield 29, 3), (18, .iload_n 1, 1), (19, .iaload, 1), (20, .istore 5, 2), (22, .iload 4, 2), (24, .iconst 4, 1), (25, .if_icmp .ne 20, 3), (28, .iload_n 2, 1), (29, .ifCond .eq 14, 3), (32, .aload_n 0, 1), (33, .getfield 120, 3), (36, .ifCond .ne 7, 3), (39, .iconst 1, 1), (40, .goto 4, 3), (43, .iconst 0, 1), (44, .ireturn, 1), (45, .iload 4, 2), (47, .iconst 1, 1), (48, .if_icmp .ne 33, 3), (51, .iload_n 2, 1), (52, .ifCond .eq 27, 3), (55, .aload_n 0, 1), (56, .getfield 38, 3), (59, .iload 5, 2), (61, .iaload, 1), (62, .ifCond .ne 17, 3), (65, .aload_n 0, 1), (66, .iconst 2, 1), (67, .iload 5, 2), (69, .invokevirtual 78, 3), (72, .ifCond .le 7, 3), (75, .iconst 1, 1), (76, .goto 4, 3), (79, .iconst 0, 1), (80, .ireturn, 1), (81, .iload 4, 2), (83, .iconst 2, 1), (84, .if_icmp .ne 35, 3), (87, .iload_n 2, 1), (88, .ifCond .ne 31, 3), (91, .aload_n 0, 1), (92, .iconst 1, 1), (93, .iload 5, 2), (95, .invokevirtual 78, 3), (98, .ifCond .le 21, 3), (101, .aload_n 0, 1), (102, .getfield 38, 3), (105, .iload 5, 2), (107, .iaload, 1), (108, .iload_n 3, 1), (109, .iadd, 1), (110, .bipush 32, 2), (112, .if_icmp .le 7, 3), (115, .iconst 1, 1), (116, .goto 4, 3), (119, .iconst 0, 1), (120, .ireturn, 1)]
theorem dd_M_waits : ∀ q ∈ tb_M_waits, decode prog_8_method_22_code q.1 = .ok q.2 := by decide +kernel
theorem d_M_waits {pc len : Nat} {i : Instr} (k : Nat) (h : tb_M_waits[k]? = some (pc, i, len)) : decode prog_8_method_22_code pc = .ok (i, len) := dd_M_waits (pc, i, len) (List.mem_of_getElem? h)
abbrev M_M_wake : XM := ("DescriptorDeskModel", prog_8_method_23_code, 3, (some FieldType.int), [], "wake")
abbrev rm_M_wake : Room := { frames := 2, cells := 0, slots := 0, locals := 49 }
def tb_M_wake : List (Nat × Instr × Nat) := [(0, .iconst 0, 1), (1, .istore_n 1, 1), (2, .iconst 0, 1), (3, .istore_n 2, 1), (4, .iload_n 2, 1), (5, .bipush 8, 2), (7, .if_icmp .ge 90, 3), (10, .aload_n 0, 1), (11, .getfield 7, 3), (14, .iload_n 2, 1), (15, .iaload, 1), (16, .iconst 2, 1), (17, .if_icmp .lt 74, 3), (20, .aload_n 0, 1), (21, .aload_n 0, 1), (22, .getfield 19, 3), (25, .bipush 8, 2), (27, .iload_n 2, 1), (28, .imul, 1), (29, .aload_n 0, 1), (30, .getfield 13, 3), (33, .iload_n 2, 1), (34, .iaload, 1), (35, .iadd, 1), (36, .iaload, 1), (37, .aload_n 0, 1), (38, .getfield 7, 3), (41, .iload_n 2, 1), (42, .iaload, 1), (43, .iconst 2, 1), (44, .if_icmp .ne 7, 3), (47, .iconst 1, 1), (48, .goto 4, 3), (51, .iconst 0, 1), (52, .aload_n 0, 1), (53, .getfield 16, 3), (56, .iload_n 2, 1), (57, .iaload, 1), (58, .invokevirtual 123, 3), (61, .ifCond .eq 6, 3), (64, .goto 27, 3), (67, .aload_n 0, 1), (68, .getfield 7, 3), (71, .iload_n 2, 1), (72, .iconst 1, 1), (73, .iastore, 1), (74, .aload_n 0, 1), (75, .getfield 13, 3), (78, .iload_n 2, 1), (79, .iconst (-1), 1), (80, .iastore, 1), (81, .aload_n 0, 1), (82, .getfield 16, 3), (85, .iload_n 2, 1), (86, .iconst 0, 1), (87, .iastore, 1), (88, .iinc 1 1, 3), (91, .iinc 2 1, 3), (94, .goto (-90), 3), (97, .iload_n 1, 1), (98, .ireturn, 1)]
theorem dd_M_wake : ∀ q ∈ tb_M_wake, decode prog_8_method_23_code q.1 = .ok q.2 := by decide +kernel
theorem d_M_wake {pc len : Nat} {i : Instr} (k : Nat) (h : tb_M_wake[k]? = some (pc, i, len)) : decode prog_8_method_23_code pc = .ok (i, len) := dd_M_wake (pc, i, len) (List.mem_of_getElem? h)
abbrev M_M_exit : XM := ("DescriptorDeskModel", prog_8_method_21_code, 3, (some FieldType.int), [], "exit")
abbrev rm_M_exit : Room := { frames := 3, cells := 0, slots := 0, locals := 71 }
def tb_M_exit : List (Nat × Instr × Nat) := [(0, .aload_n 0, 1), (1, .aload_n 0, 1), (2, .iload_n 1, 1), (3, .invokevirtual 111, 3), (6, .ifCond .ne 7, 3), (9, .iconst 1, 1), (10, .goto 4, 3), (13, .iconst 0, 1), (14, .iconst 0, 1), (15, .invokevirtual 107, 3), (18, .ifCond .eq 5, 3), (21, .iconst 0, 1), (22, .ireturn, 1), (23, .iconst 0, 1), (24, .istore_n 2, 1), (25, .iload_n 2, 1), (26, .bipush 8, 2), (28, .if_icmp .ge 21, 3), (31, .aload_n 0, 1), (32, .getfield 19, 3), (35, .bipush 8, 2), (37, .iload_n 1, 1), (38, .imul, 1), (39, .iload_n 2, 1), (40, .iadd, 1), (41, .iconst (-1), 1), (42, .iastore, 1), (43, .iinc 2 1, 3), (46, .goto (-21), 3), (49, .aload_n 0, 1), (50, .getfield 7, 3), (53, .iload_n 1, 1), (54, .iconst 0, 1), (55, .iastore, 1), (56, .aload_n 0, 1), (57, .getfield 13, 3), (60, .iload_n 1, 1), (61, .iconst (-1), 1), (62, .iastore, 1), (63, .aload_n 0, 1), (64, .getfield 16, 3), (67, .iload_n 1, 1), (68, .iconst 0, 1), (69, .iastore, 1), (70, .aload_n 0, 1), (71, .getfield 22, 3), (74, .iload_n 1, 1), (75, .lconst 0, 1), (76, .lastore, 1), (77, .aload_n 0, 1), (78, .invokevirtual 114, 3), (81, .aload_n 0, 1), (82, .invokevirtual 117, 3), (85, .ireturn, 1)]
theorem dd_M_exit : ∀ q ∈ tb_M_exit, decode prog_8_method_21_code q.1 = .ok q.2 := by decide +kernel
theorem d_M_exit {pc len : Nat} {i : Instr} (k : Nat) (h : tb_M_exit[k]? = some (pc, i, len)) : decode prog_8_method_21_code pc = .ok (i, len) := dd_M_exit (pc, i, len) (List.mem_of_getElem? h)
abbrev M_M_named : XM := ("DescriptorDeskModel", prog_8_method_25_code, 3, (some FieldType.int), [], "named")
abbrev rm_M_named : Room := { frames := 0, cells := 0, slots := 0, locals := 0 }
def tb_M_named : List (Nat × Instr × Nat) := [(0, .iconst 0, 1), (1, .istore_n 2, 1), (2, .iload_n 2, 1), (3, .bipush 6, 2), (5, .if_icmp .ge 28, 3), (8, .aload_n 0, 1), (9, .getfield 48, 3), (12, .iload_n 2, 1), (13, .baload, 1), (14, .ifCond .eq 13, 3), (17, .aload_n 0, 1), (18, .getfield 51, 3), (21, .iload_n 2, 1), (22, .iaload, 1), (23, .iload_n 1, 1), (24, .if_icmp .eq 9, 3), (27, .iinc 2 1, 3), (30, .goto (-28), 3), (33, .iload_n 2, 1), (34, .bipush 6, 2), (36, .if_icmp .ge 7, 3), (39, .iload_n 2, 1), (40, .goto 4, 3), (43, .iconst (-1), 1), (44, .ireturn, 1)]
theorem dd_M_named : ∀ q ∈ tb_M_named, decode prog_8_method_25_code q.1 = .ok q.2 := by decide +kernel
theorem d_M_named {pc len : Nat} {i : Instr} (k : Nat) (h : tb_M_named[k]? = some (pc, i, len)) : decode prog_8_method_25_code pc = .ok (i, len) := dd_M_named (pc, i, len) (List.mem_of_getElem? h)
abbrev M_M_freeFile : XM := ("DescriptorDeskModel", prog_8_method_26_code, 2, (some FieldType.int), [], "freeFile")
abbrev rm_M_freeFile : Room := { frames := 0, cells := 0, slots := 0, locals := 0 }
def tb_M_freeFile : List (Nat × Instr × Nat) := [(0, .iconst 0, 1), (1, .istore_n 1, 1), (2, .iload_n 1, 1), (3, .bipush 6, 2), (5, .if_icmp .ge 18, 3), (8, .aload_n 0, 1), (9, .getfield 48, 3), (12, .iload_n 1, 1), (13, .baload, 1), (14, .ifCond .eq 9, 3), (17, .iinc 1 1, 3), (20, .goto (-18), 3), (23, .iload_n 1, 1), (24, .bipush 6, 2), (26, .if_icmp .ge 7, 3), (29, .iload_n 1, 1), (30, .goto 4, 3), (33, .iconst (-1), 1), (34, .ireturn, 1)]
theorem dd_M_freeFile : ∀ q ∈ tb_M_freeFile, decode prog_8_method_26_code q.1 = .ok q.2 := by decide +kernel
theorem d_M_freeFile {pc len : Nat} {i : Instr} (k : Nat) (h : tb_M_freeFile[k]? = some (pc, i, len)) : decode prog_8_method_26_code pc = .ok (i, len) := dd_M_freeFile (pc, i, len) (List.mem_of_getElem? h)
abbrev M_M_open : XM := ("DescriptorDeskModel", prog_8_method_27_code, 6, (some FieldType.int), [], "open")
abbrev rm_M_open : Room := { frames := 2, cells := 0, slots := 0, locals := 45 }
def tb_M_open : List (Nat × Instr × Nat) := [(0, .iload_n 3, 1), (1, .iconst 1, 1), (2, .bipush 63, 2), (4, .invokestatic 70, 3), (7, .ifCond .eq 52, 3), (10, .iload_n 3, 1), (11, .iconst 3, 1), (12, .iand, 1), (13, .ifCond .le 46, 3), (16, .iload_n 3, 1), (17, .iconst 4, 1), (18, .iand, 1), (19, .ifCond .eq 9, 3), (22, .iload_n 3, 1), (23, .iconst 2, 1), (24, .iand, 1), (25, .ifCond .le 34, 3), (28, .iload_n 3, 1), (29, .bipush 16, 2), (31, .iand, 1), (32, .ifCond .eq 10, 3), (35, .iload_n 3, 1), (36, .bipush 8, 2), (38, .iand, 1), (39, .ifCond .le 20, 3), (42, .iload_n 3, 1), (43, .bipush 32, 2), (45, .iand, 1), (46, .ifCond .eq 9, 3), (49, .iload_n 3, 1), (50, .iconst 2, 1), (51, .iand, 1), (52, .ifCond .le 7, 3), (55, .iconst 1, 1), (56, .goto 4, 3), (59, .iconst 0, 1), (60, .istore 4, 2), (62, .aload_n 0, 1), (63, .aload_n 0, 1), (64, .iload_n 1, 1), (65, .invokevirtual 103, 3), (68, .ifCond .ne 7, 3), (71, .iconst 1, 1), (72, .goto 4, 3), (75, .iconst 0, 1), (76, .iload_n 2, 1), (77, .iconst 1, 1), (78, .bipush 9, 2), (80, .invokestatic 70, 3), (83, .ifCond .eq 8, 3), (86, .iload 4, 2), (88, .ifCond .ne 7, 3), (91, .iconst 1, 1), (92, .goto 4, 3), (95, .iconst 0, 1), (96, .invokevirtual 107, 3), (99, .ifCond .eq 5, 3), (102, .iconst 0, 1), (103, .ireturn, 1), (104, .aload_n 0, 1), (105, .iload_n 2, 1), (106, .invokevirtual 127, 3), (109, .istore 5, 2), (111, .iload 5, 2), (113, .ifCond .ge 13, 3), (116, .iload_n 3, 1), (117, .bipush 8, 2), (119, .iand, 1), (120, .ifCond .ne 6, 3), (123, .bipush (-2), 2), (125, .ireturn, 1), (126, .iload 5, 2), (128, .ifCond .lt 13, 3), (131, .iload_n 3, 1), (132, .bipush 16, 2), (134, .iand, 1), (135, .ifCond .le 6, 3), (138, .bipush (-3), 2), (140, .ireturn, 1), (141, .aload_n 0, 1), (142, .iload_n 1, 1), (143, .invokevirtual 86, 3), (146, .ifCond .lt 22, 3), (149, .aload_n 0, 1), (150, .invokevirtual 82, 3), (153, .ifCond .lt 15, 3), (156, .iload 5, 2), (158, .ifCond .ge 13, 3), (161, .aload_n 0, 1), (162, .invokevirtual 130, 3), (165, .ifCond .ge 6, 3), (168, .bipush (-4), 2), (170, .ireturn, 1), (171, .iload 5, 2), (173, .ifCond .ge 33, 3), (176, .aload_n 0, 1), (177, .invokevirtual 130, 3), (180, .istore 5, 2), (182, .aload_n 0, 1), (183, .getfield 48, 3), (186, .iload 5, 2), (188, .iconst 1, 1), (189, .bastore, 1), (190, .aload_n 0, 1), (191, .getfield 51, 3), (194, .iload 5, 2), (196, .iload_n 2, 1), (197, .iastore, 1), (198, .aload_n 0, 1), (199, .getfield 54, 3), (202, .iload 5, 2), (204, .iconst 0, 1), (205, .iastore, 1), (206, .iload_n 3, 1), (207, .bipush 32, 2), (209, .iand, 1), (210, .ifCond .le 11, 3), (213, .aload_n 0, 1), (214, .getfield 54, 3), (217, .iload 5, 2), (219, .iconst 0, 1), (220, .iastore, 1), (221, .aload_n 0, 1), (222, .iload_n 1, 1), (223, .aload_n 0, 1), (224, .iconst 3, 1), (225, .iload 5, 2), (227, .iload_n 3, 1), (228, .bipush 7, 2), (230, .iand, 1), (231, .invokevirtual 96, 3), (234, .invokevirtual 100, 3), (237, .ireturn, 1)]
theorem dd_M_open : ∀ q ∈ tb_M_open, decode prog_8_method_27_code q.1 = .ok q.2 := by decide +kernel
theorem d_M_open {pc len : Nat} {i : Instr} (k : Nat) (h : tb_M_open[k]? = some (pc, i, len)) : decode prog_8_method_27_code pc = .ok (i, len) := dd_M_open (pc, i, len) (List.mem_of_getElem? h)
abbrev M_M_unlink : XM := ("DescriptorDeskModel", prog_8_method_28_code, 4, (some FieldType.int), [], "unlink")
abbrev rm_M_unlink : Room := { frames := 2, cells := 0, slots := 0, locals := 45 }
def tb_M_unlink : List (Nat × Instr × Nat) := [(0, .aload_n 0, 1), (1, .aload_n 0, 1), (2, .iload_n 1, 1), (3, .invokevirtual 103, 3), (6, .ifCond .ne 7, 3), (9, .iconst 1, 1), (10, .goto 4, 3), (13, .iconst 0, 1), (14, .iload_n 2, 1), (15, .iconst 1, 1), (16, .bipush 9, 2), (18, .invokestatic 70, 3), (21, .ifCond .ne 7, 3), (24, .iconst 1, 1), (25, .goto 4, 3), (28, .iconst 0, 1), (29, .invokevirtual 107, 3), (32, .ifCond .eq 5, 3), (35, .iconst 0, 1), (36, .ireturn, 1), (37, .aload_n 0, 1), (38, .iload_n 2, 1), (39, .invokevirtual 127, 3), (42, .istore_n 3, 1), (43, .iload_n 3, 1), (44, .ifCond .ge 6, 3), (47, .bipush (-2), 2), (49, .ireturn, 1), (50, .aload_n 0, 1), (51, .getfield 51, 3), (54, .iload_n 3, 1), (55, .iconst 0, 1), (56, .iastore, 1), (57, .aload_n 0, 1), (58, .invokevirtual 114, 3), (61, .iconst 0, 1), (62, .ireturn, 1)]
theorem dd_M_unlink : ∀ q ∈ tb_M_unlink, decode prog_8_method_28_code q.1 = .ok q.2 := by decide +kernel
theorem d_M_unlink {pc len : Nat} {i : Instr} (k : Nat) (h : tb_M_unlink[k]? = some (pc, i, len)) : decode prog_8_method_28_code pc = .ok (i, len) := dd_M_unlink (pc, i, len) (List.mem_of_getElem? h)
abbrev M_M_rename : XM := ("DescriptorDeskModel", prog_8_method_29_code, 6, (some FieldType.int), [], "rename")
abbrev rm_M_rename : Room := { frames := 2, cells := 0, slots := 0, locals := 45 }
def tb_M_rename : List (Nat × Instr × Nat) := [(0, .aload_n 0, 1), (1, .aload_n 0, 1), (2, .iload_n 1, 1), (3, .invokevirtual 103, 3), (6, .ifCond .ne 7, 3), (9, .iconst 1, 1), (10, .goto 4, 3), (13, .iconst 0, 1), (14, .iload_n 2, 1), (15, .iconst 1, 1), (16, .bipush 9, 2), (18, .invokestatic 70, 3), (21, .ifCond .eq 13, 3), (24, .iload_n 3, 1), (25, .iconst 1, 1), (26, .bipush 9, 2), (28, .invokestatic 70, 3), (31, .ifCond .ne 7, 3), (34, .iconst 1, 1), (35, .goto 4, 3), (38, .iconst 0, 1), (39, .invokevirtual 107, 3), (42, .ifCond .eq 5, 3), (45, .iconst 0, 1), (46, .ireturn, 1), (47, .aload_n 0, 1), (48, .iload_n 2, 1), (49, .invokevirtual 127, 3), (52, .istore 4, 2), (54, .iload 4, 2), (56, .ifCond .ge 6, 3), (59, .bipush (-2), 2), (61, .ireturn, 1), (62, .aload_n 0, 1), (63, .iload_n 3, 1), (64, .invokevirtual 127, 3), (67, .istore 5, 2), (69, .iload 5, 2), (71, .ifCond .lt 18, 3), (74, .iload 5, 2), (76, .iload 4, 2), (78, .if_icmp .eq 11, 3), (81, .aload_n 0, 1), (82, .getfield 51, 3), (85, .iload 5, 2), (87, .iconst 0, 1), (88, .iastore, 1), (89, .aload_n 0, 1), (90, .getfield 51, 3), (93, .iload 4, 2), (95, .iload_n 3, 1), (96, .iastore, 1), (97, .aload_n 0, 1), (98, .invokevirtual 114, 3), (101, .iconst 0, 1), (102, .ireturn, 1)]
theorem dd_M_rename : ∀ q ∈ tb_M_rename, decode prog_8_method_29_code q.1 = .ok q.2 := by decide +kernel
theorem d_M_rename {pc len : Nat} {i : Instr} (k : Nat) (h : tb_M_rename[k]? = some (pc, i, len)) : decode prog_8_method_29_code pc = .ok (i, len) := dd_M_rename (pc, i, len) (List.mem_of_getElem? h)
abbrev M_M_openingOf : XM := ("DescriptorDeskModel", prog_8_method_16_code, 3, (some FieldType.int), [], "openingOf")
abbrev rm_M_openingOf : Room := { frames := 1, cells := 0, slots := 0, locals := 22 }
def tb_M_openingOf : List (Nat × Instr × Nat) := [(0, .iload_n 2, 1), (1, .iconst 0, 1), (2, .bipush 7, 2), (4, .invokestatic 70, 3), (7, .ifCond .eq 17, 3), (10, .aload_n 0, 1), (11, .getfield 19, 3), (14, .bipush 8, 2), (16, .iload_n 1, 1), (17, .imul, 1), (18, .iload_n 2, 1), (19, .iadd, 1), (20, .iaload, 1), (21, .goto 4, 3), (24, .iconst (-1), 1), (25, .ireturn, 1)]
theorem dd_M_openingOf : ∀ q ∈ tb_M_openingOf, decode prog_8_method_16_code q.1 = .ok q.2 := by decide +kernel
theorem d_M_openingOf {pc len : Nat} {i : Instr} (k : Nat) (h : tb_M_openingOf[k]? = some (pc, i, len)) : decode prog_8_method_16_code pc = .ok (i, len) := dd_M_openingOf (pc, i, len) (List.mem_of_getElem? h)
abbrev M_M_seek : XM := ("DescriptorDeskModel", prog_8_method_30_code, 8, (some FieldType.int), [], "seek")
abbrev rm_M_seek : Room := { frames := 2, cells := 0, slots := 0, locals := 44 }
def tb_M_seek : List (Nat × Instr × Nat) := [(0, .aload_n 0, 1), (1, .aload_n 0, 1), (2, .iload_n 1, 1), (3, .invokevirtual 103, 3), (6, .ifCond .ne 7, 3), (9, .iconst 1, 1), (10, .goto 4, 3), (13, .iconst 0, 1), (14, .iload 4, 2), (16, .iconst 0, 1), (17, .iconst 2, 1), (18, .invokestatic 70, 3), (21, .ifCond .ne 7, 3), (24, .iconst 1, 1), (25, .goto 4, 3), (28, .iconst 0, 1), (29, .invokevirtual 107, 3), (32, .ifCond .eq 5, 3), (35, .iconst 0, 1), (36, .ireturn, 1), (37, .aload_n 0, 1), (38, .iload_n 1, 1), (39, .iload_n 2, 1), (40, .invokevirtual 133, 3), (43, .istore 5, 2), (45, .iload 5, 2), (47, .ifCond .lt 14, 3), (50, .aload_n 0, 1), (51, .getfield 26, 3), (54, .iload 5, 2), (56, .iaload, 1), (57, .iconst 3, 1), (58, .if_icmp .eq 5, 3), (61, .iconst (-1), 1), (62, .ireturn, 1), (63, .iload 4, 2), (65, .ifCond .ne 7, 3), (68, .lconst 0, 1), (69, .goto 33, 3), (72, .iload 4, 2), (74, .iconst 1, 1), (75, .if_icmp .ne 14, 3), (78, .aload_n 0, 1), (79, .getfield 32, 3), (82, .iload 5, 2), (84, .iaload, 1), (85, .i2l, 1), (86, .goto 16, 3), (89, .aload_n 0, 1), (90, .getfield 54, 3), (93, .aload_n 0, 1), (94, .getfield 29, 3), (97, .iload 5, 2), (99, .iaload, 1), (100, .iaload, 1), (101, .i2l, 1), (102, .iload_n 3, 1), (103, .i2l, 1), (104, .ladd, 1), (105, .lstore 6, 2), (107, .lload 6, 2), (109, .lconst 0, 1), (110, .lcmp, 1), (111, .ifCond .lt 12, 3), (114, .lload 6, 2), (116, .ldc2_w 136, 3), (119, .lcmp, 1), (120, .ifCond .le 5, 3), (123, .iconst (-1), 1), (124, .ireturn, 1), (125, .aload_n 0, 1), (126, .getfield 32, 3), (129, .iload 5, 2), (131, .lload 6, 2), (133, .l2i, 1), (134, .iastore, 1), (135, .aload_n 0, 1), (136, .getfield 32, 3), (139, .iload 5, 2), (141, .iaload, 1), (142, .ireturn, 1)]
theorem dd_M_seek : ∀ q ∈ tb_M_seek, decode prog_8_method_30_code q.1 = .ok q.2 := by decide +kernel
theorem d_M_seek {pc len : Nat} {i : Instr} (k : Nat) (h : tb_M_seek[k]? = some (pc, i, len)) : decode prog_8_method_30_code pc = .ok (i, len) := dd_M_seek (pc, i, len) (List.mem_of_getElem? h)
abbrev M_M_freeDescriptors : XM := ("DescriptorDeskModel", prog_8_method_13_code, 4, (some FieldType.int), [], "freeDescriptors")
abbrev rm_M_freeDescriptors : Room := { frames := 0, cells := 0, slots := 0, locals := 0 }
def tb_M_freeDescriptors : List (Nat × Instr × Nat) := [(0, .iconst 0, 1), (1, .istore_n 2, 1), (2, .iconst 0, 1), (3, .istore_n 3, 1), (4, .iload_n 3, 1), (5, .bipush 8, 2), (7, .if_icmp .ge 32, 3), (10, .aload_n 0, 1), (11, .getfield 19, 3), (14, .bipush 8, 2), (16, .iload_n 1, 1), (17, .imul, 1), (18, .iload_n 3, 1), (19, .iadd, 1), (20, .iaload, 1), (21, .iconst (-1), 1), (22, .if_icmp .ne 9, 3), (25, .iload_n 2, 1), (26, .iconst 1, 1), (27, .iadd, 1), (28, .goto 4, 3), (31, .iload_n 2, 1), (32, .istore_n 2, 1), (33, .iinc 3 1, 3), (36, .goto (-32), 3), (39, .iload_n 2, 1), (40, .ireturn, 1)]
theorem dd_M_freeDescriptors : ∀ q ∈ tb_M_freeDescriptors, decode prog_8_method_13_code q.1 = .ok q.2 := by decide +kernel
theorem d_M_freeDescriptors {pc len : Nat} {i : Instr} (k : Nat) (h : tb_M_freeDescriptors[k]? = some (pc, i, len)) : decode prog_8_method_13_code pc = .ok (i, len) := dd_M_freeDescriptors (pc, i, len) (List.mem_of_getElem? h)
abbrev M_M_countOpenings : XM := ("DescriptorDeskModel", prog_8_method_11_code, 3, (some FieldType.int), [], "countOpenings")
abbrev rm_M_countOpenings : Room := { frames := 0, cells := 0, slots := 0, locals := 0 }
def tb_M_countOpenings : List (Nat × Instr × Nat) := [(0, .iconst 0, 1), (1, .istore_n 1, 1), (2, .iconst 0, 1), (3, .istore_n 2, 1), (4, .iload_n 2, 1), (5, .bipush 20, 2), (7, .if_icmp .ge 26, 3), (10, .aload_n 0, 1), (11, .getfield 26, 3), (14, .iload_n 2, 1), (15, .iaload, 1), (16, .ifCond .le 9, 3), (19, .iload_n 1, 1), (20, .iconst 1, 1), (21, .iadd, 1), (22, .goto 4, 3), (25, .iload_n 1, 1), (26, .istore_n 1, 1), (27, .iinc 2 1, 3), (30, .goto (-26), 3), (33, .iload_n 1, 1), (34, .ireturn, 1)]
theorem dd_M_countOpenings : ∀ q ∈ tb_M_countOpenings, decode prog_8_method_11_code q.1 = .ok q.2 := by decide +kernel
theorem d_M_countOpenings {pc len : Nat} {i : Instr} (k : Nat) (h : tb_M_countOpenings[k]? = some (pc, i, len)) : decode prog_8_method_11_code pc = .ok (i, len) := dd_M_countOpenings (pc, i, len) (List.mem_of_getElem? h)
abbrev M_M_pipe : XM := ("DescriptorDeskModel", prog_8_method_31_code, 4, (some FieldType.int), [], "pipe")
abbrev rm_M_pipe : Room := { frames := 2, cells := 0, slots := 0, locals := 45 }
def tb_M_pipe : List (Nat × Instr × Nat) := [(0, .aload_n 0, 1), (1, .aload_n 0, 1), (2, .iload_n 1, 1), (3, .invokevirtual 103, 3), (6, .ifCond .ne 7, 3), (9, .iconst 1, 1), (10, .goto 4, 3), (13, .iconst 0, 1), (14, .iconst 0, 1), (15, .invokevirtual 107, 3), (18, .ifCond .eq 5, 3), (21, .iconst 0, 1), (22, .ireturn, 1), (23, .iconst 0, 1), (24, .istore_n 2, 1), (25, .iload_n 2, 1), (26, .bipush 6, 2), (28, .if_icmp .ge 18, 3), (31, .aload_n 0, 1), (32, .getfield 44, 3), (35, .iload_n 2, 1), (36, .baload, 1), (37, .ifCond .eq 9, 3), (40, .iinc 2 1, 3), (43, .goto (-18), 3), (46, .aload_n 0, 1), (47, .iload_n 1, 1), (48, .invokevirtual 138, 3), (51, .iconst 2, 1), (52, .if_icmp .lt 18, 3), (55, .aload_n 0, 1), (56, .invokevirtual 141, 3), (59, .bipush 18, 2), (61, .if_icmp .gt 9, 3), (64, .iload_n 2, 1), (65, .bipush 6, 2), (67, .if_icmp .ne 6, 3), (70, .bipush (-4), 2), (72, .ireturn, 1), (73, .aload_n 0, 1), (74, .getfield 44, 3), (77, .iload_n 2, 1), (78, .iconst 1, 1), (79, .bastore, 1), (80, .aload_n 0, 1), (81, .getfield 38, 3), (84, .iload_n 2, 1), (85, .iconst 0, 1), (86, .iastore, 1), (87, .aload_n 0, 1), (88, .iload_n 1, 1), (89, .aload_n 0, 1), (90, .iconst 1, 1), (91, .iload_n 2, 1), (92, .iconst 1, 1), (93, .invokevirtual 96, 3), (96, .invokevirtual 100, 3), (99, .istore_n 3, 1), (100, .iload_n 3, 1), (101, .bipush 8, 2), (103, .aload_n 0, 1), (104, .iload_n 1, 1), (105, .aload_n 0, 1), (106, .iconst 2, 1), (107, .iload_n 2, 1), (108, .iconst 2, 1), (109, .invokevirtual 96, 3), (112, .invokevirtual 100, 3), (115, .imul, 1), (116, .iadd, 1), (117, .ireturn, 1)]
theorem dd_M_pipe : ∀ q ∈ tb_M_pipe, decode prog_8_method_31_code q.1 = .ok q.2 := by decide +kernel
theorem d_M_pipe {pc len : Nat} {i : Instr} (k : Nat) (h : tb_M_pipe[k]? = some (pc, i, len)) : decode prog_8_method_31_code pc = .ok (i, len) := dd_M_pipe (pc, i, len) (List.mem_of_getElem? h)
abbrev M_M_waitFor : XM := ("DescriptorDeskModel", prog_8_method_24_code, 5, (some FieldType.int), [], "waitFor")
abbrev rm_M_waitFor : Room := { frames := 0, cells := 0, slots := 0, locals := 0 }
def tb_M_waitFor : List (Nat × Instr × Nat) := [(0, .aload_n 0, 1), (1, .getfield 7, 3), (4, .iload_n 1, 1), (5, .iload 4, 2), (7, .iastore, 1), (8, .aload_n 0, 1), (9, .getfield 13, 3), (12, .iload_n 1, 1), (13, .iload_n 2, 1), (14, .iastore, 1), (15, .aload_n 0, 1), (16, .getfield 16, 3), (19, .iload_n 1, 1), (20, .iload_n 3, 1), (21, .iastore, 1), (22, .bipush (-6), 2), (24, .ireturn, 1)]
theorem dd_M_waitFor : ∀ q ∈ tb_M_waitFor, decode prog_8_method_24_code q.1 = .ok q.2 := by decide +kernel
theorem d_M_waitFor {pc len : Nat} {i : Instr} (k : Nat) (h : tb_M_waitFor[k]? = some (pc, i, len)) : decode prog_8_method_24_code pc = .ok (i, len) := dd_M_waitFor (pc, i, len) (List.mem_of_getElem? h)
abbrev M_M_take : XM := ("DescriptorDeskModel", prog_8_method_32_code, 4, (none : Option FieldType), [], "take")
abbrev rm_M_take : Room := { frames := 0, cells := 0, slots := 0, locals := 0 }
def tb_M_take : List (Nat × Instr × Nat) := [(0, .aload_n 0, 1), (1, .getfield 22, 3), (4, .iload_n 1, 1), (5, .iload_n 3, 1), (6, .ifCond .ne 8, 3), (9, .iload_n 2, 1), (10, .i2l, 1), (11, .goto 15, 3), (14, .aload_n 0, 1), (15, .getfield 22, 3), (18, .iload_n 1, 1), (19, .laload, 1), (20, .bipush 8, 2), (22, .lshl, 1), (23, .iload_n 2, 1), (24, .i2l, 1), (25, .lor, 1), (26, .lastore, 1), (27, .return_, 1)]
theorem dd_M_take : ∀ q ∈ tb_M_take, decode prog_8_method_32_code q.1 = .ok q.2 := by decide +kernel
theorem d_M_take {pc len : Nat} {i : Instr} (k : Nat) (h : tb_M_take[k]? = some (pc, i, len)) : decode prog_8_method_32_code pc = .ok (i, len) := dd_M_take (pc, i, len) (List.mem_of_getElem? h)
abbrev M_M_readPipe : XM := ("DescriptorDeskModel", prog_8_method_33_code, 6, (some FieldType.int), [], "readPipe")
abbrev rm_M_readPipe : Room := { frames := 1, cells := 0, slots := 0, locals := 23 }
def tb_M_readPipe : List (Nat × Instr × Nat) := [(0, .aload_n 0, 1), (1, .getfield 38, 3), (4, .iload_n 2, 1), (5, .iaload, 1), (6, .iload_n 3, 1), (7, .if_icmp .ge 12, 3), (10, .aload_n 0, 1), (11, .getfield 38, 3), (14, .iload_n 2, 1), (15, .iaload, 1), (16, .goto 4, 3), (19, .iload_n 3, 1), (20, .istore 4, 2), (22, .aload_n 0, 1), (23, .getfield 22, 3), (26, .iload_n 1, 1), (27, .lconst 0, 1), (28, .lastore, 1), (29, .iconst 0, 1), (30, .istore 5, 2), (32, .iload 5, 2), (34, .iload 4, 2), (36, .if_icmp .ge 28, 3), (39, .aload_n 0, 1), (40, .iload_n 1, 1), (41, .aload_n 0, 1), (42, .getfield 41, 3), (45, .bipush 32, 2), (47, .iload_n 2, 1), (48, .imul, 1), (49, .iload 5, 2), (51, .iadd, 1), (52, .iaload, 1), (53, .iload 5, 2), (55, .invokevirtual 144, 3), (58, .iinc 5 1, 3), (61, .goto (-29), 3), (64, .iload 4, 2), (66, .istore 5, 2), (68, .iload 5, 2), (70, .aload_n 0, 1), (71, .getfield 38, 3), (74, .iload_n 2, 1), (75, .iaload, 1), (76, .if_icmp .ge 36, 3), (79, .aload_n 0, 1), (80, .getfield 41, 3), (83, .bipush 32, 2), (85, .iload_n 2, 1), (86, .imul, 1), (87, .iload 5, 2), (89, .iadd, 1), (90, .iload 4, 2), (92, .isub, 1), (93, .aload_n 0, 1), (94, .getfield 41, 3), (97, .bipush 32, 2), (99, .iload_n 2, 1), (100, .imul, 1), (101, .iload 5, 2), (103, .iadd, 1), (104, .iaload, 1), (105, .iastore, 1), (106, .iinc 5 1, 3), (109, .goto (-41), 3), (112, .aload_n 0, 1), (113, .getfield 38, 3), (116, .iload_n 2, 1), (117, .dup2, 1), (118, .iaload, 1), (119, .iload 4, 2), (121, .isub, 1), (122, .iastore, 1), (123, .iload 4, 2), (125, .ireturn, 1)]
theorem dd_M_readPipe : ∀ q ∈ tb_M_readPipe, decode prog_8_method_33_code q.1 = .ok q.2 := by decide +kernel
theorem d_M_readPipe {pc len : Nat} {i : Instr} (k : Nat) (h : tb_M_readPipe[k]? = some (pc, i, len)) : decode prog_8_method_33_code pc = .ok (i, len) := dd_M_readPipe (pc, i, len) (List.mem_of_getElem? h)
abbrev M_M_readFile : XM := ("DescriptorDeskModel", prog_8_method_34_code, 6, (some FieldType.int), [], "readFile")
abbrev rm_M_readFile : Room := { frames := 1, cells := 0, slots := 0, locals := 23 }
def tb_M_readFile : List (Nat × Instr × Nat) := [(0, .aload_n 0, 1), (1, .getfield 29, 3), (4, .iload_n 2, 1), (5, .iaload, 1), (6, .istore 4, 2), (8, .iconst 0, 1), (9, .istore 5, 2), (11, .aload_n 0, 1), (12, .getfield 22, 3), (15, .iload_n 1, 1), (16, .lconst 0, 1), (17, .lastore, 1), (18, .iload 5, 2), (20, .iload_n 3, 1), (21, .if_icmp .ge 59, 3), (24, .aload_n 0, 1), (25, .getfield 32, 3), (28, .iload_n 2, 1), (29, .iaload, 1), (30, .aload_n 0, 1), (31, .getfield 54, 3), (34, .iload 4, 2), (36, .iaload, 1), (37, .if_icmp .ge 43, 3), (40, .aload_n 0, 1), (41, .iload_n 1, 1), (42, .aload_n 0, 1), (43, .getfield 57, 3), (46, .bipush 64, 2), (48, .iload 4, 2), (50, .imul, 1), (51, .aload_n 0, 1), (52, .getfield 32, 3), (55, .iload_n 2, 1), (56, .iaload, 1), (57, .iadd, 1), (58, .iaload, 1), (59, .iload 5, 2), (61, .invokevirtual 144, 3), (64, .aload_n 0, 1), (65, .getfield 32, 3), (68, .iload_n 2, 1), (69, .dup2, 1), (70, .iaload, 1), (71, .iconst 1, 1), (72, .iadd, 1), (73, .iastore, 1), (74, .iinc 5 1, 3), (77, .goto (-59), 3), (80, .iload 5, 2), (82, .ireturn, 1)]
theorem dd_M_readFile : ∀ q ∈ tb_M_readFile, decode prog_8_method_34_code q.1 = .ok q.2 := by decide +kernel
theorem d_M_readFile {pc len : Nat} {i : Instr} (k : Nat) (h : tb_M_readFile[k]? = some (pc, i, len)) : decode prog_8_method_34_code pc = .ok (i, len) := dd_M_readFile (pc, i, len) (List.mem_of_getElem? h)
abbrev M_M_readConsole : XM := ("DescriptorDeskModel", prog_8_method_35_code, 6, (some FieldType.int), [], "readConsole")
abbrev rm_M_readConsole : Room := { frames := 1, cells := 0, slots := 0, locals := 23 }
def tb_M_readConsole : List (Nat × Instr × Nat) := [(0, .iconst 0, 1), (1, .istore_n 3, 1), (2, .iconst 0, 1), (3, .istore 4, 2), (5, .aload_n 0, 1), (6, .getfield 22, 3), (9, .iload_n 1, 1), (10, .lconst 0, 1), (11, .lastore, 1), (12, .iload 4, 2), (14, .iload_n 3, 1), (15, .if_icmp .ne 52, 3), (18, .iload_n 3, 1), (19, .iload_n 2, 1), (20, .if_icmp .ge 47, 3), (23, .iload 4, 2), (25, .aload_n 0, 1), (26, .getfield 120, 3), (29, .if_icmp .ge 38, 3), (32, .aload_n 0, 1), (33, .getfield 60, 3), (36, .iload 4, 2), (38, .iaload, 1), (39, .istore 5, 2), (41, .iinc 4 1, 3), (44, .iload 5, 2), (46, .iconst 4, 1), (47, .if_icmp .ne 6, 3), (50, .goto (-38), 3), (53, .aload_n 0, 1), (54, .iload_n 1, 1), (55, .iload 5, 2), (57, .iload_n 3, 1), (58, .invokevirtual 144, 3), (61, .iinc 3 1, 3), (64, .goto (-52), 3), (67, .iload 4, 2), (69, .istore 5, 2), (71, .iload 5, 2), (73, .aload_n 0, 1), (74, .getfield 120, 3), (77, .if_icmp .ge 26, 3), (80, .aload_n 0, 1), (81, .getfield 60, 3), (84, .iload 5, 2), (86, .iload 4, 2), (88, .isub, 1), (89, .aload_n 0, 1), (90, .getfield 60, 3), (93, .iload 5, 2), (95, .iaload, 1), (96, .iastore, 1), (97, .iinc 5 1, 3), (100, .goto (-29), 3), (103, .aload_n 0, 1), (104, .dup, 1), (105, .getfield 120, 3), (108, .iload 4, 2), (110, .isub, 1), (111, .putfield 120, 3), (114, .iload_n 3, 1), (115, .ireturn, 1)]
theorem dd_M_readConsole : ∀ q ∈ tb_M_readConsole, decode prog_8_method_35_code q.1 = .ok q.2 := by decide +kernel
theorem d_M_readConsole {pc len : Nat} {i : Instr} (k : Nat) (h : tb_M_readConsole[k]? = some (pc, i, len)) : decode prog_8_method_35_code pc = .ok (i, len) := dd_M_readConsole (pc, i, len) (List.mem_of_getElem? h)
abbrev M_M_read : XM := ("DescriptorDeskModel", prog_8_method_36_code, 6, (some FieldType.int), [], "read")
abbrev rm_M_read : Room := { frames := 3, cells := 0, slots := 0, locals := 71 }
def tb_M_read : List (Nat × Instr × Nat) := [(0, .aload_n 0, 1), (1, .aload_n 0, 1), (2, .iload_n 1, 1), (3, .invokevirtual 103, 3), (6, .ifCond .ne 7, 3), (9, .iconst 1, 1), (10, .goto 4, 3), (13, .iconst 0, 1), (14, .iload_n 3, 1), (15, .iconst 0, 1), (16, .bipush 8, 2), (18, .invokestatic 70, 3), (21, .ifCond .ne 7, 3), (24, .iconst 1, 1), (25, .goto 4, 3), (28, .iconst 0, 1), (29, .invokevirtual 107, 3), (32, .ifCond .eq 5, 3), (35, .iconst 0, 1), (36, .ireturn, 1), (37, .aload_n 0, 1), (38, .iload_n 1, 1), (39, .iload_n 2, 1), (40, .invokevirtual 133, 3), (43, .istore 4, 2), (45, .iload 4, 2), (47, .ifCond .lt 15, 3), (50, .aload_n 0, 1), (51, .getfield 35, 3), (54, .iload 4, 2), (56, .iaload, 1), (57, .iconst 1, 1), (58, .iand, 1), (59, .ifCond .ne 5, 3), (62, .iconst (-1), 1), (63, .ireturn, 1), (64, .aload_n 0, 1), (65, .iload 4, 2), (67, .iconst 1, 1), (68, .iload_n 3, 1), (69, .invokevirtual 123, 3), (72, .ifCond .eq 12, 3), (75, .aload_n 0, 1), (76, .iload_n 1, 1), (77, .iload_n 2, 1), (78, .iload_n 3, 1), (79, .iconst 2, 1), (80, .invokevirtual 148, 3), (83, .ireturn, 1), (84, .aload_n 0, 1), (85, .getfield 26, 3), (88, .iload 4, 2), (90, .iaload, 1), (91, .iconst 1, 1), (92, .if_icmp .ne 19, 3), (95, .aload_n 0, 1), (96, .iload_n 1, 1), (97, .aload_n 0, 1), (98, .getfield 29, 3), (101, .iload 4, 2), (103, .iaload, 1), (104, .iload_n 3, 1), (105, .invokevirtual 152, 3), (108, .goto 31, 3), (111, .aload_n 0, 1), (112, .getfield 26, 3), (115, .iload 4, 2), (117, .iaload, 1), (118, .iconst 3, 1), (119, .if_icmp .ne 14, 3), (122, .aload_n 0, 1), (123, .iload_n 1, 1), (124, .iload 4, 2), (126, .iload_n 3, 1), (127, .invokevirtual 155, 3), (130, .goto 9, 3), (133, .aload_n 0, 1), (134, .iload_n 1, 1), (135, .iload_n 3, 1), (136, .invokevirtual 158, 3), (139, .istore 5, 2), (141, .aload_n 0, 1), (142, .invokevirtual 117, 3), (145, .pop, 1), (146, .iload 5, 2), (148, .ireturn, 1)]
theorem dd_M_read : ∀ q ∈ tb_M_read, decode prog_8_method_36_code q.1 = .ok q.2 := by decide +kernel
theorem d_M_read {pc len : Nat} {i : Instr} (k : Nat) (h : tb_M_read[k]? = some (pc, i, len)) : decode prog_8_method_36_code pc = .ok (i, len) := dd_M_read (pc, i, len) (List.mem_of_getElem? h)
abbrev M_M_given : XM := ("DescriptorDeskModel", prog_8_method_37_code, 2, (some FieldType.long), [], "given")
abbrev rm_M_given : Room := { frames := 2, cells := 0, slots := 0, locals := 43 }
def tb_M_given : List (Nat × Instr × Nat) := [(0, .aload_n 0, 1), (1, .iconst 0, 1), (2, .putfield 66, 3), (5, .aload_n 0, 1), (6, .iload_n 1, 1), (7, .invokevirtual 111, 3), (10, .ifCond .eq 12, 3), (13, .aload_n 0, 1), (14, .getfield 22, 3), (17, .iload_n 1, 1), (18, .laload, 1), (19, .goto 4, 3), (22, .lconst 0, 1), (23, .lreturn, 1)]
theorem dd_M_given : ∀ q ∈ tb_M_given, decode prog_8_method_37_code q.1 = .ok q.2 := by decide +kernel
theorem d_M_given {pc len : Nat} {i : Instr} (k : Nat) (h : tb_M_given[k]? = some (pc, i, len)) : decode prog_8_method_37_code pc = .ok (i, len) := dd_M_given (pc, i, len) (List.mem_of_getElem? h)
abbrev M_M_writeFile : XM := ("DescriptorDeskModel", prog_8_method_39_code, 8, (some FieldType.int), [], "writeFile")
abbrev rm_M_writeFile : Room := { frames := 0, cells := 0, slots := 0, locals := 0 }
def tb_M_writeFile : List (Nat × Instr × Nat) := [(0, .iload 4, 2), (2, .ifCond .ne 5, 3), (5, .iconst 0, 1), (6, .ireturn, 1), (7, .aload_n 0, 1), (8, .getfield 29, 3), (11, .iload_n 1, 1), (12, .iaload, 1), (13, .istore 5, 2), (15, .aload_n 0, 1), (16, .getfield 35, 3), (19, .iload_n 1, 1), (20, .iaload, 1), (21, .iconst 4, 1), (22, .iand, 1), (23, .ifCond .le 13, 3), (26, .aload_n 0, 1), (27, .getfield 54, 3), (30, .iload 5, 2), (32, .iaload, 1), (33, .goto 9, 3), (36, .aload_n 0, 1), (37, .getfield 32, 3), (40, .iload_n 1, 1), (41, .iaload, 1), (42, .istore 6, 2), (44, .iload 6, 2), (46, .iload 4, 2), (48, .iadd, 1), (49, .bipush 64, 2), (51, .if_icmp .le 6, 3), (54, .bipush (-7), 2), (56, .ireturn, 1), (57, .aload_n 0, 1), (58, .getfield 54, 3), (61, .iload 5, 2), (63, .iaload, 1), (64, .istore 7, 2), (66, .iload 7, 2), (68, .iload 6, 2), (70, .if_icmp .ge 23, 3), (73, .aload_n 0, 1), (74, .getfield 57, 3), (77, .bipush 64, 2), (79, .iload 5, 2), (81, .imul, 1), (82, .iload 7, 2), (84, .iadd, 1), (85, .iconst 0, 1), (86, .iastore, 1), (87, .iinc 7 1, 3), (90, .goto (-24), 3), (93, .iconst 0, 1), (94, .istore 7, 2), (96, .iload 7, 2), (98, .iload 4, 2), (100, .if_icmp .ge 42, 3), (103, .aload_n 0, 1), (104, .getfield 57, 3), (107, .bipush 64, 2), (109, .iload 5, 2), (111, .imul, 1), (112, .iload 6, 2), (114, .iadd, 1), (115, .iload 7, 2), (117, .iadd, 1), (118, .lload_n 2, 1), (119, .bipush 8, 2), (121, .iload 4, 2), (123, .iconst 1, 1), (124, .isub, 1), (125, .iload 7, 2), (127, .isub, 1), (128, .imul, 1), (129, .lshr, 1), (130, .l2i, 1), (131, .sipush 255, 3), (134, .iand, 1), (135, .iastore, 1), (136, .iinc 7 1, 3), (139, .goto (-43), 3), (142, .aload_n 0, 1), (143, .getfield 32, 3), (146, .iload_n 1, 1), (147, .iload 6, 2), (149, .iload 4, 2), (151, .iadd, 1), (152, .iastore, 1), (153, .aload_n 0, 1), (154, .getfield 54, 3), (157, .iload 5, 2), (159, .iload 6, 2), (161, .iload 4, 2), (163, .iadd, 1), (164, .aload_n 0, 1), (165, .getfield 54, 3), (168, .iload 5, 2), (170, .iaload, 1), (171, .if_icmp .le 11, 3), (174, .iload 6, 2), (176, .iload 4, 2), (178, .iadd, 1), (179, .goto 10, 3), (182, .aload_n 0, 1), (183, .getfield 54, 3), (186, .iload 5, 2), (188, .iaload, 1), (189, .iastore, 1), (190, .iload 4, 2), (192, .ireturn, 1)]
theorem dd_M_writeFile : ∀ q ∈ tb_M_writeFile, decode prog_8_method_39_code q.1 = .ok q.2 := by decide +kernel
theorem d_M_writeFile {pc len : Nat} {i : Instr} (k : Nat) (h : tb_M_writeFile[k]? = some (pc, i, len)) : decode prog_8_method_39_code pc = .ok (i, len) := dd_M_writeFile (pc, i, len) (List.mem_of_getElem? h)
abbrev M_M_show : XM := ("DescriptorDeskModel", prog_8_method_38_code, 3, (none : Option FieldType), [], "show")
abbrev rm_M_show : Room := { frames := 0, cells := 0, slots := 0, locals := 0 }
def tb_M_show : List (Nat × Instr × Nat) := [(0, .aload_n 0, 1), (1, .getfield 161, 3), (4, .ldc2_w 165, 3), (7, .lcmp, 1), (8, .ifCond .lt 31, 3), (11, .iconst 1, 1), (12, .istore_n 2, 1), (13, .iload_n 2, 1), (14, .bipush 60, 2), (16, .if_icmp .ge 23, 3), (19, .aload_n 0, 1), (20, .getfield 63, 3), (23, .iload_n 2, 1), (24, .iconst 1, 1), (25, .isub, 1), (26, .aload_n 0, 1), (27, .getfield 63, 3), (30, .iload_n 2, 1), (31, .iaload, 1), (32, .iastore, 1), (33, .iinc 2 1, 3), (36, .goto (-23), 3), (39, .aload_n 0, 1), (40, .getfield 63, 3), (43, .aload_n 0, 1), (44, .getfield 161, 3), (47, .ldc2_w 165, 3), (50, .lcmp, 1), (51, .ifCond .ge 11, 3), (54, .aload_n 0, 1), (55, .getfield 161, 3), (58, .l2i, 1), (59, .goto 5, 3), (62, .bipush 59, 2), (64, .iload_n 1, 1), (65, .iastore, 1), (66, .aload_n 0, 1), (67, .dup, 1), (68, .getfield 161, 3), (71, .lconst 1, 1), (72, .ladd, 1), (73, .putfield 161, 3), (76, .return_, 1)]
theorem dd_M_show : ∀ q ∈ tb_M_show, decode prog_8_method_38_code q.1 = .ok q.2 := by decide +kernel
theorem d_M_show {pc len : Nat} {i : Instr} (k : Nat) (h : tb_M_show[k]? = some (pc, i, len)) : decode prog_8_method_38_code pc = .ok (i, len) := dd_M_show (pc, i, len) (List.mem_of_getElem? h)
abbrev M_M_write : XM := ("DescriptorDeskModel", prog_8_method_40_code, 10, (some FieldType.int), [], "write")
abbrev rm_M_write : Room := { frames := 3, cells := 0, slots := 0, locals := 71 }
def tb_M_write : List (Nat × Instr × Nat) := [(0, .aload_n 0, 1), (1, .aload_n 0, 1), (2, .iload_n 1, 1), (3, .invokevirtual 103, 3), (6, .ifCond .ne 7, 3), (9, .iconst 1, 1), (10, .goto 4, 3), (13, .iconst 0, 1), (14, .iload 5, 2), (16, .iconst 0, 1), (17, .bipush 8, 2), (19, .invokestatic 70, 3), (22, .ifCond .ne 7, 3), (25, .iconst 1, 1), (26, .goto 4, 3), (29, .iconst 0, 1), (30, .invokevirtual 107, 3), (33, .ifCond .eq 5, 3), (36, .iconst 0, 1), (37, .ireturn, 1), (38, .aload_n 0, 1), (39, .iload_n 1, 1), (40, .iload_n 2, 1), (41, .invokevirtual 133, 3), (44, .istore 6, 2), (46, .iload 6, 2), (48, .ifCond .lt 15, 3), (51, .aload_n 0, 1), (52, .getfield 35, 3), (55, .iload 6, 2), (57, .iaload, 1), (58, .iconst 2, 1), (59, .iand, 1), (60, .ifCond .ne 5, 3), (63, .iconst (-1), 1), (64, .ireturn, 1), (65, .aload_n 0, 1), (66, .getfield 29, 3), (69, .iload 6, 2), (71, .iaload, 1), (72, .istore 7, 2), (74, .aload_n 0, 1), (75, .getfield 26, 3), (78, .iload 6, 2), (80, .iaload, 1), (81, .iconst 2, 1), (82, .if_icmp .ne 16, 3), (85, .aload_n 0, 1), (86, .iconst 1, 1), (87, .iload 7, 2), (89, .invokevirtual 78, 3), (92, .ifCond .ne 6, 3), (95, .bipush (-5), 2), (97, .ireturn, 1), (98, .aload_n 0, 1), (99, .getfield 26, 3), (102, .iload 6, 2), (104, .iaload, 1), (105, .iconst 3, 1), (106, .if_icmp .ne 13, 3), (109, .aload_n 0, 1), (110, .iload 6, 2), (112, .lload_n 3, 1), (113, .iload 5, 2), (115, .invokevirtual 167, 3), (118, .ireturn, 1), (119, .aload_n 0, 1), (120, .iload 6, 2), (122, .iconst 0, 1), (123, .iload 5, 2), (125, .invokevirtual 123, 3), (128, .ifCond .eq 13, 3), (131, .aload_n 0, 1), (132, .iload_n 1, 1), (133, .iload_n 2, 1), (134, .iload 5, 2), (136, .iconst 3, 1), (137, .invokevirtual 148, 3), (140, .ireturn, 1), (141, .iload 5, 2), (143, .iconst 1, 1), (144, .isub, 1), (145, .istore 8, 2), (147, .iload 8, 2), (149, .ifCond .lt 74, 3), (152, .lload_n 3, 1), (153, .bipush 8, 2), (155, .iload 8, 2), (157, .imul, 1), (158, .lshr, 1), (159, .l2i, 1), (160, .sipush 255, 3), (163, .iand, 1), (164, .istore 9, 2), (166, .aload_n 0, 1), (167, .getfield 26, 3), (170, .iload 6, 2), (172, .iaload, 1), (173, .iconst 4, 1), (174, .if_icmp .ne 12, 3), (177, .aload_n 0, 1), (178, .iload 9, 2), (180, .invokevirtual 171, 3), (183, .goto 34, 3), (186, .aload_n 0, 1), (187, .getfield 41, 3), (190, .bipush 32, 2), (192, .iload 7, 2), (194, .imul, 1), (195, .aload_n 0, 1), (196, .getfield 38, 3), (199, .iload 7, 2), (201, .iaload, 1), (202, .iadd, 1), (203, .iload 9, 2), (205, .iastore, 1), (206, .aload_n 0, 1), (207, .getfield 38, 3), (210, .iload 7, 2), (212, .dup2, 1), (213, .iaload, 1), (214, .iconst 1, 1), (215, .iadd, 1), (216, .iastore, 1), (217, .iinc 8 (-1), 3), (220, .goto (-73), 3), (223, .aload_n 0, 1), (224, .invokevirtual 117, 3), (227, .pop, 1), (228, .iload 5, 2), (230, .ireturn, 1)]
theorem dd_M_write : ∀ q ∈ tb_M_write, decode prog_8_method_40_code q.1 = .ok q.2 := by decide +kernel
theorem d_M_write {pc len : Nat} {i : Instr} (k : Nat) (h : tb_M_write[k]? = some (pc, i, len)) : decode prog_8_method_40_code pc = .ok (i, len) := dd_M_write (pc, i, len) (List.mem_of_getElem? h)
abbrev M_M_close : XM := ("DescriptorDeskModel", prog_8_method_41_code, 3, (some FieldType.int), [], "close")
abbrev rm_M_close : Room := { frames := 3, cells := 0, slots := 0, locals := 71 }
def tb_M_close : List (Nat × Instr × Nat) := [(0, .aload_n 0, 1), (1, .aload_n 0, 1), (2, .iload_n 1, 1), (3, .invokevirtual 103, 3), (6, .ifCond .ne 7, 3), (9, .iconst 1, 1), (10, .goto 4, 3), (13, .iconst 0, 1), (14, .iconst 0, 1), (15, .invokevirtual 107, 3), (18, .ifCond .eq 5, 3), (21, .iconst 0, 1), (22, .ireturn, 1), (23, .aload_n 0, 1), (24, .iload_n 1, 1), (25, .iload_n 2, 1), (26, .invokevirtual 133, 3), (29, .ifCond .ge 5, 3), (32, .iconst (-1), 1), (33, .ireturn, 1), (34, .aload_n 0, 1), (35, .getfield 19, 3), (38, .bipush 8, 2), (40, .iload_n 1, 1), (41, .imul, 1), (42, .iload_n 2, 1), (43, .iadd, 1), (44, .iconst (-1), 1), (45, .iastore, 1), (46, .aload_n 0, 1), (47, .invokevirtual 114, 3), (50, .aload_n 0, 1), (51, .invokevirtual 117, 3), (54, .pop, 1), (55, .iconst 0, 1), (56, .ireturn, 1)]
theorem dd_M_close : ∀ q ∈ tb_M_close, decode prog_8_method_41_code q.1 = .ok q.2 := by decide +kernel
theorem d_M_close {pc len : Nat} {i : Instr} (k : Nat) (h : tb_M_close[k]? = some (pc, i, len)) : decode prog_8_method_41_code pc = .ok (i, len) := dd_M_close (pc, i, len) (List.mem_of_getElem? h)
abbrev M_M_dup : XM := ("DescriptorDeskModel", prog_8_method_42_code, 5, (some FieldType.int), [], "dup")
abbrev rm_M_dup : Room := { frames := 3, cells := 0, slots := 0, locals := 71 }
def tb_M_dup : List (Nat × Instr × Nat) := [(0, .aload_n 0, 1), (1, .aload_n 0, 1), (2, .iload_n 1, 1), (3, .invokevirtual 103, 3), (6, .ifCond .ne 7, 3), (9, .iconst 1, 1), (10, .goto 4, 3), (13, .iconst 0, 1), (14, .iload_n 3, 1), (15, .iconst (-1), 1), (16, .bipush 7, 2), (18, .invokestatic 70, 3), (21, .ifCond .ne 7, 3), (24, .iconst 1, 1), (25, .goto 4, 3), (28, .iconst 0, 1), (29, .invokevirtual 107, 3), (32, .ifCond .eq 5, 3), (35, .iconst 0, 1), (36, .ireturn, 1), (37, .aload_n 0, 1), (38, .iload_n 1, 1), (39, .iload_n 2, 1), (40, .invokevirtual 133, 3), (43, .istore 4, 2), (45, .iload 4, 2), (47, .ifCond .ge 5, 3), (50, .iconst (-1), 1), (51, .ireturn, 1), (52, .iload_n 3, 1), (53, .ifCond .ge 24, 3), (56, .aload_n 0, 1), (57, .iload_n 1, 1), (58, .invokevirtual 86, 3), (61, .ifCond .ge 8, 3), (64, .bipush (-4), 2), (66, .goto 10, 3), (69, .aload_n 0, 1), (70, .iload_n 1, 1), (71, .iload 4, 2), (73, .invokevirtual 100, 3), (76, .ireturn, 1), (77, .aload_n 0, 1), (78, .getfield 19, 3), (81, .bipush 8, 2), (83, .iload_n 1, 1), (84, .imul, 1), (85, .iload_n 3, 1), (86, .iadd, 1), (87, .iload 4, 2), (89, .iastore, 1), (90, .aload_n 0, 1), (91, .invokevirtual 114, 3), (94, .aload_n 0, 1), (95, .invokevirtual 117, 3), (98, .pop, 1), (99, .iload_n 3, 1), (100, .ireturn, 1)]
theorem dd_M_dup : ∀ q ∈ tb_M_dup, decode prog_8_method_42_code q.1 = .ok q.2 := by decide +kernel
theorem d_M_dup {pc len : Nat} {i : Instr} (k : Nat) (h : tb_M_dup[k]? = some (pc, i, len)) : decode prog_8_method_42_code pc = .ok (i, len) := dd_M_dup (pc, i, len) (List.mem_of_getElem? h)
abbrev M_M_type : XM := ("DescriptorDeskModel", prog_8_method_43_code, 2, (some FieldType.int), [], "type")
abbrev rm_M_type : Room := { frames := 3, cells := 0, slots := 0, locals := 71 }
def tb_M_type : List (Nat × Instr × Nat) := [(0, .aload_n 0, 1), (1, .iload_n 1, 1), (2, .iconst 0, 1), (3, .sipush 255, 3), (6, .invokestatic 70, 3), (9, .ifCond .ne 7, 3), (12, .iconst 1, 1), (13, .goto 4, 3), (16, .iconst 0, 1), (17, .iconst 0, 1), (18, .invokevirtual 107, 3), (21, .ifCond .eq 5, 3), (24, .iconst 0, 1), (25, .ireturn, 1), (26, .aload_n 0, 1), (27, .getfield 120, 3), (30, .bipush 40, 2), (32, .if_icmp .ne 6, 3), (35, .bipush (-7), 2), (37, .ireturn, 1), (38, .aload_n 0, 1), (39, .getfield 60, 3), (42, .aload_n 0, 1), (43, .getfield 120, 3), (46, .iload_n 1, 1), (47, .iastore, 1), (48, .aload_n 0, 1), (49, .dup, 1), (50, .getfield 120, 3), (53, .iconst 1, 1), (54, .iadd, 1), (55, .putfield 120, 3), (58, .aload_n 0, 1), (59, .invokevirtual 117, 3), (62, .ireturn, 1)]
theorem dd_M_type : ∀ q ∈ tb_M_type, decode prog_8_method_43_code q.1 = .ok q.2 := by decide +kernel
theorem d_M_type {pc len : Nat} {i : Instr} (k : Nat) (h : tb_M_type[k]? = some (pc, i, len)) : decode prog_8_method_43_code pc = .ok (i, len) := dd_M_type (pc, i, len) (List.mem_of_getElem? h)
abbrev M_M_shown : XM := ("DescriptorDeskModel", prog_8_method_44_code, 4, (some FieldType.int), [], "shown")
abbrev rm_M_shown : Room := { frames := 0, cells := 0, slots := 0, locals := 0 }
def tb_M_shown : List (Nat × Instr × Nat) := [(0, .aload_n 0, 1), (1, .iconst 0, 1), (2, .putfield 66, 3), (5, .aload_n 0, 1), (6, .getfield 161, 3), (9, .ldc2_w 165, 3), (12, .lcmp, 1), (13, .ifCond .ge 10, 3), (16, .aload_n 0, 1), (17, .getfield 161, 3), (20, .goto 6, 3), (23, .ldc2_w 165, 3), (26, .lstore_n 2, 1), (27, .iload_n 1, 1), (28, .ifCond .lt 10, 3), (31, .iload_n 1, 1), (32, .i2l, 1), (33, .lload_n 2, 1), (34, .lcmp, 1), (35, .ifCond .lt 7, 3), (38, .iconst (-1), 1), (39, .goto 9, 3), (42, .aload_n 0, 1), (43, .getfield 63, 3), (46, .iload_n 1, 1), (47, .iaload, 1), (48, .ireturn, 1)]
theorem dd_M_shown : ∀ q ∈ tb_M_shown, decode prog_8_method_44_code q.1 = .ok q.2 := by decide +kernel
theorem d_M_shown {pc len : Nat} {i : Instr} (k : Nat) (h : tb_M_shown[k]? = some (pc, i, len)) : decode prog_8_method_44_code pc = .ok (i, len) := dd_M_shown (pc, i, len) (List.mem_of_getElem? h)
abbrev M_M_state : XM := ("DescriptorDeskModel", prog_8_method_45_code, 4, (some FieldType.int), [], "state")
abbrev rm_M_state : Room := { frames := 2, cells := 0, slots := 0, locals := 43 }
def tb_M_state : List (Nat × Instr × Nat) := [(0, .aload_n 0, 1), (1, .iconst 0, 1), (2, .putfield 66, 3), (5, .aload_n 0, 1), (6, .iload_n 1, 1), (7, .invokevirtual 111, 3), (10, .istore_n 3, 1), (11, .iload_n 2, 1), (12, .ifCond .ne 20, 3), (15, .iload_n 3, 1), (16, .ifCond .eq 12, 3), (19, .aload_n 0, 1), (20, .getfield 7, 3), (23, .iload_n 1, 1), (24, .iaload, 1), (25, .goto 52, 3), (28, .iconst 0, 1), (29, .goto 48, 3), (32, .iload_n 2, 1), (33, .iconst 1, 1), (34, .if_icmp .ne 20, 3), (37, .iload_n 3, 1), (38, .ifCond .eq 12, 3), (41, .aload_n 0, 1), (42, .getfield 13, 3), (45, .iload_n 1, 1), (46, .iaload, 1), (47, .goto 30, 3), (50, .iconst (-1), 1), (51, .goto 26, 3), (54, .iload_n 2, 1), (55, .iconst 2, 1), (56, .if_icmp .ne 20, 3), (59, .iload_n 3, 1), (60, .ifCond .eq 12, 3), (63, .aload_n 0, 1), (64, .getfield 16, 3), (67, .iload_n 1, 1), (68, .iaload, 1), (69, .goto 8, 3), (72, .iconst 0, 1), (73, .goto 4, 3), (76, .iconst (-1), 1), (77, .ireturn, 1)]
theorem dd_M_state : ∀ q ∈ tb_M_state, decode prog_8_method_45_code q.1 = .ok q.2 := by decide +kernel
theorem d_M_state {pc len : Nat} {i : Instr} (k : Nat) (h : tb_M_state[k]? = some (pc, i, len)) : decode prog_8_method_45_code pc = .ok (i, len) := dd_M_state (pc, i, len) (List.mem_of_getElem? h)
abbrev M_M_about : XM := ("DescriptorDeskModel", prog_8_method_46_code, 6, (some FieldType.int), [], "about")
abbrev rm_M_about : Room := { frames := 1, cells := 0, slots := 0, locals := 23 }
def tb_M_about : List (Nat × Instr × Nat) := [(0, .aload_n 0, 1), (1, .iconst 0, 1), (2, .putfield 66, 3), (5, .iload_n 1, 1), (6, .iconst 0, 1), (7, .bipush 7, 2), (9, .invokestatic 70, 3), (12, .ifCond .eq 22, 3), (15, .iload_n 2, 1), (16, .iconst 0, 1), (17, .bipush 7, 2), (19, .invokestatic 70, 3), (22, .ifCond .eq 12, 3), (25, .iload_n 3, 1), (26, .iconst 0, 1), (27, .iconst 4, 1), (28, .invokestatic 70, 3), (31, .ifCond .ne 5, 3), (34, .iconst (-1), 1), (35, .ireturn, 1), (36, .aload_n 0, 1), (37, .getfield 19, 3), (40, .bipush 8, 2), (42, .iload_n 1, 1), (43, .imul, 1), (44, .iload_n 2, 1), (45, .iadd, 1), (46, .iaload, 1), (47, .istore 4, 2), (49, .iload 4, 2), (51, .ifCond .ge 13, 3), (54, .iload_n 3, 1), (55, .ifCond .ne 7, 3), (58, .iconst 0, 1), (59, .goto 4, 3), (62, .iconst (-1), 1), (63, .ireturn, 1), (64, .aload_n 0, 1), (65, .getfield 26, 3), (68, .iload 4, 2), (70, .iaload, 1), (71, .istore 5, 2), (73, .iload_n 3, 1), (74, .tableswitch 105 0 3 #[30, 33, 40, 87], 30), (104, .iload 5, 2), (106, .ireturn, 1), (107, .aload_n 0, 1), (108, .iload 4, 2), (110, .invokevirtual 74, 3), (113, .ireturn, 1), (114, .iload 5, 2), (116, .iconst 3, 1), (117, .if_icmp .ne 18, 3), (120, .aload_n 0, 1), (121, .getfield 54, 3), (124, .aload_n 0, 1), (125, .getfield 29, 3), (128, .iload 4, 2), (130, .iaload, 1), (131, .iaload, 1), (132, .goto 28, 3), (135, .iload 5, 2), (137, .iconst 4, 1), (138, .if_icmp .ne 10, 3), (141, .aload_n 0, 1), (142, .getfield 120, 3), (145, .goto 15, 3), (148, .aload_n 0, 1), (149, .getfield 38, 3), (152, .aload_n 0, 1), (153, .getfield 29, 3), (156, .iload 4, 2), (158, .iaload, 1), (159, .iaload, 1), (160, .ireturn, 1), (161, .iload 5, 2), (163, .iconst 3, 1), (164, .if_icmp .ne 13, 3), (167, .aload_n 0, 1), (168, .getfield 32, 3), (171, .iload 4, 2), (173, .iaload, 1), (174, .goto 4, 3), (177, .iconst 0, 1), (178, .ireturn, 1), (179, .aload_n 0, 1), (180, .getfield 35, 3), (183, .iload 4, 2), (185, .iaload, 1), (186, .ireturn, 1)]
theorem dd_M_about : ∀ q ∈ tb_M_about, decode prog_8_method_46_code q.1 = .ok q.2 := by decide +kernel
theorem d_M_about {pc len : Nat} {i : Instr} (k : Nat) (h : tb_M_about[k]? = some (pc, i, len)) : decode prog_8_method_46_code pc = .ok (i, len) := dd_M_about (pc, i, len) (List.mem_of_getElem? h)
abbrev M_M_isOnly : XM := ("DescriptorDeskModel", prog_8_method_47_code, 8, (some FieldType.boolean), [], "isOnly")
abbrev rm_M_isOnly : Room := { frames := 0, cells := 0, slots := 0, locals := 0 }
def tb_M_isOnly : List (Nat × Instr × Nat) := [(0, .iconst 1, 1), (1, .istore 4, 2), (3, .iconst 0, 1), (4, .istore 5, 2), (6, .iload 5, 2), (8, .bipush 64, 2), (10, .if_icmp .ge 100, 3), (13, .aload_n 0, 1), (14, .getfield 19, 3), (17, .iload 5, 2), (19, .iaload, 1), (20, .istore 6, 2), (22, .iload 6, 2), (24, .ifCond .lt 47, 3), (27, .aload_n 0, 1), (28, .getfield 26, 3), (31, .iload 6, 2), (33, .ifCond .ge 7, 3), (36, .iconst 0, 1), (37, .goto 5, 3), (40, .iload 6, 2), (42, .iaload, 1), (43, .iload_n 1, 1), (44, .if_icmp .ne 27, 3), (47, .aload_n 0, 1), (48, .getfield 29, 3), (51, .iload 6, 2), (53, .ifCond .ge 7, 3), (56, .iconst 0, 1), (57, .goto 5, 3), (60, .iload 6, 2), (62, .iaload, 1), (63, .iload_n 2, 1), (64, .if_icmp .ne 7, 3), (67, .iconst 1, 1), (68, .goto 4, 3), (71, .iconst 0, 1), (72, .istore 7, 2), (74, .iload 4, 2), (76, .ifCond .eq 25, 3), (79, .iload 7, 2), (81, .ifCond .eq 16, 3), (84, .iload_n 3, 1), (85, .iload 5, 2), (87, .bipush 8, 2), (89, .idiv, 1), (90, .ishr, 1), (91, .iconst 1, 1), (92, .iand, 1), (93, .iconst 1, 1), (94, .if_icmp .ne 7, 3), (97, .iconst 1, 1), (98, .goto 4, 3), (101, .iconst 0, 1), (102, .istore 4, 2), (104, .iinc 5 1, 3), (107, .goto (-101), 3), (110, .iload 4, 2), (112, .ireturn, 1)]
theorem dd_M_isOnly : ∀ q ∈ tb_M_isOnly, decode prog_8_method_47_code q.1 = .ok q.2 := by decide +kernel
theorem d_M_isOnly {pc len : Nat} {i : Instr} (k : Nat) (h : tb_M_isOnly[k]? = some (pc, i, len)) : decode prog_8_method_47_code pc = .ok (i, len) := dd_M_isOnly (pc, i, len) (List.mem_of_getElem? h)
abbrev M_M_vain : XM := ("DescriptorDeskModel", prog_8_method_48_code, 5, (some FieldType.int), [], "vain")
abbrev rm_M_vain : Room := { frames := 1, cells := 0, slots := 0, locals := 27 }
def tb_M_vain : List (Nat × Instr × Nat) := [(0, .iconst 0, 1), (1, .istore_n 1, 1), (2, .iconst 0, 1), (3, .istore_n 2, 1), (4, .iload_n 2, 1), (5, .bipush 8, 2), (7, .if_icmp .ge 60, 3), (10, .aload_n 0, 1), (11, .getfield 7, 3), (14, .iload_n 2, 1), (15, .iaload, 1), (16, .iconst 1, 1), (17, .if_icmp .le 22, 3), (20, .aload_n 0, 1), (21, .getfield 19, 3), (24, .bipush 8, 2), (26, .iload_n 2, 1), (27, .imul, 1), (28, .aload_n 0, 1), (29, .getfield 13, 3), (32, .iload_n 2, 1), (33, .iaload, 1), (34, .iadd, 1), (35, .iaload, 1), (36, .goto 4, 3), (39, .iconst (-1), 1), (40, .istore_n 3, 1), (41, .iload_n 3, 1), (42, .ifCond .lt 19, 3), (45, .aload_n 0, 1), (46, .getfield 26, 3), (49, .iload_n 3, 1), (50, .iaload, 1), (51, .iconst 3, 1), (52, .if_icmp .ge 9, 3), (55, .iload_n 1, 1), (56, .iconst 1, 1), (57, .iload_n 2, 1), (58, .ishl, 1), (59, .ior, 1), (60, .istore_n 1, 1), (61, .iinc 2 1, 3), (64, .goto (-60), 3), (67, .iconst 0, 1), (68, .istore_n 2, 1), (69, .iload_n 2, 1), (70, .bipush 8, 2), (72, .if_icmp .ge 91, 3), (75, .iconst 0, 1), (76, .istore_n 3, 1), (77, .iload_n 3, 1), (78, .bipush 8, 2), (80, .if_icmp .ge 77, 3), (83, .iload_n 1, 1), (84, .iload_n 3, 1), (85, .ishr, 1), (86, .iconst 1, 1), (87, .iand, 1), (88, .ifCond .ne 6, 3), (91, .goto 60, 3), (94, .aload_n 0, 1), (95, .getfield 19, 3), (98, .bipush 8, 2), (100, .iload_n 3, 1), (101, .imul, 1), (102, .aload_n 0, 1), (103, .getfield 13, 3), (106, .iload_n 3, 1), (107, .iaload, 1), (108, .iadd, 1), (109, .iaload, 1), (110, .istore 4, 2), (112, .aload_n 0, 1), (113, .aload_n 0, 1), (114, .getfield 26, 3), (117, .iload 4, 2), (119, .iaload, 1), (120, .iconst 1, 1), (121, .if_icmp .ne 7, 3), (124, .iconst 2, 1), (125, .goto 4, 3), (128, .iconst 1, 1), (129, .aload_n 0, 1), (130, .getfield 29, 3), (133, .iload 4, 2), (135, .iaload, 1), (136, .iload_n 1, 1), (137, .invokevirtual 174, 3), (140, .ifCond .ne 11, 3), (143, .iload_n 1, 1), (144, .iconst 1, 1), (145, .iload_n 3, 1), (146, .ishl, 1), (147, .iconst (-1), 1), (148, .ixor, 1), (149, .iand, 1), (150, .istore_n 1, 1), (151, .iinc 3 1, 3), (154, .goto (-77), 3), (157, .iinc 2 1, 3), (160, .goto (-91), 3), (163, .iconst 0, 1), (164, .istore_n 2, 1), (165, .iconst 0, 1), (166, .istore_n 3, 1), (167, .iload_n 3, 1), (168, .bipush 8, 2), (170, .if_icmp .ge 17, 3), (173, .iload_n 2, 1), (174, .iload_n 1, 1), (175, .iload_n 3, 1), (176, .ishr, 1), (177, .iconst 1, 1), (178, .iand, 1), (179, .iadd, 1), (180, .istore_n 2, 1), (181, .iinc 3 1, 3), (184, .goto (-17), 3), (187, .iload_n 2, 1), (188, .ireturn, 1)]
theorem dd_M_vain : ∀ q ∈ tb_M_vain, decode prog_8_method_48_code q.1 = .ok q.2 := by decide +kernel
theorem d_M_vain {pc len : Nat} {i : Instr} (k : Nat) (h : tb_M_vain[k]? = some (pc, i, len)) : decode prog_8_method_48_code pc = .ok (i, len) := dd_M_vain (pc, i, len) (List.mem_of_getElem? h)
abbrev M_M_count : XM := ("DescriptorDeskModel", prog_8_method_49_code, 4, (some FieldType.int), [], "count")
abbrev rm_M_count : Room := { frames := 2, cells := 0, slots := 0, locals := 51 }
def tb_M_count : List (Nat × Instr × Nat) := [(0, .aload_n 0, 1), (1, .iconst 0, 1), (2, .putfield 66, 3), (5, .iconst 0, 1), (6, .istore_n 2, 1), (7, .iload_n 1, 1), (8, .tableswitch 281 0 8 #[52, 85, 119, 124, 157, 190, 232, 270, 276], 52), (60, .iconst 0, 1), (61, .istore_n 3, 1), (62, .iload_n 3, 1), (63, .bipush 8, 2), (65, .if_icmp .ge 26, 3), (68, .aload_n 0, 1), (69, .getfield 7, 3), (72, .iload_n 3, 1), (73, .iaload, 1), (74, .ifCond .le 9, 3), (77, .iload_n 2, 1), (78, .iconst 1, 1), (79, .iadd, 1), (80, .goto 4, 3), (83, .iload_n 2, 1), (84, .istore_n 2, 1), (85, .iinc 3 1, 3), (88, .goto (-26), 3), (91, .iload_n 2, 1), (92, .ireturn, 1), (93, .iconst 0, 1), (94, .istore_n 3, 1), (95, .iload_n 3, 1), (96, .bipush 8, 2), (98, .if_icmp .ge 27, 3), (101, .aload_n 0, 1), (102, .getfield 7, 3), (105, .iload_n 3, 1), (106, .iaload, 1), (107, .iconst 1, 1), (108, .if_icmp .le 9, 3), (111, .iload_n 2, 1), (112, .iconst 1, 1), (113, .iadd, 1), (114, .goto 4, 3), (117, .iload_n 2, 1), (118, .istore_n 2, 1), (119, .iinc 3 1, 3), (122, .goto (-27), 3), (125, .iload_n 2, 1), (126, .ireturn, 1), (127, .aload_n 0, 1), (128, .invokevirtual 141, 3), (131, .ireturn, 1), (132, .iconst 0, 1), (133, .istore_n 3, 1), (134, .iload_n 3, 1), (135, .bipush 6, 2), (137, .if_icmp .ge 26, 3), (140, .aload_n 0, 1), (141, .getfield 44, 3), (144, .iload_n 3, 1), (145, .baload, 1), (146, .ifCond .eq 9, 3), (149, .iload_n 2, 1), (150, .iconst 1, 1), (151, .iadd, 1), (152, .goto 4, 3), (155, .iload_n 2, 1), (156, .istore_n 2, 1), (157, .iinc 3 1, 3), (160, .goto (-26), 3), (163, .iload_n 2, 1), (164, .ireturn, 1), (165, .iconst 0, 1), (166, .istore_n 3, 1), (167, .iload_n 3, 1), (168, .bipush 6, 2), (170, .if_icmp .ge 26, 3), (173, .aload_n 0, 1), (174, .getfield 48, 3), (177, .iload_n 3, 1), (178, .baload, 1), (179, .ifCond .eq 9, 3), (182, .iload_n 2, 1), (183, .iconst 1, 1), (184, .iadd, 1), (185, .goto 4, 3), (188, .iload_n 2, 1), (189, .istore_n 2, 1), (190, .iinc 3 1, 3), (193, .goto (-26), 3), (196, .iload_n 2, 1), (197, .ireturn, 1), (198, .iconst 0, 1), (199, .istore_n 3, 1), (200, .iload_n 3, 1), (201, .bipush 6, 2), (203, .if_icmp .ge 35, 3), (206, .aload_n 0, 1), (207, .getfield 48, 3), (210, .iload_n 3, 1), (211, .baload, 1), (212, .ifCond .eq 18, 3), (215, .aload_n 0, 1), (216, .getfield 51, 3), (219, .iload_n 3, 1), (220, .iaload, 1), (221, .ifCond .le 9, 3), (224, .iload_n 2, 1), (225, .iconst 1, 1), (226, .iadd, 1), (227, .goto 4, 3), (230, .iload_n 2, 1), (231, .istore_n 2, 1), (232, .iinc 3 1, 3), (235, .goto (-35), 3), (238, .iload_n 2, 1), (239, .ireturn, 1), (240, .iconst 0, 1), (241, .istore_n 3, 1), (242, .iload_n 3, 1), (243, .bipush 6, 2), (245, .if_icmp .ge 31, 3), (248, .aload_n 0, 1), (249, .getfield 44, 3), (252, .iload_n 3, 1), (253, .baload, 1), (254, .ifCond .eq 14, 3), (257, .iload_n 2, 1), (258, .aload_n 0, 1), (259, .getfield 38, 3), (262, .iload_n 3, 1), (263, .iaload, 1), (264, .iadd, 1), (265, .goto 4, 3), (268, .iload_n 2, 1), (269, .istore_n 2, 1), (270, .iinc 3 1, 3), (273, .goto (-31), 3), (276, .iload_n 2, 1), (277, .ireturn, 1), (278, .aload_n 0, 1), (279, .getfield 161, 3), (282, .l2i, 1), (283, .ireturn, 1), (284, .aload_n 0, 1), (285, .invokevirtual 177, 3), (288, .ireturn, 1), (289, .iconst (-1), 1), (290, .ireturn, 1)]
theorem dd_M_count : ∀ q ∈ tb_M_count, decode prog_8_method_49_code q.1 = .ok q.2 := by decide +kernel
theorem d_M_count {pc len : Nat} {i : Instr} (k : Nat) (h : tb_M_count[k]? = some (pc, i, len)) : decode prog_8_method_49_code pc = .ok (i, len) := dd_M_count (pc, i, len) (List.mem_of_getElem? h)
end
section
/-! the words that the methods use, by program -/
theorem w_1 : (Jvm.Cond.initialized "DescriptorDesk") ∈ x_tb := List.mem_filter.mpr ⟨List.mem_append_right _ (List.mem_of_getElem? (i := 1) (by decide +kernel)), by decide +kernel⟩
theorem w_2 : (Jvm.Cond.initialized "DescriptorDesk$ByteRow") ∈ x_tb := List.mem_filter.mpr ⟨List.mem_append_right _ (List.mem_of_getElem? (i := 2) (by decide +kernel)), by decide +kernel⟩
theorem w_3 : (Jvm.Cond.initialized "DescriptorDesk$Proc") ∈ x_tb := List.mem_filter.mpr ⟨List.mem_append_right _ (List.mem_of_getElem? (i := 3) (by decide +kernel)), by decide +kernel⟩
theorem w_4 : (Jvm.Cond.initialized "DescriptorDesk$Opening") ∈ x_tb := List.mem_filter.mpr ⟨List.mem_append_right _ (List.mem_of_getElem? (i := 4) (by decide +kernel)), by decide +kernel⟩
theorem w_5 : (Jvm.Cond.initialized "DescriptorDesk$Pipe") ∈ x_tb := List.mem_filter.mpr ⟨List.mem_append_right _ (List.mem_of_getElem? (i := 5) (by decide +kernel)), by decide +kernel⟩
theorem w_6 : (Jvm.Cond.initialized "DescriptorDesk$StoredFile") ∈ x_tb := List.mem_filter.mpr ⟨List.mem_append_right _ (List.mem_of_getElem? (i := 6) (by decide +kernel)), by decide +kernel⟩
theorem w_7 : (Jvm.Cond.initialized "DescriptorDeskModel") ∈ x_tb := List.mem_filter.mpr ⟨List.mem_append_right _ (List.mem_of_getElem? (i := 7) (by decide +kernel)), by decide +kernel⟩
theorem w_11 : (Jvm.Cond.initialized "java/lang/IllegalStateException") ∈ x_tb := List.mem_filter.mpr ⟨List.mem_append_right _ (List.mem_of_getElem? (i := 11) (by decide +kernel)), by decide +kernel⟩
theorem w_12 : (Jvm.Cond.initialized "java/lang/IllegalArgumentException") ∈ x_tb := List.mem_filter.mpr ⟨List.mem_append_right _ (List.mem_of_getElem? (i := 12) (by decide +kernel)), by decide +kernel⟩
theorem w_13 : (Jvm.Cond.initialized "java/lang/Math") ∈ x_tb := List.mem_filter.mpr ⟨List.mem_append_right _ (List.mem_of_getElem? (i := 13) (by decide +kernel)), by decide +kernel⟩
theorem w_14 : (Jvm.Cond.initialized "java/lang/Integer") ∈ x_tb := List.mem_filter.mpr ⟨List.mem_append_right _ (List.mem_of_getElem? (i := 14) (by decide +kernel)), by decide +kernel⟩
theorem w_20 : (Jvm.Cond.methodLink "DescriptorDesk" (3 : Nat) ({ cls := "java/lang/Object", name := "<init>", desc := "()V" } : Jvm.MethodName)) ∈ x_tb := List.mem_filter.mpr ⟨List.mem_append_right _ (List.mem_of_getElem? (i := 20) (by decide +kernel)), by decide +kernel⟩
theorem w_21 : (Jvm.Cond.instanceMethod ({ cls := "java/lang/Object", name := "<init>", desc := "()V" } : Jvm.MethodName)) ∈ x_tb := List.mem_filter.mpr ⟨List.mem_append_right _ (List.mem_of_getElem? (i := 21) (by decide +kernel)), by decide +kernel⟩
theorem w_22 : (Jvm.Cond.code ({ cls := "java/lang/Object", name := "<init>", desc := "()V" } : Jvm.MethodName) object_method_1_code (1 : Nat) (Option.none : Option Jvm.ClassFile.FieldType)) ∈ x_tb := List.mem_filter.mpr ⟨List.mem_append_right _ (List.mem_of_getElem? (i := 22) (by decide +kernel)), by decide +kernel⟩
theorem w_23 : (Jvm.Cond.classLink "DescriptorDesk" (9 : Nat) "DescriptorDesk$Proc") ∈ x_tb := List.mem_filter.mpr ⟨List.mem_append_right _ (List.mem_of_getElem? (i := 23) (by decide +kernel)), by decide +kernel⟩
theorem w_25 : (Jvm.Cond.classLink "DescriptorDesk" (15 : Nat) "DescriptorDesk$Opening") ∈ x_tb := List.mem_filter.mpr ⟨List.mem_append_right _ (List.mem_of_getElem? (i := 25) (by decide +kernel)), by decide +kernel⟩
theorem w_27 : (Jvm.Cond.classLink "DescriptorDesk" (21 : Nat) "DescriptorDesk$Pipe") ∈ x_tb := List.mem_filter.mpr ⟨List.mem_append_right _ (List.mem_of_getElem? (i := 27) (by decide +kernel)), by decide +kernel⟩
theorem w_29 : (Jvm.Cond.classLink "DescriptorDesk" (27 : Nat) "DescriptorDesk$StoredFile") ∈ x_tb := List.mem_filter.mpr ⟨List.mem_append_right _ (List.mem_of_getElem? (i := 29) (by decide +kernel)), by decide +kernel⟩
theorem w_31 : (Jvm.Cond.classLink "DescriptorDesk" (33 : Nat) "DescriptorDesk$ByteRow") ∈ x_tb := List.mem_filter.mpr ⟨List.mem_append_right _ (List.mem_of_getElem? (i := 31) (by decide +kernel)), by decide +kernel⟩
theorem w_32 : (Jvm.Cond.instantiable "DescriptorDesk$ByteRow" (3 : Nat)) ∈ x_tb := List.mem_filter.mpr ⟨List.mem_append_right _ (List.mem_of_getElem? (i := 32) (by decide +kernel)), by decide +kernel⟩
theorem w_34 : (Jvm.Cond.instanceMethod ({ cls := "DescriptorDesk$ByteRow", name := "<init>", desc := "()V" } : Jvm.MethodName)) ∈ x_tb := List.mem_filter.mpr ⟨List.mem_append_right _ (List.mem_of_getElem? (i := 34) (by decide +kernel)), by decide +kernel⟩
theorem w_35 : (Jvm.Cond.code ({ cls := "DescriptorDesk$ByteRow", name := "<init>", desc := "()V" } : Jvm.MethodName) prog_2_method_1_code (1 : Nat) (Option.none : Option Jvm.ClassFile.FieldType)) ∈ x_tb := List.mem_filter.mpr ⟨List.mem_append_right _ (List.mem_of_getElem? (i := 35) (by decide +kernel)), by decide +kernel⟩
theorem w_36 : (Jvm.Cond.methodLink "DescriptorDesk$ByteRow" (3 : Nat) ({ cls := "java/lang/Object", name := "<init>", desc := "()V" } : Jvm.MethodName)) ∈ x_tb := List.mem_filter.mpr ⟨List.mem_append_right _ (List.mem_of_getElem? (i := 36) (by decide +kernel)), by decide +kernel⟩
theorem w_37 : (Jvm.Cond.fieldLink "DescriptorDesk$ByteRow" (9 : Nat) "DescriptorDesk$ByteRow" "places" "[I") ∈ x_tb := List.mem_filter.mpr ⟨List.mem_append_right _ (List.mem_of_getElem? (i := 37) (by decide +kernel)), by decide +kernel⟩
theorem w_38 : (Jvm.Cond.fieldLink "DescriptorDesk$ByteRow" (13 : Nat) "DescriptorDesk$ByteRow" "first" "I") ∈ x_tb := List.mem_filter.mpr ⟨List.mem_append_right _ (List.mem_of_getElem? (i := 38) (by decide +kernel)), by decide +kernel⟩
theorem w_39 : (Jvm.Cond.fieldLink "DescriptorDesk$ByteRow" (17 : Nat) "DescriptorDesk$ByteRow" "size" "I") ∈ x_tb := List.mem_filter.mpr ⟨List.mem_append_right _ (List.mem_of_getElem? (i := 39) (by decide +kernel)), by decide +kernel⟩
theorem w_48 : (Jvm.Cond.arrayClass Jvm.ClassFile.FieldType.int) ∈ x_tb := List.mem_filter.mpr ⟨List.mem_append_right _ (List.mem_of_getElem? (i := 48) (by decide +kernel)), by decide +kernel⟩
theorem w_49 : (Jvm.Cond.instantiable "DescriptorDesk$Proc" (5 : Nat)) ∈ x_tb := List.mem_filter.mpr ⟨List.mem_append_right _ (List.mem_of_getElem? (i := 49) (by decide +kernel)), by decide +kernel⟩
theorem w_51 : (Jvm.Cond.instanceMethod ({ cls := "DescriptorDesk$Proc", name := "<init>", desc := "()V" } : Jvm.MethodName)) ∈ x_tb := List.mem_filter.mpr ⟨List.mem_append_right _ (List.mem_of_getElem? (i := 51) (by decide +kernel)), by decide +kernel⟩
theorem w_52 : (Jvm.Cond.code ({ cls := "DescriptorDesk$Proc", name := "<init>", desc := "()V" } : Jvm.MethodName) prog_5_method_1_code (1 : Nat) (Option.none : Option Jvm.ClassFile.FieldType)) ∈ x_tb := List.mem_filter.mpr ⟨List.mem_append_right _ (List.mem_of_getElem? (i := 52) (by decide +kernel)), by decide +kernel⟩
theorem w_53 : (Jvm.Cond.methodLink "DescriptorDesk$Proc" (3 : Nat) ({ cls := "java/lang/Object", name := "<init>", desc := "()V" } : Jvm.MethodName)) ∈ x_tb := List.mem_filter.mpr ⟨List.mem_append_right _ (List.mem_of_getElem? (i := 53) (by decide +kernel)), by decide +kernel⟩
theorem w_54 : (Jvm.Cond.classLink "DescriptorDesk$Proc" (9 : Nat) "DescriptorDesk$Opening") ∈ x_tb := List.mem_filter.mpr ⟨List.mem_append_right _ (List.mem_of_getElem? (i := 54) (by decide +kernel)), by decide +kernel⟩
theorem w_55 : (Jvm.Cond.fieldLink "DescriptorDesk$Proc" (11 : Nat) "DescriptorDesk$Proc" "descriptors" "[LDescriptorDesk$Opening;") ∈ x_tb := List.mem_filter.mpr ⟨List.mem_append_right _ (List.mem_of_getElem? (i := 55) (by decide +kernel)), by decide +kernel⟩
theorem w_56 : (Jvm.Cond.fieldLink "DescriptorDesk$Proc" (17 : Nat) "DescriptorDesk$Proc" "condition" "I") ∈ x_tb := List.mem_filter.mpr ⟨List.mem_append_right _ (List.mem_of_getElem? (i := 56) (by decide +kernel)), by decide +kernel⟩
theorem w_58 : (Jvm.Cond.fieldLink "DescriptorDesk$Proc" (21 : Nat) "DescriptorDesk$Proc" "waitsThrough" "I") ∈ x_tb := List.mem_filter.mpr ⟨List.mem_append_right _ (List.mem_of_getElem? (i := 58) (by decide +kernel)), by decide +kernel⟩
theorem w_60 : (Jvm.Cond.fieldLink "DescriptorDesk$Proc" (24 : Nat) "DescriptorDesk$Proc" "wants" "I") ∈ x_tb := List.mem_filter.mpr ⟨List.mem_append_right _ (List.mem_of_getElem? (i := 60) (by decide +kernel)), by decide +kernel⟩
theorem w_62 : (Jvm.Cond.fieldLink "DescriptorDesk$Proc" (27 : Nat) "DescriptorDesk$Proc" "latest" "J") ∈ x_tb := List.mem_filter.mpr ⟨List.mem_append_right _ (List.mem_of_getElem? (i := 62) (by decide +kernel)), by decide +kernel⟩
theorem w_75 : (Jvm.Cond.instantiable "DescriptorDesk$Opening" (5 : Nat)) ∈ x_tb := List.mem_filter.mpr ⟨List.mem_append_right _ (List.mem_of_getElem? (i := 75) (by decide +kernel)), by decide +kernel⟩
theorem w_77 : (Jvm.Cond.instanceMethod ({ cls := "DescriptorDesk$Opening", name := "<init>", desc := "()V" } : Jvm.MethodName)) ∈ x_tb := List.mem_filter.mpr ⟨List.mem_append_right _ (List.mem_of_getElem? (i := 77) (by decide +kernel)), by decide +kernel⟩
theorem w_78 : (Jvm.Cond.code ({ cls := "DescriptorDesk$Opening", name := "<init>", desc := "()V" } : Jvm.MethodName) prog_3_method_1_code (1 : Nat) (Option.none : Option Jvm.ClassFile.FieldType)) ∈ x_tb := List.mem_filter.mpr ⟨List.mem_append_right _ (List.mem_of_getElem? (i := 78) (by decide +kernel)), by decide +kernel⟩
theorem w_79 : (Jvm.Cond.methodLink "DescriptorDesk$Opening" (1 : Nat) ({ cls := "java/lang/Object", name := "<init>", desc := "()V" } : Jvm.MethodName)) ∈ x_tb := List.mem_filter.mpr ⟨List.mem_append_right _ (List.mem_of_getElem? (i := 79) (by decide +kernel)), by decide +kernel⟩
theorem w_80 : (Jvm.Cond.fieldLink "DescriptorDesk$Opening" (7 : Nat) "DescriptorDesk$Opening" "pipe" "LDescriptorDesk$Pipe;") ∈ x_tb := List.mem_filter.mpr ⟨List.mem_append_right _ (List.mem_of_getElem? (i := 80) (by decide +kernel)), by decide +kernel⟩
theorem w_82 : (Jvm.Cond.fieldLink "DescriptorDesk$Opening" (13 : Nat) "DescriptorDesk$Opening" "file" "LDescriptorDesk$StoredFile;") ∈ x_tb := List.mem_filter.mpr ⟨List.mem_append_right _ (List.mem_of_getElem? (i := 82) (by decide +kernel)), by decide +kernel⟩
theorem w_84 : (Jvm.Cond.fieldLink "DescriptorDesk$Opening" (17 : Nat) "DescriptorDesk$Opening" "position" "I") ∈ x_tb := List.mem_filter.mpr ⟨List.mem_append_right _ (List.mem_of_getElem? (i := 84) (by decide +kernel)), by decide +kernel⟩
theorem w_86 : (Jvm.Cond.fieldLink "DescriptorDesk$Opening" (21 : Nat) "DescriptorDesk$Opening" "rights" "I") ∈ x_tb := List.mem_filter.mpr ⟨List.mem_append_right _ (List.mem_of_getElem? (i := 86) (by decide +kernel)), by decide +kernel⟩
theorem w_88 : (Jvm.Cond.fieldLink "DescriptorDesk$Opening" (24 : Nat) "DescriptorDesk$Opening" "holders" "I") ∈ x_tb := List.mem_filter.mpr ⟨List.mem_append_right _ (List.mem_of_getElem? (i := 88) (by decide +kernel)), by decide +kernel⟩
theorem w_102 : (Jvm.Cond.instantiable "DescriptorDesk$Pipe" (3 : Nat)) ∈ x_tb := List.mem_filter.mpr ⟨List.mem_append_right _ (List.mem_of_getElem? (i := 102) (by decide +kernel)), by decide +kernel⟩
theorem w_104 : (Jvm.Cond.instanceMethod ({ cls := "DescriptorDesk$Pipe", name := "<init>", desc := "()V" } : Jvm.MethodName)) ∈ x_tb := List.mem_filter.mpr ⟨List.mem_append_right _ (List.mem_of_getElem? (i := 104) (by decide +kernel)), by decide +kernel⟩
theorem w_105 : (Jvm.Cond.code ({ cls := "DescriptorDesk$Pipe", name := "<init>", desc := "()V" } : Jvm.MethodName) prog_4_method_1_code (1 : Nat) (Option.none : Option Jvm.ClassFile.FieldType)) ∈ x_tb := List.mem_filter.mpr ⟨List.mem_append_right _ (List.mem_of_getElem? (i := 105) (by decide +kernel)), by decide +kernel⟩
theorem w_106 : (Jvm.Cond.methodLink "DescriptorDesk$Pipe" (3 : Nat) ({ cls := "java/lang/Object", name := "<init>", desc := "()V" } : Jvm.MethodName)) ∈ x_tb := List.mem_filter.mpr ⟨List.mem_append_right _ (List.mem_of_getElem? (i := 106) (by decide +kernel)), by decide +kernel⟩
theorem w_107 : (Jvm.Cond.classLink "DescriptorDesk$Pipe" (9 : Nat) "DescriptorDesk$ByteRow") ∈ x_tb := List.mem_filter.mpr ⟨List.mem_append_right _ (List.mem_of_getElem? (i := 107) (by decide +kernel)), by decide +kernel⟩
theorem w_109 : (Jvm.Cond.fieldLink "DescriptorDesk$Pipe" (12 : Nat) "DescriptorDesk$Pipe" "bytes" "LDescriptorDesk$ByteRow;") ∈ x_tb := List.mem_filter.mpr ⟨List.mem_append_right _ (List.mem_of_getElem? (i := 109) (by decide +kernel)), by decide +kernel⟩
theorem w_111 : (Jvm.Cond.fieldLink "DescriptorDesk$Pipe" (18 : Nat) "DescriptorDesk$Pipe" "readers" "I") ∈ x_tb := List.mem_filter.mpr ⟨List.mem_append_right _ (List.mem_of_getElem? (i := 111) (by decide +kernel)), by decide +kernel⟩
theorem w_113 : (Jvm.Cond.fieldLink "DescriptorDesk$Pipe" (22 : Nat) "DescriptorDesk$Pipe" "writers" "I") ∈ x_tb := List.mem_filter.mpr ⟨List.mem_append_right _ (List.mem_of_getElem? (i := 113) (by decide +kernel)), by decide +kernel⟩
theorem w_122 : (Jvm.Cond.instantiable "DescriptorDesk$StoredFile" (4 : Nat)) ∈ x_tb := List.mem_filter.mpr ⟨List.mem_append_right _ (List.mem_of_getElem? (i := 122) (by decide +kernel)), by decide +kernel⟩
theorem w_124 : (Jvm.Cond.instanceMethod ({ cls := "DescriptorDesk$StoredFile", name := "<init>", desc := "()V" } : Jvm.MethodName)) ∈ x_tb := List.mem_filter.mpr ⟨List.mem_append_right _ (List.mem_of_getElem? (i := 124) (by decide +kernel)), by decide +kernel⟩
theorem w_125 : (Jvm.Cond.code ({ cls := "DescriptorDesk$StoredFile", name := "<init>", desc := "()V" } : Jvm.MethodName) prog_6_method_1_code (1 : Nat) (Option.none : Option Jvm.ClassFile.FieldType)) ∈ x_tb := List.mem_filter.mpr ⟨List.mem_append_right _ (List.mem_of_getElem? (i := 125) (by decide +kernel)), by decide +kernel⟩
theorem w_126 : (Jvm.Cond.methodLink "DescriptorDesk$StoredFile" (3 : Nat) ({ cls := "java/lang/Object", name := "<init>", desc := "()V" } : Jvm.MethodName)) ∈ x_tb := List.mem_filter.mpr ⟨List.mem_append_right _ (List.mem_of_getElem? (i := 126) (by decide +kernel)), by decide +kernel⟩
theorem w_127 : (Jvm.Cond.fieldLink "DescriptorDesk$StoredFile" (9 : Nat) "DescriptorDesk$StoredFile" "bytes" "[I") ∈ x_tb := List.mem_filter.mpr ⟨List.mem_append_right _ (List.mem_of_getElem? (i := 127) (by decide +kernel)), by decide +kernel⟩
theorem w_128 : (Jvm.Cond.fieldLink "DescriptorDesk$StoredFile" (15 : Nat) "DescriptorDesk$StoredFile" "length" "I") ∈ x_tb := List.mem_filter.mpr ⟨List.mem_append_right _ (List.mem_of_getElem? (i := 128) (by decide +kernel)), by decide +kernel⟩
theorem w_130 : (Jvm.Cond.fieldLink "DescriptorDesk$StoredFile" (19 : Nat) "DescriptorDesk$StoredFile" "name" "I") ∈ x_tb := List.mem_filter.mpr ⟨List.mem_append_right _ (List.mem_of_getElem? (i := 130) (by decide +kernel)), by decide +kernel⟩
theorem w_132 : (Jvm.Cond.fieldLink "DescriptorDesk$StoredFile" (22 : Nat) "DescriptorDesk$StoredFile" "users" "I") ∈ x_tb := List.mem_filter.mpr ⟨List.mem_append_right _ (List.mem_of_getElem? (i := 132) (by decide +kernel)), by decide +kernel⟩
theorem w_143 : (Jvm.Cond.fieldLink "DescriptorDesk" (11 : Nat) "DescriptorDesk" "procs" "[LDescriptorDesk$Proc;") ∈ x_tb := List.mem_filter.mpr ⟨List.mem_append_right _ (List.mem_of_getElem? (i := 143) (by decide +kernel)), by decide +kernel⟩
theorem w_144 : (Jvm.Cond.fieldLink "DescriptorDesk" (17 : Nat) "DescriptorDesk" "openings" "[LDescriptorDesk$Opening;") ∈ x_tb := List.mem_filter.mpr ⟨List.mem_append_right _ (List.mem_of_getElem? (i := 144) (by decide +kernel)), by decide +kernel⟩
theorem w_145 : (Jvm.Cond.fieldLink "DescriptorDesk" (23 : Nat) "DescriptorDesk" "pipes" "[LDescriptorDesk$Pipe;") ∈ x_tb := List.mem_filter.mpr ⟨List.mem_append_right _ (List.mem_of_getElem? (i := 145) (by decide +kernel)), by decide +kernel⟩
theorem w_146 : (Jvm.Cond.fieldLink "DescriptorDesk" (29 : Nat) "DescriptorDesk" "files" "[LDescriptorDesk$StoredFile;") ∈ x_tb := List.mem_filter.mpr ⟨List.mem_append_right _ (List.mem_of_getElem? (i := 146) (by decide +kernel)), by decide +kernel⟩
theorem w_147 : (Jvm.Cond.fieldLink "DescriptorDesk" (36 : Nat) "DescriptorDesk" "typedBytes" "LDescriptorDesk$ByteRow;") ∈ x_tb := List.mem_filter.mpr ⟨List.mem_append_right _ (List.mem_of_getElem? (i := 147) (by decide +kernel)), by decide +kernel⟩
theorem w_148 : (Jvm.Cond.fieldLink "DescriptorDesk" (40 : Nat) "DescriptorDesk" "shownBytes" "LDescriptorDesk$ByteRow;") ∈ x_tb := List.mem_filter.mpr ⟨List.mem_append_right _ (List.mem_of_getElem? (i := 148) (by decide +kernel)), by decide +kernel⟩
theorem w_149 : (Jvm.Cond.fieldLink "DescriptorDesk" (43 : Nat) "DescriptorDesk" "shownInAll" "I") ∈ x_tb := List.mem_filter.mpr ⟨List.mem_append_right _ (List.mem_of_getElem? (i := 149) (by decide +kernel)), by decide +kernel⟩
theorem w_169 : (Jvm.Cond.methodLink "DescriptorDesk" (51 : Nat) ({ cls := "DescriptorDesk", name := "leastAbsent", desc := "()I" } : Jvm.MethodName)) ∈ x_tb := List.mem_filter.mpr ⟨List.mem_append_right _ (List.mem_of_getElem? (i := 169) (by decide +kernel)), by decide +kernel⟩
theorem w_171 : (Jvm.Cond.instanceMethod ({ cls := "DescriptorDesk", name := "leastAbsent", desc := "()I" } : Jvm.MethodName)) ∈ x_tb := List.mem_filter.mpr ⟨List.mem_append_right _ (List.mem_of_getElem? (i := 171) (by decide +kernel)), by decide +kernel⟩
theorem w_172 : (Jvm.Cond.code ({ cls := "DescriptorDesk", name := "leastAbsent", desc := "()I" } : Jvm.MethodName) prog_1_method_25_code (2 : Nat) (Option.some Jvm.ClassFile.FieldType.int)) ∈ x_tb := List.mem_filter.mpr ⟨List.mem_append_right _ (List.mem_of_getElem? (i := 172) (by decide +kernel)), by decide +kernel⟩
theorem w_173 : (Jvm.Cond.methodLink "DescriptorDesk" (55 : Nat) ({ cls := "DescriptorDesk", name := "freeOpening", desc := "(LDescriptorDesk$Opening;)LDescriptorDesk$Opening;" } : Jvm.MethodName)) ∈ x_tb := List.mem_filter.mpr ⟨List.mem_append_right _ (List.mem_of_getElem? (i := 173) (by decide +kernel)), by decide +kernel⟩
theorem w_175 : (Jvm.Cond.instanceMethod ({ cls := "DescriptorDesk", name := "freeOpening", desc := "(LDescriptorDesk$Opening;)LDescriptorDesk$Opening;" } : Jvm.MethodName)) ∈ x_tb := List.mem_filter.mpr ⟨List.mem_append_right _ (List.mem_of_getElem? (i := 175) (by decide +kernel)), by decide +kernel⟩
theorem w_176 : (Jvm.Cond.code ({ cls := "DescriptorDesk", name := "freeOpening", desc := "(LDescriptorDesk$Opening;)LDescriptorDesk$Opening;" } : Jvm.MethodName) prog_1_method_26_code (6 : Nat) (Option.some (Jvm.ClassFile.FieldType.object "DescriptorDesk$Opening"))) ∈ x_tb := List.mem_filter.mpr ⟨List.mem_append_right _ (List.mem_of_getElem? (i := 176) (by decide +kernel)), by decide +kernel⟩
theorem w_177 : (Jvm.Cond.methodLink "DescriptorDesk" (59 : Nat) ({ cls := "DescriptorDesk$Proc", name := "begin", desc := "()V" } : Jvm.MethodName)) ∈ x_tb := List.mem_filter.mpr ⟨List.mem_append_right _ (List.mem_of_getElem? (i := 177) (by decide +kernel)), by decide +kernel⟩
theorem w_178 : (Jvm.Cond.instanceMethod ({ cls := "DescriptorDesk$Proc", name := "begin", desc := "()V" } : Jvm.MethodName)) ∈ x_tb := List.mem_filter.mpr ⟨List.mem_append_right _ (List.mem_of_getElem? (i := 178) (by decide +kernel)), by decide +kernel⟩
theorem w_179 : (Jvm.Cond.selects "DescriptorDesk$Proc" ({ cls := "DescriptorDesk$Proc", name := "begin", desc := "()V" } : Jvm.MethodName) ({ cls := "DescriptorDesk$Proc", name := "begin", desc := "()V" } : Jvm.MethodName)) ∈ x_tb := List.mem_filter.mpr ⟨List.mem_append_right _ (List.mem_of_getElem? (i := 179) (by decide +kernel)), by decide +kernel⟩
theorem w_180 : (Jvm.Cond.code ({ cls := "DescriptorDesk$Proc", name := "begin", desc := "()V" } : Jvm.MethodName) prog_5_method_2_code (1 : Nat) (Option.none : Option Jvm.ClassFile.FieldType)) ∈ x_tb := List.mem_filter.mpr ⟨List.mem_append_right _ (List.mem_of_getElem? (i := 180) (by decide +kernel)), by decide +kernel⟩
theorem w_181 : (Jvm.Cond.methodLink "DescriptorDesk$Proc" (31 : Nat) ({ cls := "DescriptorDesk$Proc", name := "beReady", desc := "()V" } : Jvm.MethodName)) ∈ x_tb := List.mem_filter.mpr ⟨List.mem_append_right _ (List.mem_of_getElem? (i := 181) (by decide +kernel)), by decide +kernel⟩
theorem w_182 : (Jvm.Cond.instanceMethod ({ cls := "DescriptorDesk$Proc", name := "beReady", desc := "()V" } : Jvm.MethodName)) ∈ x_tb := List.mem_filter.mpr ⟨List.mem_append_right _ (List.mem_of_getElem? (i := 182) (by decide +kernel)), by decide +kernel⟩
theorem w_183 : (Jvm.Cond.selects "DescriptorDesk$Proc" ({ cls := "DescriptorDesk$Proc", name := "beReady", desc := "()V" } : Jvm.MethodName) ({ cls := "DescriptorDesk$Proc", name := "beReady", desc := "()V" } : Jvm.MethodName)) ∈ x_tb := List.mem_filter.mpr ⟨List.mem_append_right _ (List.mem_of_getElem? (i := 183) (by decide +kernel)), by decide +kernel⟩
theorem w_184 : (Jvm.Cond.code ({ cls := "DescriptorDesk$Proc", name := "beReady", desc := "()V" } : Jvm.MethodName) prog_5_method_3_code (1 : Nat) (Option.none : Option Jvm.ClassFile.FieldType)) ∈ x_tb := List.mem_filter.mpr ⟨List.mem_append_right _ (List.mem_of_getElem? (i := 184) (by decide +kernel)), by decide +kernel⟩
theorem w_185 : (Jvm.Cond.methodLink "DescriptorDesk" (62 : Nat) ({ cls := "DescriptorDesk$Opening", name := "begin", desc := "(LDescriptorDesk$Pipe;LDescriptorDesk$StoredFile;I)V" } : Jvm.MethodName)) ∈ x_tb := List.mem_filter.mpr ⟨List.mem_append_right _ (List.mem_of_getElem? (i := 185) (by decide +kernel)), by decide +kernel⟩
theorem w_186 : (Jvm.Cond.instanceMethod ({ cls := "DescriptorDesk$Opening", name := "begin", desc := "(LDescriptorDesk$Pipe;LDescriptorDesk$StoredFile;I)V" } : Jvm.MethodName)) ∈ x_tb := List.mem_filter.mpr ⟨List.mem_append_right _ (List.mem_of_getElem? (i := 186) (by decide +kernel)), by decide +kernel⟩
theorem w_187 : (Jvm.Cond.selects "DescriptorDesk$Opening" ({ cls := "DescriptorDesk$Opening", name := "begin", desc := "(LDescriptorDesk$Pipe;LDescriptorDesk$StoredFile;I)V" } : Jvm.MethodName) ({ cls := "DescriptorDesk$Opening", name := "begin", desc := "(LDescriptorDesk$Pipe;LDescriptorDesk$StoredFile;I)V" } : Jvm.MethodName)) ∈ x_tb := List.mem_filter.mpr ⟨List.mem_append_right _ (List.mem_of_getElem? (i := 187) (by decide +kernel)), by decide +kernel⟩
theorem w_188 : (Jvm.Cond.code ({ cls := "DescriptorDesk$Opening", name := "begin", desc := "(LDescriptorDesk$Pipe;LDescriptorDesk$StoredFile;I)V" } : Jvm.MethodName) prog_3_method_2_code (4 : Nat) (Option.none : Option Jvm.ClassFile.FieldType)) ∈ x_tb := List.mem_filter.mpr ⟨List.mem_append_right _ (List.mem_of_getElem? (i := 188) (by decide +kernel)), by decide +kernel⟩
theorem w_189 : (Jvm.Cond.methodLink "DescriptorDesk$Opening" (27 : Nat) ({ cls := "DescriptorDesk$Pipe", name := "addEnd", desc := "(I)V" } : Jvm.MethodName)) ∈ x_tb := List.mem_filter.mpr ⟨List.mem_append_right _ (List.mem_of_getElem? (i := 189) (by decide +kernel)), by decide +kernel⟩
theorem w_190 : (Jvm.Cond.instanceMethod ({ cls := "DescriptorDesk$Pipe", name := "addEnd", desc := "(I)V" } : Jvm.MethodName)) ∈ x_tb := List.mem_filter.mpr ⟨List.mem_append_right _ (List.mem_of_getElem? (i := 190) (by decide +kernel)), by decide +kernel⟩
theorem w_191 : (Jvm.Cond.selects "DescriptorDesk$Pipe" ({ cls := "DescriptorDesk$Pipe", name := "addEnd", desc := "(I)V" } : Jvm.MethodName) ({ cls := "DescriptorDesk$Pipe", name := "addEnd", desc := "(I)V" } : Jvm.MethodName)) ∈ x_tb := List.mem_filter.mpr ⟨List.mem_append_right _ (List.mem_of_getElem? (i := 191) (by decide +kernel)), by decide +kernel⟩
theorem w_192 : (Jvm.Cond.code ({ cls := "DescriptorDesk$Pipe", name := "addEnd", desc := "(I)V" } : Jvm.MethodName) prog_4_method_3_code (2 : Nat) (Option.none : Option Jvm.ClassFile.FieldType)) ∈ x_tb := List.mem_filter.mpr ⟨List.mem_append_right _ (List.mem_of_getElem? (i := 192) (by decide +kernel)), by decide +kernel⟩
theorem w_193 : (Jvm.Cond.methodLink "DescriptorDesk" (65 : Nat) ({ cls := "DescriptorDesk$Proc", name := "hold", desc := "(ILDescriptorDesk$Opening;)V" } : Jvm.MethodName)) ∈ x_tb := List.mem_filter.mpr ⟨List.mem_append_right _ (List.mem_of_getElem? (i := 193) (by decide +kernel)), by decide +kernel⟩
theorem w_194 : (Jvm.Cond.instanceMethod ({ cls := "DescriptorDesk$Proc", name := "hold", desc := "(ILDescriptorDesk$Opening;)V" } : Jvm.MethodName)) ∈ x_tb := List.mem_filter.mpr ⟨List.mem_append_right _ (List.mem_of_getElem? (i := 194) (by decide +kernel)), by decide +kernel⟩
theorem w_195 : (Jvm.Cond.selects "DescriptorDesk$Proc" ({ cls := "DescriptorDesk$Proc", name := "hold", desc := "(ILDescriptorDesk$Opening;)V" } : Jvm.MethodName) ({ cls := "DescriptorDesk$Proc", name := "hold", desc := "(ILDescriptorDesk$Opening;)V" } : Jvm.MethodName)) ∈ x_tb := List.mem_filter.mpr ⟨List.mem_append_right _ (List.mem_of_getElem? (i := 195) (by decide +kernel)), by decide +kernel⟩
theorem w_196 : (Jvm.Cond.code ({ cls := "DescriptorDesk$Proc", name := "hold", desc := "(ILDescriptorDesk$Opening;)V" } : Jvm.MethodName) prog_5_method_9_code (3 : Nat) (Option.none : Option Jvm.ClassFile.FieldType)) ∈ x_tb := List.mem_filter.mpr ⟨List.mem_append_right _ (List.mem_of_getElem? (i := 196) (by decide +kernel)), by decide +kernel⟩
theorem w_197 : (Jvm.Cond.methodLink "DescriptorDesk$Proc" (34 : Nat) ({ cls := "DescriptorDesk$Proc", name := "release", desc := "(I)V" } : Jvm.MethodName)) ∈ x_tb := List.mem_filter.mpr ⟨List.mem_append_right _ (List.mem_of_getElem? (i := 197) (by decide +kernel)), by decide +kernel⟩
theorem w_198 : (Jvm.Cond.instanceMethod ({ cls := "DescriptorDesk$Proc", name := "release", desc := "(I)V" } : Jvm.MethodName)) ∈ x_tb := List.mem_filter.mpr ⟨List.mem_append_right _ (List.mem_of_getElem? (i := 198) (by decide +kernel)), by decide +kernel⟩
theorem w_199 : (Jvm.Cond.selects "DescriptorDesk$Proc" ({ cls := "DescriptorDesk$Proc", name := "release", desc := "(I)V" } : Jvm.MethodName) ({ cls := "DescriptorDesk$Proc", name := "release", desc := "(I)V" } : Jvm.MethodName)) ∈ x_tb := List.mem_filter.mpr ⟨List.mem_append_right _ (List.mem_of_getElem? (i := 199) (by decide +kernel)), by decide +kernel⟩
theorem w_200 : (Jvm.Cond.code ({ cls := "DescriptorDesk$Proc", name := "release", desc := "(I)V" } : Jvm.MethodName) prog_5_method_10_code (3 : Nat) (Option.none : Option Jvm.ClassFile.FieldType)) ∈ x_tb := List.mem_filter.mpr ⟨List.mem_append_right _ (List.mem_of_getElem? (i := 200) (by decide +kernel)), by decide +kernel⟩
theorem w_201 : (Jvm.Cond.methodLink "DescriptorDesk$Proc" (47 : Nat) ({ cls := "DescriptorDesk$Proc", name := "openingAt", desc := "(I)LDescriptorDesk$Opening;" } : Jvm.MethodName)) ∈ x_tb := List.mem_filter.mpr ⟨List.mem_append_right _ (List.mem_of_getElem? (i := 201) (by decide +kernel)), by decide +kernel⟩
theorem w_202 : (Jvm.Cond.instanceMethod ({ cls := "DescriptorDesk$Proc", name := "openingAt", desc := "(I)LDescriptorDesk$Opening;" } : Jvm.MethodName)) ∈ x_tb := List.mem_filter.mpr ⟨List.mem_append_right _ (List.mem_of_getElem? (i := 202) (by decide +kernel)), by decide +kernel⟩
theorem w_203 : (Jvm.Cond.selects "DescriptorDesk$Proc" ({ cls := "DescriptorDesk$Proc", name := "openingAt", desc := "(I)LDescriptorDesk$Opening;" } : Jvm.MethodName) ({ cls := "DescriptorDesk$Proc", name := "openingAt", desc := "(I)LDescriptorDesk$Opening;" } : Jvm.MethodName)) ∈ x_tb := List.mem_filter.mpr ⟨List.mem_append_right _ (List.mem_of_getElem? (i := 203) (by decide +kernel)), by decide +kernel⟩
theorem w_204 : (Jvm.Cond.code ({ cls := "DescriptorDesk$Proc", name := "openingAt", desc := "(I)LDescriptorDesk$Opening;" } : Jvm.MethodName) prog_5_method_7_code (2 : Nat) (Option.some (Jvm.ClassFile.FieldType.object "DescriptorDesk$Opening"))) ∈ x_tb := List.mem_filter.mpr ⟨List.mem_append_right _ (List.mem_of_getElem? (i := 204) (by decide +kernel)), by decide +kernel⟩
theorem w_205 : (Jvm.Cond.methodLink "DescriptorDesk$Proc" (51 : Nat) ({ cls := "DescriptorDesk$Opening", name := "drop", desc := "()V" } : Jvm.MethodName)) ∈ x_tb := List.mem_filter.mpr ⟨List.mem_append_right _ (List.mem_of_getElem? (i := 205) (by decide +kernel)), by decide +kernel⟩
theorem w_206 : (Jvm.Cond.instanceMethod ({ cls := "DescriptorDesk$Opening", name := "drop", desc := "()V" } : Jvm.MethodName)) ∈ x_tb := List.mem_filter.mpr ⟨List.mem_append_right _ (List.mem_of_getElem? (i := 206) (by decide +kernel)), by decide +kernel⟩
theorem w_207 : (Jvm.Cond.selects "DescriptorDesk$Opening" ({ cls := "DescriptorDesk$Opening", name := "drop", desc := "()V" } : Jvm.MethodName) ({ cls := "DescriptorDesk$Opening", name := "drop", desc := "()V" } : Jvm.MethodName)) ∈ x_tb := List.mem_filter.mpr ⟨List.mem_append_right _ (List.mem_of_getElem? (i := 207) (by decide +kernel)), by decide +kernel⟩
theorem w_208 : (Jvm.Cond.code ({ cls := "DescriptorDesk$Opening", name := "drop", desc := "()V" } : Jvm.MethodName) prog_3_method_5_code (1 : Nat) (Option.none : Option Jvm.ClassFile.FieldType)) ∈ x_tb := List.mem_filter.mpr ⟨List.mem_append_right _ (List.mem_of_getElem? (i := 208) (by decide +kernel)), by decide +kernel⟩
theorem w_209 : (Jvm.Cond.methodLink "DescriptorDesk$Opening" (38 : Nat) ({ cls := "DescriptorDesk$Pipe", name := "dropEnd", desc := "(I)V" } : Jvm.MethodName)) ∈ x_tb := List.mem_filter.mpr ⟨List.mem_append_right _ (List.mem_of_getElem? (i := 209) (by decide +kernel)), by decide +kernel⟩
theorem w_210 : (Jvm.Cond.instanceMethod ({ cls := "DescriptorDesk$Pipe", name := "dropEnd", desc := "(I)V" } : Jvm.MethodName)) ∈ x_tb := List.mem_filter.mpr ⟨List.mem_append_right _ (List.mem_of_getElem? (i := 210) (by decide +kernel)), by decide +kernel⟩
theorem w_211 : (Jvm.Cond.selects "DescriptorDesk$Pipe" ({ cls := "DescriptorDesk$Pipe", name := "dropEnd", desc := "(I)V" } : Jvm.MethodName) ({ cls := "DescriptorDesk$Pipe", name := "dropEnd", desc := "(I)V" } : Jvm.MethodName)) ∈ x_tb := List.mem_filter.mpr ⟨List.mem_append_right _ (List.mem_of_getElem? (i := 211) (by decide +kernel)), by decide +kernel⟩
theorem w_212 : (Jvm.Cond.code ({ cls := "DescriptorDesk$Pipe", name := "dropEnd", desc := "(I)V" } : Jvm.MethodName) prog_4_method_4_code (2 : Nat) (Option.none : Option Jvm.ClassFile.FieldType)) ∈ x_tb := List.mem_filter.mpr ⟨List.mem_append_right _ (List.mem_of_getElem? (i := 212) (by decide +kernel)), by decide +kernel⟩
theorem w_213 : (Jvm.Cond.methodLink "DescriptorDesk$Pipe" (25 : Nat) ({ cls := "DescriptorDesk$Pipe", name := "isThere", desc := "()Z" } : Jvm.MethodName)) ∈ x_tb := List.mem_filter.mpr ⟨List.mem_append_right _ (List.mem_of_getElem? (i := 213) (by decide +kernel)), by decide +kernel⟩
theorem w_214 : (Jvm.Cond.instanceMethod ({ cls := "DescriptorDesk$Pipe", name := "isThere", desc := "()Z" } : Jvm.MethodName)) ∈ x_tb := List.mem_filter.mpr ⟨List.mem_append_right _ (List.mem_of_getElem? (i := 214) (by decide +kernel)), by decide +kernel⟩
theorem w_215 : (Jvm.Cond.selects "DescriptorDesk$Pipe" ({ cls := "DescriptorDesk$Pipe", name := "isThere", desc := "()Z" } : Jvm.MethodName) ({ cls := "DescriptorDesk$Pipe", name := "isThere", desc := "()Z" } : Jvm.MethodName)) ∈ x_tb := List.mem_filter.mpr ⟨List.mem_append_right _ (List.mem_of_getElem? (i := 215) (by decide +kernel)), by decide +kernel⟩
theorem w_216 : (Jvm.Cond.code ({ cls := "DescriptorDesk$Pipe", name := "isThere", desc := "()Z" } : Jvm.MethodName) prog_4_method_2_code (1 : Nat) (Option.some Jvm.ClassFile.FieldType.boolean)) ∈ x_tb := List.mem_filter.mpr ⟨List.mem_append_right _ (List.mem_of_getElem? (i := 216) (by decide +kernel)), by decide +kernel⟩
theorem w_217 : (Jvm.Cond.methodLink "DescriptorDesk$Pipe" (29 : Nat) ({ cls := "DescriptorDesk$ByteRow", name := "empty", desc := "()V" } : Jvm.MethodName)) ∈ x_tb := List.mem_filter.mpr ⟨List.mem_append_right _ (List.mem_of_getElem? (i := 217) (by decide +kernel)), by decide +kernel⟩
theorem w_218 : (Jvm.Cond.instanceMethod ({ cls := "DescriptorDesk$ByteRow", name := "empty", desc := "()V" } : Jvm.MethodName)) ∈ x_tb := List.mem_filter.mpr ⟨List.mem_append_right _ (List.mem_of_getElem? (i := 218) (by decide +kernel)), by decide +kernel⟩
theorem w_219 : (Jvm.Cond.selects "DescriptorDesk$ByteRow" ({ cls := "DescriptorDesk$ByteRow", name := "empty", desc := "()V" } : Jvm.MethodName) ({ cls := "DescriptorDesk$ByteRow", name := "empty", desc := "()V" } : Jvm.MethodName)) ∈ x_tb := List.mem_filter.mpr ⟨List.mem_append_right _ (List.mem_of_getElem? (i := 219) (by decide +kernel)), by decide +kernel⟩
theorem w_220 : (Jvm.Cond.code ({ cls := "DescriptorDesk$ByteRow", name := "empty", desc := "()V" } : Jvm.MethodName) prog_2_method_5_code (1 : Nat) (Option.none : Option Jvm.ClassFile.FieldType)) ∈ x_tb := List.mem_filter.mpr ⟨List.mem_append_right _ (List.mem_of_getElem? (i := 220) (by decide +kernel)), by decide +kernel⟩
theorem w_225 : (Jvm.Cond.methodLink "DescriptorDesk" (77 : Nat) ({ cls := "DescriptorDesk", name := "procThere", desc := "(I)LDescriptorDesk$Proc;" } : Jvm.MethodName)) ∈ x_tb := List.mem_filter.mpr ⟨List.mem_append_right _ (List.mem_of_getElem? (i := 225) (by decide +kernel)), by decide +kernel⟩
theorem w_227 : (Jvm.Cond.instanceMethod ({ cls := "DescriptorDesk", name := "procThere", desc := "(I)LDescriptorDesk$Proc;" } : Jvm.MethodName)) ∈ x_tb := List.mem_filter.mpr ⟨List.mem_append_right _ (List.mem_of_getElem? (i := 227) (by decide +kernel)), by decide +kernel⟩
theorem w_228 : (Jvm.Cond.code ({ cls := "DescriptorDesk", name := "procThere", desc := "(I)LDescriptorDesk$Proc;" } : Jvm.MethodName) prog_1_method_20_code (2 : Nat) (Option.some (Jvm.ClassFile.FieldType.object "DescriptorDesk$Proc"))) ∈ x_tb := List.mem_filter.mpr ⟨List.mem_append_right _ (List.mem_of_getElem? (i := 228) (by decide +kernel)), by decide +kernel⟩
theorem w_233 : (Jvm.Cond.methodLink "DescriptorDesk" (175 : Nat) ({ cls := "DescriptorDesk$ByteRow", name := "byteAt", desc := "(I)I" } : Jvm.MethodName)) ∈ x_tb := List.mem_filter.mpr ⟨List.mem_append_right _ (List.mem_of_getElem? (i := 233) (by decide +kernel)), by decide +kernel⟩
theorem w_234 : (Jvm.Cond.instanceMethod ({ cls := "DescriptorDesk$ByteRow", name := "byteAt", desc := "(I)I" } : Jvm.MethodName)) ∈ x_tb := List.mem_filter.mpr ⟨List.mem_append_right _ (List.mem_of_getElem? (i := 234) (by decide +kernel)), by decide +kernel⟩
theorem w_235 : (Jvm.Cond.selects "DescriptorDesk$ByteRow" ({ cls := "DescriptorDesk$ByteRow", name := "byteAt", desc := "(I)I" } : Jvm.MethodName) ({ cls := "DescriptorDesk$ByteRow", name := "byteAt", desc := "(I)I" } : Jvm.MethodName)) ∈ x_tb := List.mem_filter.mpr ⟨List.mem_append_right _ (List.mem_of_getElem? (i := 235) (by decide +kernel)), by decide +kernel⟩
theorem w_236 : (Jvm.Cond.code ({ cls := "DescriptorDesk$ByteRow", name := "byteAt", desc := "(I)I" } : Jvm.MethodName) prog_2_method_2_code (2 : Nat) (Option.some Jvm.ClassFile.FieldType.int)) ∈ x_tb := List.mem_filter.mpr ⟨List.mem_append_right _ (List.mem_of_getElem? (i := 236) (by decide +kernel)), by decide +kernel⟩
theorem w_245 : (Jvm.Cond.methodLink "DescriptorDesk" (73 : Nat) ({ cls := "DescriptorDesk$Proc", name := "openingAt", desc := "(I)LDescriptorDesk$Opening;" } : Jvm.MethodName)) ∈ x_tb := List.mem_filter.mpr ⟨List.mem_append_right _ (List.mem_of_getElem? (i := 245) (by decide +kernel)), by decide +kernel⟩
theorem w_246 : (Jvm.Cond.methodLink "DescriptorDesk" (187 : Nat) ({ cls := "DescriptorDesk", name := "kindOf", desc := "(LDescriptorDesk$Opening;)I" } : Jvm.MethodName)) ∈ x_tb := List.mem_filter.mpr ⟨List.mem_append_right _ (List.mem_of_getElem? (i := 246) (by decide +kernel)), by decide +kernel⟩
theorem w_247 : (Jvm.Cond.static ({ cls := "DescriptorDesk", name := "kindOf", desc := "(LDescriptorDesk$Opening;)I" } : Jvm.MethodName)) ∈ x_tb := List.mem_filter.mpr ⟨List.mem_append_right _ (List.mem_of_getElem? (i := 247) (by decide +kernel)), by decide +kernel⟩
theorem w_248 : (Jvm.Cond.code ({ cls := "DescriptorDesk", name := "kindOf", desc := "(LDescriptorDesk$Opening;)I" } : Jvm.MethodName) prog_1_method_42_code (1 : Nat) (Option.some Jvm.ClassFile.FieldType.int)) ∈ x_tb := List.mem_filter.mpr ⟨List.mem_append_right _ (List.mem_of_getElem? (i := 248) (by decide +kernel)), by decide +kernel⟩
theorem w_249 : (Jvm.Cond.methodLink "DescriptorDesk" (242 : Nat) ({ cls := "DescriptorDesk$Opening", name := "has", desc := "(I)Z" } : Jvm.MethodName)) ∈ x_tb := List.mem_filter.mpr ⟨List.mem_append_right _ (List.mem_of_getElem? (i := 249) (by decide +kernel)), by decide +kernel⟩
theorem w_250 : (Jvm.Cond.instanceMethod ({ cls := "DescriptorDesk$Opening", name := "has", desc := "(I)Z" } : Jvm.MethodName)) ∈ x_tb := List.mem_filter.mpr ⟨List.mem_append_right _ (List.mem_of_getElem? (i := 250) (by decide +kernel)), by decide +kernel⟩
theorem w_251 : (Jvm.Cond.selects "DescriptorDesk$Opening" ({ cls := "DescriptorDesk$Opening", name := "has", desc := "(I)Z" } : Jvm.MethodName) ({ cls := "DescriptorDesk$Opening", name := "has", desc := "(I)Z" } : Jvm.MethodName)) ∈ x_tb := List.mem_filter.mpr ⟨List.mem_append_right _ (List.mem_of_getElem? (i := 251) (by decide +kernel)), by decide +kernel⟩
theorem w_252 : (Jvm.Cond.code ({ cls := "DescriptorDesk$Opening", name := "has", desc := "(I)Z" } : Jvm.MethodName) prog_3_method_3_code (2 : Nat) (Option.some Jvm.ClassFile.FieldType.boolean)) ∈ x_tb := List.mem_filter.mpr ⟨List.mem_append_right _ (List.mem_of_getElem? (i := 252) (by decide +kernel)), by decide +kernel⟩
theorem w_253 : (Jvm.Cond.methodLink "DescriptorDesk" (194 : Nat) ({ cls := "DescriptorDesk", name := "bytesIn", desc := "(LDescriptorDesk$Opening;)I" } : Jvm.MethodName)) ∈ x_tb := List.mem_filter.mpr ⟨List.mem_append_right _ (List.mem_of_getElem? (i := 253) (by decide +kernel)), by decide +kernel⟩
theorem w_255 : (Jvm.Cond.instanceMethod ({ cls := "DescriptorDesk", name := "bytesIn", desc := "(LDescriptorDesk$Opening;)I" } : Jvm.MethodName)) ∈ x_tb := List.mem_filter.mpr ⟨List.mem_append_right _ (List.mem_of_getElem? (i := 255) (by decide +kernel)), by decide +kernel⟩
theorem w_256 : (Jvm.Cond.code ({ cls := "DescriptorDesk", name := "bytesIn", desc := "(LDescriptorDesk$Opening;)I" } : Jvm.MethodName) prog_1_method_43_code (2 : Nat) (Option.some Jvm.ClassFile.FieldType.int)) ∈ x_tb := List.mem_filter.mpr ⟨List.mem_append_right _ (List.mem_of_getElem? (i := 256) (by decide +kernel)), by decide +kernel⟩
theorem w_261 : (Jvm.Cond.methodLink "DescriptorDesk" (200 : Nat) ({ cls := "DescriptorDesk", name := "procsThere", desc := "()I" } : Jvm.MethodName)) ∈ x_tb := List.mem_filter.mpr ⟨List.mem_append_right _ (List.mem_of_getElem? (i := 261) (by decide +kernel)), by decide +kernel⟩
theorem w_263 : (Jvm.Cond.instanceMethod ({ cls := "DescriptorDesk", name := "procsThere", desc := "()I" } : Jvm.MethodName)) ∈ x_tb := List.mem_filter.mpr ⟨List.mem_append_right _ (List.mem_of_getElem? (i := 263) (by decide +kernel)), by decide +kernel⟩
theorem w_264 : (Jvm.Cond.code ({ cls := "DescriptorDesk", name := "procsThere", desc := "()I" } : Jvm.MethodName) prog_1_method_44_code (6 : Nat) (Option.some Jvm.ClassFile.FieldType.int)) ∈ x_tb := List.mem_filter.mpr ⟨List.mem_append_right _ (List.mem_of_getElem? (i := 264) (by decide +kernel)), by decide +kernel⟩
theorem w_265 : (Jvm.Cond.methodLink "DescriptorDesk" (203 : Nat) ({ cls := "DescriptorDesk", name := "procsWaiting", desc := "()I" } : Jvm.MethodName)) ∈ x_tb := List.mem_filter.mpr ⟨List.mem_append_right _ (List.mem_of_getElem? (i := 265) (by decide +kernel)), by decide +kernel⟩
theorem w_267 : (Jvm.Cond.instanceMethod ({ cls := "DescriptorDesk", name := "procsWaiting", desc := "()I" } : Jvm.MethodName)) ∈ x_tb := List.mem_filter.mpr ⟨List.mem_append_right _ (List.mem_of_getElem? (i := 267) (by decide +kernel)), by decide +kernel⟩
theorem w_268 : (Jvm.Cond.code ({ cls := "DescriptorDesk", name := "procsWaiting", desc := "()I" } : Jvm.MethodName) prog_1_method_45_code (6 : Nat) (Option.some Jvm.ClassFile.FieldType.int)) ∈ x_tb := List.mem_filter.mpr ⟨List.mem_append_right _ (List.mem_of_getElem? (i := 268) (by decide +kernel)), by decide +kernel⟩
theorem w_269 : (Jvm.Cond.methodLink "DescriptorDesk" (301 : Nat) ({ cls := "DescriptorDesk$Proc", name := "isWaiting", desc := "()Z" } : Jvm.MethodName)) ∈ x_tb := List.mem_filter.mpr ⟨List.mem_append_right _ (List.mem_of_getElem? (i := 269) (by decide +kernel)), by decide +kernel⟩
theorem w_270 : (Jvm.Cond.instanceMethod ({ cls := "DescriptorDesk$Proc", name := "isWaiting", desc := "()Z" } : Jvm.MethodName)) ∈ x_tb := List.mem_filter.mpr ⟨List.mem_append_right _ (List.mem_of_getElem? (i := 270) (by decide +kernel)), by decide +kernel⟩
theorem w_271 : (Jvm.Cond.selects "DescriptorDesk$Proc" ({ cls := "DescriptorDesk$Proc", name := "isWaiting", desc := "()Z" } : Jvm.MethodName) ({ cls := "DescriptorDesk$Proc", name := "isWaiting", desc := "()Z" } : Jvm.MethodName)) ∈ x_tb := List.mem_filter.mpr ⟨List.mem_append_right _ (List.mem_of_getElem? (i := 271) (by decide +kernel)), by decide +kernel⟩
theorem w_272 : (Jvm.Cond.code ({ cls := "DescriptorDesk$Proc", name := "isWaiting", desc := "()Z" } : Jvm.MethodName) prog_5_method_6_code (1 : Nat) (Option.some Jvm.ClassFile.FieldType.boolean)) ∈ x_tb := List.mem_filter.mpr ⟨List.mem_append_right _ (List.mem_of_getElem? (i := 272) (by decide +kernel)), by decide +kernel⟩
theorem w_273 : (Jvm.Cond.methodLink "DescriptorDesk" (206 : Nat) ({ cls := "DescriptorDesk", name := "openingsThere", desc := "()I" } : Jvm.MethodName)) ∈ x_tb := List.mem_filter.mpr ⟨List.mem_append_right _ (List.mem_of_getElem? (i := 273) (by decide +kernel)), by decide +kernel⟩
theorem w_275 : (Jvm.Cond.instanceMethod ({ cls := "DescriptorDesk", name := "openingsThere", desc := "()I" } : Jvm.MethodName)) ∈ x_tb := List.mem_filter.mpr ⟨List.mem_append_right _ (List.mem_of_getElem? (i := 275) (by decide +kernel)), by decide +kernel⟩
theorem w_276 : (Jvm.Cond.code ({ cls := "DescriptorDesk", name := "openingsThere", desc := "()I" } : Jvm.MethodName) prog_1_method_46_code (6 : Nat) (Option.some Jvm.ClassFile.FieldType.int)) ∈ x_tb := List.mem_filter.mpr ⟨List.mem_append_right _ (List.mem_of_getElem? (i := 276) (by decide +kernel)), by decide +kernel⟩
theorem w_277 : (Jvm.Cond.methodLink "DescriptorDesk" (209 : Nat) ({ cls := "DescriptorDesk", name := "pipesThere", desc := "()I" } : Jvm.MethodName)) ∈ x_tb := List.mem_filter.mpr ⟨List.mem_append_right _ (List.mem_of_getElem? (i := 277) (by decide +kernel)), by decide +kernel⟩
theorem w_279 : (Jvm.Cond.instanceMethod ({ cls := "DescriptorDesk", name := "pipesThere", desc := "()I" } : Jvm.MethodName)) ∈ x_tb := List.mem_filter.mpr ⟨List.mem_append_right _ (List.mem_of_getElem? (i := 279) (by decide +kernel)), by decide +kernel⟩
theorem w_280 : (Jvm.Cond.code ({ cls := "DescriptorDesk", name := "pipesThere", desc := "()I" } : Jvm.MethodName) prog_1_method_47_code (6 : Nat) (Option.some Jvm.ClassFile.FieldType.int)) ∈ x_tb := List.mem_filter.mpr ⟨List.mem_append_right _ (List.mem_of_getElem? (i := 280) (by decide +kernel)), by decide +kernel⟩
theorem w_281 : (Jvm.Cond.methodLink "DescriptorDesk" (237 : Nat) ({ cls := "DescriptorDesk$Pipe", name := "isThere", desc := "()Z" } : Jvm.MethodName)) ∈ x_tb := List.mem_filter.mpr ⟨List.mem_append_right _ (List.mem_of_getElem? (i := 281) (by decide +kernel)), by decide +kernel⟩
theorem w_282 : (Jvm.Cond.methodLink "DescriptorDesk" (212 : Nat) ({ cls := "DescriptorDesk", name := "filesThere", desc := "()I" } : Jvm.MethodName)) ∈ x_tb := List.mem_filter.mpr ⟨List.mem_append_right _ (List.mem_of_getElem? (i := 282) (by decide +kernel)), by decide +kernel⟩
theorem w_284 : (Jvm.Cond.instanceMethod ({ cls := "DescriptorDesk", name := "filesThere", desc := "()I" } : Jvm.MethodName)) ∈ x_tb := List.mem_filter.mpr ⟨List.mem_append_right _ (List.mem_of_getElem? (i := 284) (by decide +kernel)), by decide +kernel⟩
theorem w_285 : (Jvm.Cond.code ({ cls := "DescriptorDesk", name := "filesThere", desc := "()I" } : Jvm.MethodName) prog_1_method_48_code (6 : Nat) (Option.some Jvm.ClassFile.FieldType.int)) ∈ x_tb := List.mem_filter.mpr ⟨List.mem_append_right _ (List.mem_of_getElem? (i := 285) (by decide +kernel)), by decide +kernel⟩
theorem w_286 : (Jvm.Cond.methodLink "DescriptorDesk" (241 : Nat) ({ cls := "DescriptorDesk$StoredFile", name := "isThere", desc := "()Z" } : Jvm.MethodName)) ∈ x_tb := List.mem_filter.mpr ⟨List.mem_append_right _ (List.mem_of_getElem? (i := 286) (by decide +kernel)), by decide +kernel⟩
theorem w_287 : (Jvm.Cond.instanceMethod ({ cls := "DescriptorDesk$StoredFile", name := "isThere", desc := "()Z" } : Jvm.MethodName)) ∈ x_tb := List.mem_filter.mpr ⟨List.mem_append_right _ (List.mem_of_getElem? (i := 287) (by decide +kernel)), by decide +kernel⟩
theorem w_288 : (Jvm.Cond.selects "DescriptorDesk$StoredFile" ({ cls := "DescriptorDesk$StoredFile", name := "isThere", desc := "()Z" } : Jvm.MethodName) ({ cls := "DescriptorDesk$StoredFile", name := "isThere", desc := "()Z" } : Jvm.MethodName)) ∈ x_tb := List.mem_filter.mpr ⟨List.mem_append_right _ (List.mem_of_getElem? (i := 288) (by decide +kernel)), by decide +kernel⟩
theorem w_289 : (Jvm.Cond.code ({ cls := "DescriptorDesk$StoredFile", name := "isThere", desc := "()Z" } : Jvm.MethodName) prog_6_method_2_code (1 : Nat) (Option.some Jvm.ClassFile.FieldType.boolean)) ∈ x_tb := List.mem_filter.mpr ⟨List.mem_append_right _ (List.mem_of_getElem? (i := 289) (by decide +kernel)), by decide +kernel⟩
theorem w_290 : (Jvm.Cond.methodLink "DescriptorDesk" (215 : Nat) ({ cls := "DescriptorDesk", name := "filesWithNames", desc := "()I" } : Jvm.MethodName)) ∈ x_tb := List.mem_filter.mpr ⟨List.mem_append_right _ (List.mem_of_getElem? (i := 290) (by decide +kernel)), by decide +kernel⟩
theorem w_292 : (Jvm.Cond.instanceMethod ({ cls := "DescriptorDesk", name := "filesWithNames", desc := "()I" } : Jvm.MethodName)) ∈ x_tb := List.mem_filter.mpr ⟨List.mem_append_right _ (List.mem_of_getElem? (i := 292) (by decide +kernel)), by decide +kernel⟩
theorem w_293 : (Jvm.Cond.code ({ cls := "DescriptorDesk", name := "filesWithNames", desc := "()I" } : Jvm.MethodName) prog_1_method_49_code (6 : Nat) (Option.some Jvm.ClassFile.FieldType.int)) ∈ x_tb := List.mem_filter.mpr ⟨List.mem_append_right _ (List.mem_of_getElem? (i := 293) (by decide +kernel)), by decide +kernel⟩
theorem w_294 : (Jvm.Cond.methodLink "DescriptorDesk" (218 : Nat) ({ cls := "DescriptorDesk", name := "bytesInPipes", desc := "()I" } : Jvm.MethodName)) ∈ x_tb := List.mem_filter.mpr ⟨List.mem_append_right _ (List.mem_of_getElem? (i := 294) (by decide +kernel)), by decide +kernel⟩
theorem w_296 : (Jvm.Cond.instanceMethod ({ cls := "DescriptorDesk", name := "bytesInPipes", desc := "()I" } : Jvm.MethodName)) ∈ x_tb := List.mem_filter.mpr ⟨List.mem_append_right _ (List.mem_of_getElem? (i := 296) (by decide +kernel)), by decide +kernel⟩
theorem w_297 : (Jvm.Cond.code ({ cls := "DescriptorDesk", name := "bytesInPipes", desc := "()I" } : Jvm.MethodName) prog_1_method_50_code (6 : Nat) (Option.some Jvm.ClassFile.FieldType.int)) ∈ x_tb := List.mem_filter.mpr ⟨List.mem_append_right _ (List.mem_of_getElem? (i := 297) (by decide +kernel)), by decide +kernel⟩
theorem w_298 : (Jvm.Cond.methodLink "DescriptorDesk" (221 : Nat) ({ cls := "DescriptorDesk", name := "waitingInVain", desc := "()I" } : Jvm.MethodName)) ∈ x_tb := List.mem_filter.mpr ⟨List.mem_append_right _ (List.mem_of_getElem? (i := 298) (by decide +kernel)), by decide +kernel⟩
theorem w_300 : (Jvm.Cond.instanceMethod ({ cls := "DescriptorDesk", name := "waitingInVain", desc := "()I" } : Jvm.MethodName)) ∈ x_tb := List.mem_filter.mpr ⟨List.mem_append_right _ (List.mem_of_getElem? (i := 300) (by decide +kernel)), by decide +kernel⟩
theorem w_301 : (Jvm.Cond.code ({ cls := "DescriptorDesk", name := "waitingInVain", desc := "()I" } : Jvm.MethodName) prog_1_method_51_code (3 : Nat) (Option.some Jvm.ClassFile.FieldType.int)) ∈ x_tb := List.mem_filter.mpr ⟨List.mem_append_right _ (List.mem_of_getElem? (i := 301) (by decide +kernel)), by decide +kernel⟩
theorem w_302 : (Jvm.Cond.methodLink "DescriptorDesk" (311 : Nat) ({ cls := "DescriptorDesk", name := "vainAmong", desc := "(I)I" } : Jvm.MethodName)) ∈ x_tb := List.mem_filter.mpr ⟨List.mem_append_right _ (List.mem_of_getElem? (i := 302) (by decide +kernel)), by decide +kernel⟩
theorem w_304 : (Jvm.Cond.instanceMethod ({ cls := "DescriptorDesk", name := "vainAmong", desc := "(I)I" } : Jvm.MethodName)) ∈ x_tb := List.mem_filter.mpr ⟨List.mem_append_right _ (List.mem_of_getElem? (i := 304) (by decide +kernel)), by decide +kernel⟩
theorem w_305 : (Jvm.Cond.code ({ cls := "DescriptorDesk", name := "vainAmong", desc := "(I)I" } : Jvm.MethodName) prog_1_method_52_code (5 : Nat) (Option.some Jvm.ClassFile.FieldType.int)) ∈ x_tb := List.mem_filter.mpr ⟨List.mem_append_right _ (List.mem_of_getElem? (i := 305) (by decide +kernel)), by decide +kernel⟩
theorem w_306 : (Jvm.Cond.methodLink "DescriptorDesk" (314 : Nat) ({ cls := "DescriptorDesk", name := "waitsForNoneBut", desc := "(LDescriptorDesk$Proc;I)Z" } : Jvm.MethodName)) ∈ x_tb := List.mem_filter.mpr ⟨List.mem_append_right _ (List.mem_of_getElem? (i := 306) (by decide +kernel)), by decide +kernel⟩
theorem w_308 : (Jvm.Cond.instanceMethod ({ cls := "DescriptorDesk", name := "waitsForNoneBut", desc := "(LDescriptorDesk$Proc;I)Z" } : Jvm.MethodName)) ∈ x_tb := List.mem_filter.mpr ⟨List.mem_append_right _ (List.mem_of_getElem? (i := 308) (by decide +kernel)), by decide +kernel⟩
theorem w_309 : (Jvm.Cond.code ({ cls := "DescriptorDesk", name := "waitsForNoneBut", desc := "(LDescriptorDesk$Proc;I)Z" } : Jvm.MethodName) prog_1_method_53_code (5 : Nat) (Option.some Jvm.ClassFile.FieldType.boolean)) ∈ x_tb := List.mem_filter.mpr ⟨List.mem_append_right _ (List.mem_of_getElem? (i := 309) (by decide +kernel)), by decide +kernel⟩
theorem w_310 : (Jvm.Cond.methodLink "DescriptorDesk" (318 : Nat) ({ cls := "DescriptorDesk", name := "holdersOfEnd", desc := "(LDescriptorDesk$Pipe;I)I" } : Jvm.MethodName)) ∈ x_tb := List.mem_filter.mpr ⟨List.mem_append_right _ (List.mem_of_getElem? (i := 310) (by decide +kernel)), by decide +kernel⟩
theorem w_312 : (Jvm.Cond.instanceMethod ({ cls := "DescriptorDesk", name := "holdersOfEnd", desc := "(LDescriptorDesk$Pipe;I)I" } : Jvm.MethodName)) ∈ x_tb := List.mem_filter.mpr ⟨List.mem_append_right _ (List.mem_of_getElem? (i := 312) (by decide +kernel)), by decide +kernel⟩
theorem w_313 : (Jvm.Cond.code ({ cls := "DescriptorDesk", name := "holdersOfEnd", desc := "(LDescriptorDesk$Pipe;I)I" } : Jvm.MethodName) prog_1_method_54_code (5 : Nat) (Option.some Jvm.ClassFile.FieldType.int)) ∈ x_tb := List.mem_filter.mpr ⟨List.mem_append_right _ (List.mem_of_getElem? (i := 313) (by decide +kernel)), by decide +kernel⟩
theorem w_314 : (Jvm.Cond.methodLink "DescriptorDesk" (322 : Nat) ({ cls := "DescriptorDesk$Proc", name := "holdsEnd", desc := "(LDescriptorDesk$Pipe;I)Z" } : Jvm.MethodName)) ∈ x_tb := List.mem_filter.mpr ⟨List.mem_append_right _ (List.mem_of_getElem? (i := 314) (by decide +kernel)), by decide +kernel⟩
theorem w_315 : (Jvm.Cond.instanceMethod ({ cls := "DescriptorDesk$Proc", name := "holdsEnd", desc := "(LDescriptorDesk$Pipe;I)Z" } : Jvm.MethodName)) ∈ x_tb := List.mem_filter.mpr ⟨List.mem_append_right _ (List.mem_of_getElem? (i := 315) (by decide +kernel)), by decide +kernel⟩
theorem w_316 : (Jvm.Cond.selects "DescriptorDesk$Proc" ({ cls := "DescriptorDesk$Proc", name := "holdsEnd", desc := "(LDescriptorDesk$Pipe;I)Z" } : Jvm.MethodName) ({ cls := "DescriptorDesk$Proc", name := "holdsEnd", desc := "(LDescriptorDesk$Pipe;I)Z" } : Jvm.MethodName)) ∈ x_tb := List.mem_filter.mpr ⟨List.mem_append_right _ (List.mem_of_getElem? (i := 316) (by decide +kernel)), by decide +kernel⟩
theorem w_317 : (Jvm.Cond.code ({ cls := "DescriptorDesk$Proc", name := "holdsEnd", desc := "(LDescriptorDesk$Pipe;I)Z" } : Jvm.MethodName) prog_5_method_11_code (7 : Nat) (Option.some Jvm.ClassFile.FieldType.boolean)) ∈ x_tb := List.mem_filter.mpr ⟨List.mem_append_right _ (List.mem_of_getElem? (i := 317) (by decide +kernel)), by decide +kernel⟩
theorem w_318 : (Jvm.Cond.methodLink "DescriptorDesk$Proc" (54 : Nat) ({ cls := "DescriptorDesk$Opening", name := "isEnd", desc := "(LDescriptorDesk$Pipe;I)Z" } : Jvm.MethodName)) ∈ x_tb := List.mem_filter.mpr ⟨List.mem_append_right _ (List.mem_of_getElem? (i := 318) (by decide +kernel)), by decide +kernel⟩
theorem w_319 : (Jvm.Cond.instanceMethod ({ cls := "DescriptorDesk$Opening", name := "isEnd", desc := "(LDescriptorDesk$Pipe;I)Z" } : Jvm.MethodName)) ∈ x_tb := List.mem_filter.mpr ⟨List.mem_append_right _ (List.mem_of_getElem? (i := 319) (by decide +kernel)), by decide +kernel⟩
theorem w_320 : (Jvm.Cond.selects "DescriptorDesk$Opening" ({ cls := "DescriptorDesk$Opening", name := "isEnd", desc := "(LDescriptorDesk$Pipe;I)Z" } : Jvm.MethodName) ({ cls := "DescriptorDesk$Opening", name := "isEnd", desc := "(LDescriptorDesk$Pipe;I)Z" } : Jvm.MethodName)) ∈ x_tb := List.mem_filter.mpr ⟨List.mem_append_right _ (List.mem_of_getElem? (i := 320) (by decide +kernel)), by decide +kernel⟩
theorem w_321 : (Jvm.Cond.code ({ cls := "DescriptorDesk$Opening", name := "isEnd", desc := "(LDescriptorDesk$Pipe;I)Z" } : Jvm.MethodName) prog_3_method_4_code (3 : Nat) (Option.some Jvm.ClassFile.FieldType.boolean)) ∈ x_tb := List.mem_filter.mpr ⟨List.mem_append_right _ (List.mem_of_getElem? (i := 321) (by decide +kernel)), by decide +kernel⟩
theorem w_322 : (Jvm.Cond.methodLink "DescriptorDesk" (224 : Nat) ({ cls := "java/lang/Integer", name := "bitCount", desc := "(I)I" } : Jvm.MethodName)) ∈ x_tb := List.mem_filter.mpr ⟨List.mem_append_right _ (List.mem_of_getElem? (i := 322) (by decide +kernel)), by decide +kernel⟩
theorem w_323 : (Jvm.Cond.static ({ cls := "java/lang/Integer", name := "bitCount", desc := "(I)I" } : Jvm.MethodName)) ∈ x_tb := List.mem_filter.mpr ⟨List.mem_append_right _ (List.mem_of_getElem? (i := 323) (by decide +kernel)), by decide +kernel⟩
theorem w_324 : (Jvm.Cond.code ({ cls := "java/lang/Integer", name := "bitCount", desc := "(I)I" } : Jvm.MethodName) prog_12_method_49_code (1 : Nat) (Option.some Jvm.ClassFile.FieldType.int)) ∈ x_tb := List.mem_filter.mpr ⟨List.mem_append_right _ (List.mem_of_getElem? (i := 324) (by decide +kernel)), by decide +kernel⟩
theorem w_325 : (Jvm.Cond.constant "java/lang/Integer" (265 : Nat) (1431655765 : Int32)) ∈ x_tb := List.mem_filter.mpr ⟨List.mem_append_right _ (List.mem_of_getElem? (i := 325) (by decide +kernel)), by decide +kernel⟩
theorem w_326 : (Jvm.Cond.constant "java/lang/Integer" (266 : Nat) (858993459 : Int32)) ∈ x_tb := List.mem_filter.mpr ⟨List.mem_append_right _ (List.mem_of_getElem? (i := 326) (by decide +kernel)), by decide +kernel⟩
theorem w_327 : (Jvm.Cond.constant "java/lang/Integer" (267 : Nat) (252645135 : Int32)) ∈ x_tb := List.mem_filter.mpr ⟨List.mem_append_right _ (List.mem_of_getElem? (i := 327) (by decide +kernel)), by decide +kernel⟩
theorem w_336 : (Jvm.Cond.methodLink "DescriptorDesk" (69 : Nat) ({ cls := "DescriptorDesk", name := "readyProc", desc := "(I)LDescriptorDesk$Proc;" } : Jvm.MethodName)) ∈ x_tb := List.mem_filter.mpr ⟨List.mem_append_right _ (List.mem_of_getElem? (i := 336) (by decide +kernel)), by decide +kernel⟩
theorem w_338 : (Jvm.Cond.instanceMethod ({ cls := "DescriptorDesk", name := "readyProc", desc := "(I)LDescriptorDesk$Proc;" } : Jvm.MethodName)) ∈ x_tb := List.mem_filter.mpr ⟨List.mem_append_right _ (List.mem_of_getElem? (i := 338) (by decide +kernel)), by decide +kernel⟩
theorem w_339 : (Jvm.Cond.code ({ cls := "DescriptorDesk", name := "readyProc", desc := "(I)LDescriptorDesk$Proc;" } : Jvm.MethodName) prog_1_method_21_code (3 : Nat) (Option.some (Jvm.ClassFile.FieldType.object "DescriptorDesk$Proc"))) ∈ x_tb := List.mem_filter.mpr ⟨List.mem_append_right _ (List.mem_of_getElem? (i := 339) (by decide +kernel)), by decide +kernel⟩
theorem w_340 : (Jvm.Cond.classLink "DescriptorDesk" (80 : Nat) "java/lang/IllegalStateException") ∈ x_tb := List.mem_filter.mpr ⟨List.mem_append_right _ (List.mem_of_getElem? (i := 340) (by decide +kernel)), by decide +kernel⟩
theorem w_341 : (Jvm.Cond.instantiable "java/lang/IllegalStateException" (6 : Nat)) ∈ x_tb := List.mem_filter.mpr ⟨List.mem_append_right _ (List.mem_of_getElem? (i := 341) (by decide +kernel)), by decide +kernel⟩
theorem w_415 : (Jvm.Cond.methodLink "DescriptorDesk" (87 : Nat) ({ cls := "DescriptorDesk$Proc", name := "beAbsent", desc := "()V" } : Jvm.MethodName)) ∈ x_tb := List.mem_filter.mpr ⟨List.mem_append_right _ (List.mem_of_getElem? (i := 415) (by decide +kernel)), by decide +kernel⟩
theorem w_416 : (Jvm.Cond.instanceMethod ({ cls := "DescriptorDesk$Proc", name := "beAbsent", desc := "()V" } : Jvm.MethodName)) ∈ x_tb := List.mem_filter.mpr ⟨List.mem_append_right _ (List.mem_of_getElem? (i := 416) (by decide +kernel)), by decide +kernel⟩
theorem w_417 : (Jvm.Cond.selects "DescriptorDesk$Proc" ({ cls := "DescriptorDesk$Proc", name := "beAbsent", desc := "()V" } : Jvm.MethodName) ({ cls := "DescriptorDesk$Proc", name := "beAbsent", desc := "()V" } : Jvm.MethodName)) ∈ x_tb := List.mem_filter.mpr ⟨List.mem_append_right _ (List.mem_of_getElem? (i := 417) (by decide +kernel)), by decide +kernel⟩
theorem w_418 : (Jvm.Cond.code ({ cls := "DescriptorDesk$Proc", name := "beAbsent", desc := "()V" } : Jvm.MethodName) prog_5_method_5_code (2 : Nat) (Option.none : Option Jvm.ClassFile.FieldType)) ∈ x_tb := List.mem_filter.mpr ⟨List.mem_append_right _ (List.mem_of_getElem? (i := 418) (by decide +kernel)), by decide +kernel⟩
theorem w_419 : (Jvm.Cond.methodLink "DescriptorDesk" (90 : Nat) ({ cls := "DescriptorDesk", name := "wakeAll", desc := "()I" } : Jvm.MethodName)) ∈ x_tb := List.mem_filter.mpr ⟨List.mem_append_right _ (List.mem_of_getElem? (i := 419) (by decide +kernel)), by decide +kernel⟩
theorem w_421 : (Jvm.Cond.instanceMethod ({ cls := "DescriptorDesk", name := "wakeAll", desc := "()I" } : Jvm.MethodName)) ∈ x_tb := List.mem_filter.mpr ⟨List.mem_append_right _ (List.mem_of_getElem? (i := 421) (by decide +kernel)), by decide +kernel⟩
theorem w_422 : (Jvm.Cond.code ({ cls := "DescriptorDesk", name := "wakeAll", desc := "()I" } : Jvm.MethodName) prog_1_method_40_code (6 : Nat) (Option.some Jvm.ClassFile.FieldType.int)) ∈ x_tb := List.mem_filter.mpr ⟨List.mem_append_right _ (List.mem_of_getElem? (i := 422) (by decide +kernel)), by decide +kernel⟩
theorem w_423 : (Jvm.Cond.methodLink "DescriptorDesk" (304 : Nat) ({ cls := "DescriptorDesk", name := "mustWait", desc := "(LDescriptorDesk$Proc;)Z" } : Jvm.MethodName)) ∈ x_tb := List.mem_filter.mpr ⟨List.mem_append_right _ (List.mem_of_getElem? (i := 423) (by decide +kernel)), by decide +kernel⟩
theorem w_425 : (Jvm.Cond.instanceMethod ({ cls := "DescriptorDesk", name := "mustWait", desc := "(LDescriptorDesk$Proc;)Z" } : Jvm.MethodName)) ∈ x_tb := List.mem_filter.mpr ⟨List.mem_append_right _ (List.mem_of_getElem? (i := 425) (by decide +kernel)), by decide +kernel⟩
theorem w_426 : (Jvm.Cond.code ({ cls := "DescriptorDesk", name := "mustWait", desc := "(LDescriptorDesk$Proc;)Z" } : Jvm.MethodName) prog_1_method_41_code (4 : Nat) (Option.some Jvm.ClassFile.FieldType.boolean)) ∈ x_tb := List.mem_filter.mpr ⟨List.mem_append_right _ (List.mem_of_getElem? (i := 426) (by decide +kernel)), by decide +kernel⟩
theorem w_427 : (Jvm.Cond.methodLink "DescriptorDesk" (125 : Nat) ({ cls := "DescriptorDesk", name := "hindranceToRead", desc := "(LDescriptorDesk$Opening;I)I" } : Jvm.MethodName)) ∈ x_tb := List.mem_filter.mpr ⟨List.mem_append_right _ (List.mem_of_getElem? (i := 427) (by decide +kernel)), by decide +kernel⟩
theorem w_429 : (Jvm.Cond.instanceMethod ({ cls := "DescriptorDesk", name := "hindranceToRead", desc := "(LDescriptorDesk$Opening;I)I" } : Jvm.MethodName)) ∈ x_tb := List.mem_filter.mpr ⟨List.mem_append_right _ (List.mem_of_getElem? (i := 429) (by decide +kernel)), by decide +kernel⟩
theorem w_430 : (Jvm.Cond.code ({ cls := "DescriptorDesk", name := "hindranceToRead", desc := "(LDescriptorDesk$Opening;I)I" } : Jvm.MethodName) prog_1_method_30_code (3 : Nat) (Option.some Jvm.ClassFile.FieldType.int)) ∈ x_tb := List.mem_filter.mpr ⟨List.mem_append_right _ (List.mem_of_getElem? (i := 430) (by decide +kernel)), by decide +kernel⟩
theorem w_431 : (Jvm.Cond.methodLink "DescriptorDesk" (141 : Nat) ({ cls := "DescriptorDesk", name := "hindranceToWrite", desc := "(LDescriptorDesk$Opening;I)I" } : Jvm.MethodName)) ∈ x_tb := List.mem_filter.mpr ⟨List.mem_append_right _ (List.mem_of_getElem? (i := 431) (by decide +kernel)), by decide +kernel⟩
theorem w_432 : (Jvm.Cond.static ({ cls := "DescriptorDesk", name := "hindranceToWrite", desc := "(LDescriptorDesk$Opening;I)I" } : Jvm.MethodName)) ∈ x_tb := List.mem_filter.mpr ⟨List.mem_append_right _ (List.mem_of_getElem? (i := 432) (by decide +kernel)), by decide +kernel⟩
theorem w_433 : (Jvm.Cond.code ({ cls := "DescriptorDesk", name := "hindranceToWrite", desc := "(LDescriptorDesk$Opening;I)I" } : Jvm.MethodName) prog_1_method_31_code (2 : Nat) (Option.some Jvm.ClassFile.FieldType.int)) ∈ x_tb := List.mem_filter.mpr ⟨List.mem_append_right _ (List.mem_of_getElem? (i := 433) (by decide +kernel)), by decide +kernel⟩
theorem w_434 : (Jvm.Cond.methodLink "DescriptorDesk" (259 : Nat) ({ cls := "DescriptorDesk", name := "placeToWrite", desc := "(LDescriptorDesk$Opening;LDescriptorDesk$StoredFile;)I" } : Jvm.MethodName)) ∈ x_tb := List.mem_filter.mpr ⟨List.mem_append_right _ (List.mem_of_getElem? (i := 434) (by decide +kernel)), by decide +kernel⟩
theorem w_435 : (Jvm.Cond.static ({ cls := "DescriptorDesk", name := "placeToWrite", desc := "(LDescriptorDesk$Opening;LDescriptorDesk$StoredFile;)I" } : Jvm.MethodName)) ∈ x_tb := List.mem_filter.mpr ⟨List.mem_append_right _ (List.mem_of_getElem? (i := 435) (by decide +kernel)), by decide +kernel⟩
theorem w_436 : (Jvm.Cond.code ({ cls := "DescriptorDesk", name := "placeToWrite", desc := "(LDescriptorDesk$Opening;LDescriptorDesk$StoredFile;)I" } : Jvm.MethodName) prog_1_method_32_code (2 : Nat) (Option.some Jvm.ClassFile.FieldType.int)) ∈ x_tb := List.mem_filter.mpr ⟨List.mem_append_right _ (List.mem_of_getElem? (i := 436) (by decide +kernel)), by decide +kernel⟩
theorem w_437 : (Jvm.Cond.methodLink "DescriptorDesk" (308 : Nat) ({ cls := "DescriptorDesk$Proc", name := "beReady", desc := "()V" } : Jvm.MethodName)) ∈ x_tb := List.mem_filter.mpr ⟨List.mem_append_right _ (List.mem_of_getElem? (i := 437) (by decide +kernel)), by decide +kernel⟩
theorem w_446 : (Jvm.Cond.methodLink "DescriptorDesk" (93 : Nat) ({ cls := "DescriptorDesk", name := "checkName", desc := "(I)V" } : Jvm.MethodName)) ∈ x_tb := List.mem_filter.mpr ⟨List.mem_append_right _ (List.mem_of_getElem? (i := 446) (by decide +kernel)), by decide +kernel⟩
theorem w_447 : (Jvm.Cond.static ({ cls := "DescriptorDesk", name := "checkName", desc := "(I)V" } : Jvm.MethodName)) ∈ x_tb := List.mem_filter.mpr ⟨List.mem_append_right _ (List.mem_of_getElem? (i := 447) (by decide +kernel)), by decide +kernel⟩
theorem w_448 : (Jvm.Cond.code ({ cls := "DescriptorDesk", name := "checkName", desc := "(I)V" } : Jvm.MethodName) prog_1_method_22_code (1 : Nat) (Option.none : Option Jvm.ClassFile.FieldType)) ∈ x_tb := List.mem_filter.mpr ⟨List.mem_append_right _ (List.mem_of_getElem? (i := 448) (by decide +kernel)), by decide +kernel⟩
theorem w_449 : (Jvm.Cond.classLink "DescriptorDesk" (151 : Nat) "java/lang/IllegalArgumentException") ∈ x_tb := List.mem_filter.mpr ⟨List.mem_append_right _ (List.mem_of_getElem? (i := 449) (by decide +kernel)), by decide +kernel⟩
theorem w_450 : (Jvm.Cond.instantiable "java/lang/IllegalArgumentException" (6 : Nat)) ∈ x_tb := List.mem_filter.mpr ⟨List.mem_append_right _ (List.mem_of_getElem? (i := 450) (by decide +kernel)), by decide +kernel⟩
theorem w_465 : (Jvm.Cond.methodLink "DescriptorDesk" (97 : Nat) ({ cls := "DescriptorDesk", name := "checkHow", desc := "(I)V" } : Jvm.MethodName)) ∈ x_tb := List.mem_filter.mpr ⟨List.mem_append_right _ (List.mem_of_getElem? (i := 465) (by decide +kernel)), by decide +kernel⟩
theorem w_466 : (Jvm.Cond.static ({ cls := "DescriptorDesk", name := "checkHow", desc := "(I)V" } : Jvm.MethodName)) ∈ x_tb := List.mem_filter.mpr ⟨List.mem_append_right _ (List.mem_of_getElem? (i := 466) (by decide +kernel)), by decide +kernel⟩
theorem w_467 : (Jvm.Cond.code ({ cls := "DescriptorDesk", name := "checkHow", desc := "(I)V" } : Jvm.MethodName) prog_1_method_24_code (6 : Nat) (Option.none : Option Jvm.ClassFile.FieldType)) ∈ x_tb := List.mem_filter.mpr ⟨List.mem_append_right _ (List.mem_of_getElem? (i := 467) (by decide +kernel)), by decide +kernel⟩
theorem w_469 : (Jvm.Cond.methodLink "DescriptorDesk" (100 : Nat) ({ cls := "DescriptorDesk", name := "fileNamed", desc := "(I)LDescriptorDesk$StoredFile;" } : Jvm.MethodName)) ∈ x_tb := List.mem_filter.mpr ⟨List.mem_append_right _ (List.mem_of_getElem? (i := 469) (by decide +kernel)), by decide +kernel⟩
theorem w_471 : (Jvm.Cond.instanceMethod ({ cls := "DescriptorDesk", name := "fileNamed", desc := "(I)LDescriptorDesk$StoredFile;" } : Jvm.MethodName)) ∈ x_tb := List.mem_filter.mpr ⟨List.mem_append_right _ (List.mem_of_getElem? (i := 471) (by decide +kernel)), by decide +kernel⟩
theorem w_472 : (Jvm.Cond.code ({ cls := "DescriptorDesk", name := "fileNamed", desc := "(I)LDescriptorDesk$StoredFile;" } : Jvm.MethodName) prog_1_method_29_code (6 : Nat) (Option.some (Jvm.ClassFile.FieldType.object "DescriptorDesk$StoredFile"))) ∈ x_tb := List.mem_filter.mpr ⟨List.mem_append_right _ (List.mem_of_getElem? (i := 472) (by decide +kernel)), by decide +kernel⟩
theorem w_473 : (Jvm.Cond.methodLink "DescriptorDesk" (104 : Nat) ({ cls := "DescriptorDesk", name := "freeFile", desc := "()LDescriptorDesk$StoredFile;" } : Jvm.MethodName)) ∈ x_tb := List.mem_filter.mpr ⟨List.mem_append_right _ (List.mem_of_getElem? (i := 473) (by decide +kernel)), by decide +kernel⟩
theorem w_475 : (Jvm.Cond.instanceMethod ({ cls := "DescriptorDesk", name := "freeFile", desc := "()LDescriptorDesk$StoredFile;" } : Jvm.MethodName)) ∈ x_tb := List.mem_filter.mpr ⟨List.mem_append_right _ (List.mem_of_getElem? (i := 475) (by decide +kernel)), by decide +kernel⟩
theorem w_476 : (Jvm.Cond.code ({ cls := "DescriptorDesk", name := "freeFile", desc := "()LDescriptorDesk$StoredFile;" } : Jvm.MethodName) prog_1_method_28_code (5 : Nat) (Option.some (Jvm.ClassFile.FieldType.object "DescriptorDesk$StoredFile"))) ∈ x_tb := List.mem_filter.mpr ⟨List.mem_append_right _ (List.mem_of_getElem? (i := 476) (by decide +kernel)), by decide +kernel⟩
theorem w_477 : (Jvm.Cond.methodLink "DescriptorDesk" (108 : Nat) ({ cls := "DescriptorDesk$Proc", name := "freeFrom", desc := "(I)I" } : Jvm.MethodName)) ∈ x_tb := List.mem_filter.mpr ⟨List.mem_append_right _ (List.mem_of_getElem? (i := 477) (by decide +kernel)), by decide +kernel⟩
theorem w_478 : (Jvm.Cond.instanceMethod ({ cls := "DescriptorDesk$Proc", name := "freeFrom", desc := "(I)I" } : Jvm.MethodName)) ∈ x_tb := List.mem_filter.mpr ⟨List.mem_append_right _ (List.mem_of_getElem? (i := 478) (by decide +kernel)), by decide +kernel⟩
theorem w_479 : (Jvm.Cond.selects "DescriptorDesk$Proc" ({ cls := "DescriptorDesk$Proc", name := "freeFrom", desc := "(I)I" } : Jvm.MethodName) ({ cls := "DescriptorDesk$Proc", name := "freeFrom", desc := "(I)I" } : Jvm.MethodName)) ∈ x_tb := List.mem_filter.mpr ⟨List.mem_append_right _ (List.mem_of_getElem? (i := 479) (by decide +kernel)), by decide +kernel⟩
theorem w_480 : (Jvm.Cond.code ({ cls := "DescriptorDesk$Proc", name := "freeFrom", desc := "(I)I" } : Jvm.MethodName) prog_5_method_8_code (3 : Nat) (Option.some Jvm.ClassFile.FieldType.int)) ∈ x_tb := List.mem_filter.mpr ⟨List.mem_append_right _ (List.mem_of_getElem? (i := 480) (by decide +kernel)), by decide +kernel⟩
theorem w_481 : (Jvm.Cond.methodLink "DescriptorDesk$Proc" (38 : Nat) ({ cls := "java/lang/Math", name := "max", desc := "(II)I" } : Jvm.MethodName)) ∈ x_tb := List.mem_filter.mpr ⟨List.mem_append_right _ (List.mem_of_getElem? (i := 481) (by decide +kernel)), by decide +kernel⟩
theorem w_482 : (Jvm.Cond.static ({ cls := "java/lang/Math", name := "max", desc := "(II)I" } : Jvm.MethodName)) ∈ x_tb := List.mem_filter.mpr ⟨List.mem_append_right _ (List.mem_of_getElem? (i := 482) (by decide +kernel)), by decide +kernel⟩
theorem w_483 : (Jvm.Cond.code ({ cls := "java/lang/Math", name := "max", desc := "(II)I" } : Jvm.MethodName) prog_13_method_65_code (2 : Nat) (Option.some Jvm.ClassFile.FieldType.int)) ∈ x_tb := List.mem_filter.mpr ⟨List.mem_append_right _ (List.mem_of_getElem? (i := 483) (by decide +kernel)), by decide +kernel⟩
theorem w_491 : (Jvm.Cond.methodLink "DescriptorDesk" (118 : Nat) ({ cls := "DescriptorDesk", name := "freePipe", desc := "()LDescriptorDesk$Pipe;" } : Jvm.MethodName)) ∈ x_tb := List.mem_filter.mpr ⟨List.mem_append_right _ (List.mem_of_getElem? (i := 491) (by decide +kernel)), by decide +kernel⟩
theorem w_493 : (Jvm.Cond.instanceMethod ({ cls := "DescriptorDesk", name := "freePipe", desc := "()LDescriptorDesk$Pipe;" } : Jvm.MethodName)) ∈ x_tb := List.mem_filter.mpr ⟨List.mem_append_right _ (List.mem_of_getElem? (i := 493) (by decide +kernel)), by decide +kernel⟩
theorem w_494 : (Jvm.Cond.code ({ cls := "DescriptorDesk", name := "freePipe", desc := "()LDescriptorDesk$Pipe;" } : Jvm.MethodName) prog_1_method_27_code (5 : Nat) (Option.some (Jvm.ClassFile.FieldType.object "DescriptorDesk$Pipe"))) ∈ x_tb := List.mem_filter.mpr ⟨List.mem_append_right _ (List.mem_of_getElem? (i := 494) (by decide +kernel)), by decide +kernel⟩
theorem w_502 : (Jvm.Cond.methodLink "DescriptorDesk" (122 : Nat) ({ cls := "DescriptorDesk", name := "checkAmount", desc := "(I)V" } : Jvm.MethodName)) ∈ x_tb := List.mem_filter.mpr ⟨List.mem_append_right _ (List.mem_of_getElem? (i := 502) (by decide +kernel)), by decide +kernel⟩
theorem w_503 : (Jvm.Cond.static ({ cls := "DescriptorDesk", name := "checkAmount", desc := "(I)V" } : Jvm.MethodName)) ∈ x_tb := List.mem_filter.mpr ⟨List.mem_append_right _ (List.mem_of_getElem? (i := 503) (by decide +kernel)), by decide +kernel⟩
theorem w_504 : (Jvm.Cond.code ({ cls := "DescriptorDesk", name := "checkAmount", desc := "(I)V" } : Jvm.MethodName) prog_1_method_23_code (1 : Nat) (Option.none : Option Jvm.ClassFile.FieldType)) ∈ x_tb := List.mem_filter.mpr ⟨List.mem_append_right _ (List.mem_of_getElem? (i := 504) (by decide +kernel)), by decide +kernel⟩
theorem w_506 : (Jvm.Cond.methodLink "DescriptorDesk" (129 : Nat) ({ cls := "DescriptorDesk$Proc", name := "beWaiting", desc := "(III)V" } : Jvm.MethodName)) ∈ x_tb := List.mem_filter.mpr ⟨List.mem_append_right _ (List.mem_of_getElem? (i := 506) (by decide +kernel)), by decide +kernel⟩
theorem w_507 : (Jvm.Cond.instanceMethod ({ cls := "DescriptorDesk$Proc", name := "beWaiting", desc := "(III)V" } : Jvm.MethodName)) ∈ x_tb := List.mem_filter.mpr ⟨List.mem_append_right _ (List.mem_of_getElem? (i := 507) (by decide +kernel)), by decide +kernel⟩
theorem w_508 : (Jvm.Cond.selects "DescriptorDesk$Proc" ({ cls := "DescriptorDesk$Proc", name := "beWaiting", desc := "(III)V" } : Jvm.MethodName) ({ cls := "DescriptorDesk$Proc", name := "beWaiting", desc := "(III)V" } : Jvm.MethodName)) ∈ x_tb := List.mem_filter.mpr ⟨List.mem_append_right _ (List.mem_of_getElem? (i := 508) (by decide +kernel)), by decide +kernel⟩
theorem w_509 : (Jvm.Cond.code ({ cls := "DescriptorDesk$Proc", name := "beWaiting", desc := "(III)V" } : Jvm.MethodName) prog_5_method_4_code (4 : Nat) (Option.none : Option Jvm.ClassFile.FieldType)) ∈ x_tb := List.mem_filter.mpr ⟨List.mem_append_right _ (List.mem_of_getElem? (i := 509) (by decide +kernel)), by decide +kernel⟩
theorem w_510 : (Jvm.Cond.methodLink "DescriptorDesk" (137 : Nat) ({ cls := "DescriptorDesk", name := "take", desc := "(LDescriptorDesk$Proc;LDescriptorDesk$Opening;I)I" } : Jvm.MethodName)) ∈ x_tb := List.mem_filter.mpr ⟨List.mem_append_right _ (List.mem_of_getElem? (i := 510) (by decide +kernel)), by decide +kernel⟩
theorem w_512 : (Jvm.Cond.instanceMethod ({ cls := "DescriptorDesk", name := "take", desc := "(LDescriptorDesk$Proc;LDescriptorDesk$Opening;I)I" } : Jvm.MethodName)) ∈ x_tb := List.mem_filter.mpr ⟨List.mem_append_right _ (List.mem_of_getElem? (i := 512) (by decide +kernel)), by decide +kernel⟩
theorem w_513 : (Jvm.Cond.code ({ cls := "DescriptorDesk", name := "take", desc := "(LDescriptorDesk$Proc;LDescriptorDesk$Opening;I)I" } : Jvm.MethodName) prog_1_method_33_code (4 : Nat) (Option.some Jvm.ClassFile.FieldType.int)) ∈ x_tb := List.mem_filter.mpr ⟨List.mem_append_right _ (List.mem_of_getElem? (i := 513) (by decide +kernel)), by decide +kernel⟩
theorem w_514 : (Jvm.Cond.methodLink "DescriptorDesk" (263 : Nat) ({ cls := "DescriptorDesk", name := "takeFromPipe", desc := "(LDescriptorDesk$Proc;LDescriptorDesk$Pipe;I)I" } : Jvm.MethodName)) ∈ x_tb := List.mem_filter.mpr ⟨List.mem_append_right _ (List.mem_of_getElem? (i := 514) (by decide +kernel)), by decide +kernel⟩
theorem w_515 : (Jvm.Cond.static ({ cls := "DescriptorDesk", name := "takeFromPipe", desc := "(LDescriptorDesk$Proc;LDescriptorDesk$Pipe;I)I" } : Jvm.MethodName)) ∈ x_tb := List.mem_filter.mpr ⟨List.mem_append_right _ (List.mem_of_getElem? (i := 515) (by decide +kernel)), by decide +kernel⟩
theorem w_516 : (Jvm.Cond.code ({ cls := "DescriptorDesk", name := "takeFromPipe", desc := "(LDescriptorDesk$Proc;LDescriptorDesk$Pipe;I)I" } : Jvm.MethodName) prog_1_method_34_code (5 : Nat) (Option.some Jvm.ClassFile.FieldType.int)) ∈ x_tb := List.mem_filter.mpr ⟨List.mem_append_right _ (List.mem_of_getElem? (i := 516) (by decide +kernel)), by decide +kernel⟩
theorem w_517 : (Jvm.Cond.methodLink "DescriptorDesk" (275 : Nat) ({ cls := "java/lang/Math", name := "min", desc := "(II)I" } : Jvm.MethodName)) ∈ x_tb := List.mem_filter.mpr ⟨List.mem_append_right _ (List.mem_of_getElem? (i := 517) (by decide +kernel)), by decide +kernel⟩
theorem w_518 : (Jvm.Cond.static ({ cls := "java/lang/Math", name := "min", desc := "(II)I" } : Jvm.MethodName)) ∈ x_tb := List.mem_filter.mpr ⟨List.mem_append_right _ (List.mem_of_getElem? (i := 518) (by decide +kernel)), by decide +kernel⟩
theorem w_519 : (Jvm.Cond.code ({ cls := "java/lang/Math", name := "min", desc := "(II)I" } : Jvm.MethodName) prog_13_method_69_code (2 : Nat) (Option.some Jvm.ClassFile.FieldType.int)) ∈ x_tb := List.mem_filter.mpr ⟨List.mem_append_right _ (List.mem_of_getElem? (i := 519) (by decide +kernel)), by decide +kernel⟩
theorem w_520 : (Jvm.Cond.methodLink "DescriptorDesk" (281 : Nat) ({ cls := "DescriptorDesk$ByteRow", name := "takeFirst", desc := "()I" } : Jvm.MethodName)) ∈ x_tb := List.mem_filter.mpr ⟨List.mem_append_right _ (List.mem_of_getElem? (i := 520) (by decide +kernel)), by decide +kernel⟩
theorem w_521 : (Jvm.Cond.instanceMethod ({ cls := "DescriptorDesk$ByteRow", name := "takeFirst", desc := "()I" } : Jvm.MethodName)) ∈ x_tb := List.mem_filter.mpr ⟨List.mem_append_right _ (List.mem_of_getElem? (i := 521) (by decide +kernel)), by decide +kernel⟩
theorem w_522 : (Jvm.Cond.selects "DescriptorDesk$ByteRow" ({ cls := "DescriptorDesk$ByteRow", name := "takeFirst", desc := "()I" } : Jvm.MethodName) ({ cls := "DescriptorDesk$ByteRow", name := "takeFirst", desc := "()I" } : Jvm.MethodName)) ∈ x_tb := List.mem_filter.mpr ⟨List.mem_append_right _ (List.mem_of_getElem? (i := 522) (by decide +kernel)), by decide +kernel⟩
theorem w_523 : (Jvm.Cond.code ({ cls := "DescriptorDesk$ByteRow", name := "takeFirst", desc := "()I" } : Jvm.MethodName) prog_2_method_4_code (2 : Nat) (Option.some Jvm.ClassFile.FieldType.int)) ∈ x_tb := List.mem_filter.mpr ⟨List.mem_append_right _ (List.mem_of_getElem? (i := 523) (by decide +kernel)), by decide +kernel⟩
theorem w_524 : (Jvm.Cond.methodLink "DescriptorDesk" (284 : Nat) ({ cls := "DescriptorDesk$Proc", name := "getByte", desc := "(I)V" } : Jvm.MethodName)) ∈ x_tb := List.mem_filter.mpr ⟨List.mem_append_right _ (List.mem_of_getElem? (i := 524) (by decide +kernel)), by decide +kernel⟩
theorem w_525 : (Jvm.Cond.instanceMethod ({ cls := "DescriptorDesk$Proc", name := "getByte", desc := "(I)V" } : Jvm.MethodName)) ∈ x_tb := List.mem_filter.mpr ⟨List.mem_append_right _ (List.mem_of_getElem? (i := 525) (by decide +kernel)), by decide +kernel⟩
theorem w_526 : (Jvm.Cond.selects "DescriptorDesk$Proc" ({ cls := "DescriptorDesk$Proc", name := "getByte", desc := "(I)V" } : Jvm.MethodName) ({ cls := "DescriptorDesk$Proc", name := "getByte", desc := "(I)V" } : Jvm.MethodName)) ∈ x_tb := List.mem_filter.mpr ⟨List.mem_append_right _ (List.mem_of_getElem? (i := 526) (by decide +kernel)), by decide +kernel⟩
theorem w_527 : (Jvm.Cond.code ({ cls := "DescriptorDesk$Proc", name := "getByte", desc := "(I)V" } : Jvm.MethodName) prog_5_method_12_code (2 : Nat) (Option.none : Option Jvm.ClassFile.FieldType)) ∈ x_tb := List.mem_filter.mpr ⟨List.mem_append_right _ (List.mem_of_getElem? (i := 527) (by decide +kernel)), by decide +kernel⟩
theorem w_528 : (Jvm.Cond.methodLink "DescriptorDesk" (267 : Nat) ({ cls := "DescriptorDesk", name := "takeFromFile", desc := "(LDescriptorDesk$Proc;LDescriptorDesk$Opening;LDescriptorDesk$StoredFile;I)I" } : Jvm.MethodName)) ∈ x_tb := List.mem_filter.mpr ⟨List.mem_append_right _ (List.mem_of_getElem? (i := 528) (by decide +kernel)), by decide +kernel⟩
theorem w_529 : (Jvm.Cond.static ({ cls := "DescriptorDesk", name := "takeFromFile", desc := "(LDescriptorDesk$Proc;LDescriptorDesk$Opening;LDescriptorDesk$StoredFile;I)I" } : Jvm.MethodName)) ∈ x_tb := List.mem_filter.mpr ⟨List.mem_append_right _ (List.mem_of_getElem? (i := 529) (by decide +kernel)), by decide +kernel⟩
theorem w_530 : (Jvm.Cond.code ({ cls := "DescriptorDesk", name := "takeFromFile", desc := "(LDescriptorDesk$Proc;LDescriptorDesk$Opening;LDescriptorDesk$StoredFile;I)I" } : Jvm.MethodName) prog_1_method_35_code (6 : Nat) (Option.some Jvm.ClassFile.FieldType.int)) ∈ x_tb := List.mem_filter.mpr ⟨List.mem_append_right _ (List.mem_of_getElem? (i := 530) (by decide +kernel)), by decide +kernel⟩
theorem w_531 : (Jvm.Cond.methodLink "DescriptorDesk" (287 : Nat) ({ cls := "java/lang/Math", name := "max", desc := "(II)I" } : Jvm.MethodName)) ∈ x_tb := List.mem_filter.mpr ⟨List.mem_append_right _ (List.mem_of_getElem? (i := 531) (by decide +kernel)), by decide +kernel⟩
theorem w_532 : (Jvm.Cond.methodLink "DescriptorDesk" (290 : Nat) ({ cls := "DescriptorDesk$StoredFile", name := "byteAt", desc := "(I)I" } : Jvm.MethodName)) ∈ x_tb := List.mem_filter.mpr ⟨List.mem_append_right _ (List.mem_of_getElem? (i := 532) (by decide +kernel)), by decide +kernel⟩
theorem w_533 : (Jvm.Cond.instanceMethod ({ cls := "DescriptorDesk$StoredFile", name := "byteAt", desc := "(I)I" } : Jvm.MethodName)) ∈ x_tb := List.mem_filter.mpr ⟨List.mem_append_right _ (List.mem_of_getElem? (i := 533) (by decide +kernel)), by decide +kernel⟩
theorem w_534 : (Jvm.Cond.selects "DescriptorDesk$StoredFile" ({ cls := "DescriptorDesk$StoredFile", name := "byteAt", desc := "(I)I" } : Jvm.MethodName) ({ cls := "DescriptorDesk$StoredFile", name := "byteAt", desc := "(I)I" } : Jvm.MethodName)) ∈ x_tb := List.mem_filter.mpr ⟨List.mem_append_right _ (List.mem_of_getElem? (i := 534) (by decide +kernel)), by decide +kernel⟩
theorem w_535 : (Jvm.Cond.code ({ cls := "DescriptorDesk$StoredFile", name := "byteAt", desc := "(I)I" } : Jvm.MethodName) prog_6_method_3_code (2 : Nat) (Option.some Jvm.ClassFile.FieldType.int)) ∈ x_tb := List.mem_filter.mpr ⟨List.mem_append_right _ (List.mem_of_getElem? (i := 535) (by decide +kernel)), by decide +kernel⟩
theorem w_536 : (Jvm.Cond.methodLink "DescriptorDesk" (271 : Nat) ({ cls := "DescriptorDesk", name := "takeFromConsole", desc := "(LDescriptorDesk$Proc;I)I" } : Jvm.MethodName)) ∈ x_tb := List.mem_filter.mpr ⟨List.mem_append_right _ (List.mem_of_getElem? (i := 536) (by decide +kernel)), by decide +kernel⟩
theorem w_538 : (Jvm.Cond.instanceMethod ({ cls := "DescriptorDesk", name := "takeFromConsole", desc := "(LDescriptorDesk$Proc;I)I" } : Jvm.MethodName)) ∈ x_tb := List.mem_filter.mpr ⟨List.mem_append_right _ (List.mem_of_getElem? (i := 538) (by decide +kernel)), by decide +kernel⟩
theorem w_539 : (Jvm.Cond.code ({ cls := "DescriptorDesk", name := "takeFromConsole", desc := "(LDescriptorDesk$Proc;I)I" } : Jvm.MethodName) prog_1_method_36_code (6 : Nat) (Option.some Jvm.ClassFile.FieldType.int)) ∈ x_tb := List.mem_filter.mpr ⟨List.mem_append_right _ (List.mem_of_getElem? (i := 539) (by decide +kernel)), by decide +kernel⟩
theorem w_547 : (Jvm.Cond.methodLink "DescriptorDesk" (144 : Nat) ({ cls := "DescriptorDesk", name := "put", desc := "(LDescriptorDesk$Opening;JI)V" } : Jvm.MethodName)) ∈ x_tb := List.mem_filter.mpr ⟨List.mem_append_right _ (List.mem_of_getElem? (i := 547) (by decide +kernel)), by decide +kernel⟩
theorem w_549 : (Jvm.Cond.instanceMethod ({ cls := "DescriptorDesk", name := "put", desc := "(LDescriptorDesk$Opening;JI)V" } : Jvm.MethodName)) ∈ x_tb := List.mem_filter.mpr ⟨List.mem_append_right _ (List.mem_of_getElem? (i := 549) (by decide +kernel)), by decide +kernel⟩
theorem w_550 : (Jvm.Cond.code ({ cls := "DescriptorDesk", name := "put", desc := "(LDescriptorDesk$Opening;JI)V" } : Jvm.MethodName) prog_1_method_37_code (6 : Nat) (Option.none : Option Jvm.ClassFile.FieldType)) ∈ x_tb := List.mem_filter.mpr ⟨List.mem_append_right _ (List.mem_of_getElem? (i := 550) (by decide +kernel)), by decide +kernel⟩
theorem w_551 : (Jvm.Cond.methodLink "DescriptorDesk" (291 : Nat) ({ cls := "DescriptorDesk", name := "putByte", desc := "(LDescriptorDesk$Opening;I)V" } : Jvm.MethodName)) ∈ x_tb := List.mem_filter.mpr ⟨List.mem_append_right _ (List.mem_of_getElem? (i := 551) (by decide +kernel)), by decide +kernel⟩
theorem w_553 : (Jvm.Cond.instanceMethod ({ cls := "DescriptorDesk", name := "putByte", desc := "(LDescriptorDesk$Opening;I)V" } : Jvm.MethodName)) ∈ x_tb := List.mem_filter.mpr ⟨List.mem_append_right _ (List.mem_of_getElem? (i := 553) (by decide +kernel)), by decide +kernel⟩
theorem w_554 : (Jvm.Cond.code ({ cls := "DescriptorDesk", name := "putByte", desc := "(LDescriptorDesk$Opening;I)V" } : Jvm.MethodName) prog_1_method_38_code (3 : Nat) (Option.none : Option Jvm.ClassFile.FieldType)) ∈ x_tb := List.mem_filter.mpr ⟨List.mem_append_right _ (List.mem_of_getElem? (i := 554) (by decide +kernel)), by decide +kernel⟩
theorem w_555 : (Jvm.Cond.methodLink "DescriptorDesk" (172 : Nat) ({ cls := "DescriptorDesk$ByteRow", name := "addLast", desc := "(I)V" } : Jvm.MethodName)) ∈ x_tb := List.mem_filter.mpr ⟨List.mem_append_right _ (List.mem_of_getElem? (i := 555) (by decide +kernel)), by decide +kernel⟩
theorem w_556 : (Jvm.Cond.instanceMethod ({ cls := "DescriptorDesk$ByteRow", name := "addLast", desc := "(I)V" } : Jvm.MethodName)) ∈ x_tb := List.mem_filter.mpr ⟨List.mem_append_right _ (List.mem_of_getElem? (i := 556) (by decide +kernel)), by decide +kernel⟩
theorem w_557 : (Jvm.Cond.selects "DescriptorDesk$ByteRow" ({ cls := "DescriptorDesk$ByteRow", name := "addLast", desc := "(I)V" } : Jvm.MethodName) ({ cls := "DescriptorDesk$ByteRow", name := "addLast", desc := "(I)V" } : Jvm.MethodName)) ∈ x_tb := List.mem_filter.mpr ⟨List.mem_append_right _ (List.mem_of_getElem? (i := 557) (by decide +kernel)), by decide +kernel⟩
theorem w_558 : (Jvm.Cond.code ({ cls := "DescriptorDesk$ByteRow", name := "addLast", desc := "(I)V" } : Jvm.MethodName) prog_2_method_3_code (2 : Nat) (Option.none : Option Jvm.ClassFile.FieldType)) ∈ x_tb := List.mem_filter.mpr ⟨List.mem_append_right _ (List.mem_of_getElem? (i := 558) (by decide +kernel)), by decide +kernel⟩
theorem w_559 : (Jvm.Cond.methodLink "DescriptorDesk" (295 : Nat) ({ cls := "DescriptorDesk$StoredFile", name := "put", desc := "(II)V" } : Jvm.MethodName)) ∈ x_tb := List.mem_filter.mpr ⟨List.mem_append_right _ (List.mem_of_getElem? (i := 559) (by decide +kernel)), by decide +kernel⟩
theorem w_560 : (Jvm.Cond.instanceMethod ({ cls := "DescriptorDesk$StoredFile", name := "put", desc := "(II)V" } : Jvm.MethodName)) ∈ x_tb := List.mem_filter.mpr ⟨List.mem_append_right _ (List.mem_of_getElem? (i := 560) (by decide +kernel)), by decide +kernel⟩
theorem w_561 : (Jvm.Cond.selects "DescriptorDesk$StoredFile" ({ cls := "DescriptorDesk$StoredFile", name := "put", desc := "(II)V" } : Jvm.MethodName) ({ cls := "DescriptorDesk$StoredFile", name := "put", desc := "(II)V" } : Jvm.MethodName)) ∈ x_tb := List.mem_filter.mpr ⟨List.mem_append_right _ (List.mem_of_getElem? (i := 561) (by decide +kernel)), by decide +kernel⟩
theorem w_562 : (Jvm.Cond.code ({ cls := "DescriptorDesk$StoredFile", name := "put", desc := "(II)V" } : Jvm.MethodName) prog_6_method_4_code (4 : Nat) (Option.none : Option Jvm.ClassFile.FieldType)) ∈ x_tb := List.mem_filter.mpr ⟨List.mem_append_right _ (List.mem_of_getElem? (i := 562) (by decide +kernel)), by decide +kernel⟩
theorem w_563 : (Jvm.Cond.methodLink "DescriptorDesk$StoredFile" (25 : Nat) ({ cls := "java/lang/Math", name := "max", desc := "(II)I" } : Jvm.MethodName)) ∈ x_tb := List.mem_filter.mpr ⟨List.mem_append_right _ (List.mem_of_getElem? (i := 563) (by decide +kernel)), by decide +kernel⟩
theorem w_564 : (Jvm.Cond.methodLink "DescriptorDesk" (298 : Nat) ({ cls := "DescriptorDesk", name := "showByte", desc := "(I)V" } : Jvm.MethodName)) ∈ x_tb := List.mem_filter.mpr ⟨List.mem_append_right _ (List.mem_of_getElem? (i := 564) (by decide +kernel)), by decide +kernel⟩
theorem w_566 : (Jvm.Cond.instanceMethod ({ cls := "DescriptorDesk", name := "showByte", desc := "(I)V" } : Jvm.MethodName)) ∈ x_tb := List.mem_filter.mpr ⟨List.mem_append_right _ (List.mem_of_getElem? (i := 566) (by decide +kernel)), by decide +kernel⟩
theorem w_567 : (Jvm.Cond.code ({ cls := "DescriptorDesk", name := "showByte", desc := "(I)V" } : Jvm.MethodName) prog_1_method_39_code (2 : Nat) (Option.none : Option Jvm.ClassFile.FieldType)) ∈ x_tb := List.mem_filter.mpr ⟨List.mem_append_right _ (List.mem_of_getElem? (i := 567) (by decide +kernel)), by decide +kernel⟩
theorem w_575 : (Jvm.Cond.methodLink "DescriptorDesk" (148 : Nat) ({ cls := "DescriptorDesk$Proc", name := "release", desc := "(I)V" } : Jvm.MethodName)) ∈ x_tb := List.mem_filter.mpr ⟨List.mem_append_right _ (List.mem_of_getElem? (i := 575) (by decide +kernel)), by decide +kernel⟩
theorem w_592 : (Jvm.Cond.constantLong "DescriptorDesk" (165 : Nat) (64 : Int64)) ∈ x_tb := List.mem_filter.mpr ⟨List.mem_append_right _ (List.mem_of_getElem? (i := 592) (by decide +kernel)), by decide +kernel⟩
theorem w_620 : (Jvm.Cond.methodLink "DescriptorDeskModel" (1 : Nat) ({ cls := "java/lang/Object", name := "<init>", desc := "()V" } : Jvm.MethodName)) ∈ x_tb := List.mem_filter.mpr ⟨List.mem_append_right _ (List.mem_of_getElem? (i := 620) (by decide +kernel)), by decide +kernel⟩
theorem w_621 : (Jvm.Cond.fieldLink "DescriptorDeskModel" (66 : Nat) "DescriptorDeskModel" "code" "I") ∈ x_tb := List.mem_filter.mpr ⟨List.mem_append_right _ (List.mem_of_getElem? (i := 621) (by decide +kernel)), by decide +kernel⟩
theorem w_622 : (Jvm.Cond.fieldLink "DescriptorDeskModel" (7 : Nat) "DescriptorDeskModel" "life" "[I") ∈ x_tb := List.mem_filter.mpr ⟨List.mem_append_right _ (List.mem_of_getElem? (i := 622) (by decide +kernel)), by decide +kernel⟩
theorem w_623 : (Jvm.Cond.fieldLink "DescriptorDeskModel" (13 : Nat) "DescriptorDeskModel" "through" "[I") ∈ x_tb := List.mem_filter.mpr ⟨List.mem_append_right _ (List.mem_of_getElem? (i := 623) (by decide +kernel)), by decide +kernel⟩
theorem w_624 : (Jvm.Cond.fieldLink "DescriptorDeskModel" (16 : Nat) "DescriptorDeskModel" "wanted" "[I") ∈ x_tb := List.mem_filter.mpr ⟨List.mem_append_right _ (List.mem_of_getElem? (i := 624) (by decide +kernel)), by decide +kernel⟩
theorem w_625 : (Jvm.Cond.fieldLink "DescriptorDeskModel" (19 : Nat) "DescriptorDeskModel" "descriptor" "[I") ∈ x_tb := List.mem_filter.mpr ⟨List.mem_append_right _ (List.mem_of_getElem? (i := 625) (by decide +kernel)), by decide +kernel⟩
theorem w_626 : (Jvm.Cond.fieldLink "DescriptorDeskModel" (22 : Nat) "DescriptorDeskModel" "given" "[J") ∈ x_tb := List.mem_filter.mpr ⟨List.mem_append_right _ (List.mem_of_getElem? (i := 626) (by decide +kernel)), by decide +kernel⟩
theorem w_627 : (Jvm.Cond.fieldLink "DescriptorDeskModel" (26 : Nat) "DescriptorDeskModel" "kind" "[I") ∈ x_tb := List.mem_filter.mpr ⟨List.mem_append_right _ (List.mem_of_getElem? (i := 627) (by decide +kernel)), by decide +kernel⟩
theorem w_628 : (Jvm.Cond.fieldLink "DescriptorDeskModel" (29 : Nat) "DescriptorDeskModel" "thing" "[I") ∈ x_tb := List.mem_filter.mpr ⟨List.mem_append_right _ (List.mem_of_getElem? (i := 628) (by decide +kernel)), by decide +kernel⟩
theorem w_629 : (Jvm.Cond.fieldLink "DescriptorDeskModel" (32 : Nat) "DescriptorDeskModel" "position" "[I") ∈ x_tb := List.mem_filter.mpr ⟨List.mem_append_right _ (List.mem_of_getElem? (i := 629) (by decide +kernel)), by decide +kernel⟩
theorem w_630 : (Jvm.Cond.fieldLink "DescriptorDeskModel" (35 : Nat) "DescriptorDeskModel" "right" "[I") ∈ x_tb := List.mem_filter.mpr ⟨List.mem_append_right _ (List.mem_of_getElem? (i := 630) (by decide +kernel)), by decide +kernel⟩
theorem w_631 : (Jvm.Cond.fieldLink "DescriptorDeskModel" (38 : Nat) "DescriptorDeskModel" "piped" "[I") ∈ x_tb := List.mem_filter.mpr ⟨List.mem_append_right _ (List.mem_of_getElem? (i := 631) (by decide +kernel)), by decide +kernel⟩
theorem w_632 : (Jvm.Cond.fieldLink "DescriptorDeskModel" (41 : Nat) "DescriptorDeskModel" "pipeBytes" "[I") ∈ x_tb := List.mem_filter.mpr ⟨List.mem_append_right _ (List.mem_of_getElem? (i := 632) (by decide +kernel)), by decide +kernel⟩
theorem w_633 : (Jvm.Cond.fieldLink "DescriptorDeskModel" (44 : Nat) "DescriptorDeskModel" "isPipe" "[Z") ∈ x_tb := List.mem_filter.mpr ⟨List.mem_append_right _ (List.mem_of_getElem? (i := 633) (by decide +kernel)), by decide +kernel⟩
theorem w_634 : (Jvm.Cond.fieldLink "DescriptorDeskModel" (48 : Nat) "DescriptorDeskModel" "isFile" "[Z") ∈ x_tb := List.mem_filter.mpr ⟨List.mem_append_right _ (List.mem_of_getElem? (i := 634) (by decide +kernel)), by decide +kernel⟩
theorem w_635 : (Jvm.Cond.fieldLink "DescriptorDeskModel" (51 : Nat) "DescriptorDeskModel" "name" "[I") ∈ x_tb := List.mem_filter.mpr ⟨List.mem_append_right _ (List.mem_of_getElem? (i := 635) (by decide +kernel)), by decide +kernel⟩
theorem w_636 : (Jvm.Cond.fieldLink "DescriptorDeskModel" (54 : Nat) "DescriptorDeskModel" "length" "[I") ∈ x_tb := List.mem_filter.mpr ⟨List.mem_append_right _ (List.mem_of_getElem? (i := 636) (by decide +kernel)), by decide +kernel⟩
theorem w_637 : (Jvm.Cond.fieldLink "DescriptorDeskModel" (57 : Nat) "DescriptorDeskModel" "fileBytes" "[I") ∈ x_tb := List.mem_filter.mpr ⟨List.mem_append_right _ (List.mem_of_getElem? (i := 637) (by decide +kernel)), by decide +kernel⟩
theorem w_638 : (Jvm.Cond.fieldLink "DescriptorDeskModel" (120 : Nat) "DescriptorDeskModel" "typed" "I") ∈ x_tb := List.mem_filter.mpr ⟨List.mem_append_right _ (List.mem_of_getElem? (i := 638) (by decide +kernel)), by decide +kernel⟩
theorem w_639 : (Jvm.Cond.fieldLink "DescriptorDeskModel" (60 : Nat) "DescriptorDeskModel" "typedBytes" "[I") ∈ x_tb := List.mem_filter.mpr ⟨List.mem_append_right _ (List.mem_of_getElem? (i := 639) (by decide +kernel)), by decide +kernel⟩
theorem w_640 : (Jvm.Cond.fieldLink "DescriptorDeskModel" (161 : Nat) "DescriptorDeskModel" "shown" "J") ∈ x_tb := List.mem_filter.mpr ⟨List.mem_append_right _ (List.mem_of_getElem? (i := 640) (by decide +kernel)), by decide +kernel⟩
theorem w_641 : (Jvm.Cond.fieldLink "DescriptorDeskModel" (63 : Nat) "DescriptorDeskModel" "shownBytes" "[I") ∈ x_tb := List.mem_filter.mpr ⟨List.mem_append_right _ (List.mem_of_getElem? (i := 641) (by decide +kernel)), by decide +kernel⟩
theorem w_685 : (Jvm.Cond.arrayClass Jvm.ClassFile.FieldType.long) ∈ x_tb := List.mem_filter.mpr ⟨List.mem_append_right _ (List.mem_of_getElem? (i := 685) (by decide +kernel)), by decide +kernel⟩
theorem w_686 : (Jvm.Cond.arrayClass Jvm.ClassFile.FieldType.boolean) ∈ x_tb := List.mem_filter.mpr ⟨List.mem_append_right _ (List.mem_of_getElem? (i := 686) (by decide +kernel)), by decide +kernel⟩
theorem w_695 : (Jvm.Cond.methodLink "DescriptorDeskModel" (89 : Nat) ({ cls := "DescriptorDeskModel", name := "freeProcess", desc := "()I" } : Jvm.MethodName)) ∈ x_tb := List.mem_filter.mpr ⟨List.mem_append_right _ (List.mem_of_getElem? (i := 695) (by decide +kernel)), by decide +kernel⟩
theorem w_697 : (Jvm.Cond.instanceMethod ({ cls := "DescriptorDeskModel", name := "freeProcess", desc := "()I" } : Jvm.MethodName)) ∈ x_tb := List.mem_filter.mpr ⟨List.mem_append_right _ (List.mem_of_getElem? (i := 697) (by decide +kernel)), by decide +kernel⟩
theorem w_698 : (Jvm.Cond.code ({ cls := "DescriptorDeskModel", name := "freeProcess", desc := "()I" } : Jvm.MethodName) prog_8_method_17_code (2 : Nat) (Option.some Jvm.ClassFile.FieldType.int)) ∈ x_tb := List.mem_filter.mpr ⟨List.mem_append_right _ (List.mem_of_getElem? (i := 698) (by decide +kernel)), by decide +kernel⟩
theorem w_699 : (Jvm.Cond.methodLink "DescriptorDeskModel" (82 : Nat) ({ cls := "DescriptorDeskModel", name := "freeOpening", desc := "()I" } : Jvm.MethodName)) ∈ x_tb := List.mem_filter.mpr ⟨List.mem_append_right _ (List.mem_of_getElem? (i := 699) (by decide +kernel)), by decide +kernel⟩
theorem w_701 : (Jvm.Cond.instanceMethod ({ cls := "DescriptorDeskModel", name := "freeOpening", desc := "()I" } : Jvm.MethodName)) ∈ x_tb := List.mem_filter.mpr ⟨List.mem_append_right _ (List.mem_of_getElem? (i := 701) (by decide +kernel)), by decide +kernel⟩
theorem w_702 : (Jvm.Cond.code ({ cls := "DescriptorDeskModel", name := "freeOpening", desc := "()I" } : Jvm.MethodName) prog_8_method_10_code (2 : Nat) (Option.some Jvm.ClassFile.FieldType.int)) ∈ x_tb := List.mem_filter.mpr ⟨List.mem_append_right _ (List.mem_of_getElem? (i := 702) (by decide +kernel)), by decide +kernel⟩
theorem w_703 : (Jvm.Cond.methodLink "DescriptorDeskModel" (92 : Nat) ({ cls := "DescriptorDeskModel", name := "begin", desc := "(I)V" } : Jvm.MethodName)) ∈ x_tb := List.mem_filter.mpr ⟨List.mem_append_right _ (List.mem_of_getElem? (i := 703) (by decide +kernel)), by decide +kernel⟩
theorem w_705 : (Jvm.Cond.instanceMethod ({ cls := "DescriptorDeskModel", name := "begin", desc := "(I)V" } : Jvm.MethodName)) ∈ x_tb := List.mem_filter.mpr ⟨List.mem_append_right _ (List.mem_of_getElem? (i := 705) (by decide +kernel)), by decide +kernel⟩
theorem w_706 : (Jvm.Cond.code ({ cls := "DescriptorDeskModel", name := "begin", desc := "(I)V" } : Jvm.MethodName) prog_8_method_18_code (2 : Nat) (Option.none : Option Jvm.ClassFile.FieldType)) ∈ x_tb := List.mem_filter.mpr ⟨List.mem_append_right _ (List.mem_of_getElem? (i := 706) (by decide +kernel)), by decide +kernel⟩
theorem w_707 : (Jvm.Cond.methodLink "DescriptorDeskModel" (96 : Nat) ({ cls := "DescriptorDeskModel", name := "newOpening", desc := "(III)I" } : Jvm.MethodName)) ∈ x_tb := List.mem_filter.mpr ⟨List.mem_append_right _ (List.mem_of_getElem? (i := 707) (by decide +kernel)), by decide +kernel⟩
theorem w_709 : (Jvm.Cond.instanceMethod ({ cls := "DescriptorDeskModel", name := "newOpening", desc := "(III)I" } : Jvm.MethodName)) ∈ x_tb := List.mem_filter.mpr ⟨List.mem_append_right _ (List.mem_of_getElem? (i := 709) (by decide +kernel)), by decide +kernel⟩
theorem w_710 : (Jvm.Cond.code ({ cls := "DescriptorDeskModel", name := "newOpening", desc := "(III)I" } : Jvm.MethodName) prog_8_method_14_code (5 : Nat) (Option.some Jvm.ClassFile.FieldType.int)) ∈ x_tb := List.mem_filter.mpr ⟨List.mem_append_right _ (List.mem_of_getElem? (i := 710) (by decide +kernel)), by decide +kernel⟩
theorem w_711 : (Jvm.Cond.methodLink "DescriptorDeskModel" (100 : Nat) ({ cls := "DescriptorDeskModel", name := "give", desc := "(II)I" } : Jvm.MethodName)) ∈ x_tb := List.mem_filter.mpr ⟨List.mem_append_right _ (List.mem_of_getElem? (i := 711) (by decide +kernel)), by decide +kernel⟩
theorem w_713 : (Jvm.Cond.instanceMethod ({ cls := "DescriptorDeskModel", name := "give", desc := "(II)I" } : Jvm.MethodName)) ∈ x_tb := List.mem_filter.mpr ⟨List.mem_append_right _ (List.mem_of_getElem? (i := 713) (by decide +kernel)), by decide +kernel⟩
theorem w_714 : (Jvm.Cond.code ({ cls := "DescriptorDeskModel", name := "give", desc := "(II)I" } : Jvm.MethodName) prog_8_method_15_code (4 : Nat) (Option.some Jvm.ClassFile.FieldType.int)) ∈ x_tb := List.mem_filter.mpr ⟨List.mem_append_right _ (List.mem_of_getElem? (i := 714) (by decide +kernel)), by decide +kernel⟩
theorem w_715 : (Jvm.Cond.methodLink "DescriptorDeskModel" (86 : Nat) ({ cls := "DescriptorDeskModel", name := "freeDescriptor", desc := "(I)I" } : Jvm.MethodName)) ∈ x_tb := List.mem_filter.mpr ⟨List.mem_append_right _ (List.mem_of_getElem? (i := 715) (by decide +kernel)), by decide +kernel⟩
theorem w_717 : (Jvm.Cond.instanceMethod ({ cls := "DescriptorDeskModel", name := "freeDescriptor", desc := "(I)I" } : Jvm.MethodName)) ∈ x_tb := List.mem_filter.mpr ⟨List.mem_append_right _ (List.mem_of_getElem? (i := 717) (by decide +kernel)), by decide +kernel⟩
theorem w_718 : (Jvm.Cond.code ({ cls := "DescriptorDeskModel", name := "freeDescriptor", desc := "(I)I" } : Jvm.MethodName) prog_8_method_12_code (3 : Nat) (Option.some Jvm.ClassFile.FieldType.int)) ∈ x_tb := List.mem_filter.mpr ⟨List.mem_append_right _ (List.mem_of_getElem? (i := 718) (by decide +kernel)), by decide +kernel⟩
theorem w_723 : (Jvm.Cond.methodLink "DescriptorDeskModel" (103 : Nat) ({ cls := "DescriptorDeskModel", name := "isReady", desc := "(I)Z" } : Jvm.MethodName)) ∈ x_tb := List.mem_filter.mpr ⟨List.mem_append_right _ (List.mem_of_getElem? (i := 723) (by decide +kernel)), by decide +kernel⟩
theorem w_725 : (Jvm.Cond.instanceMethod ({ cls := "DescriptorDeskModel", name := "isReady", desc := "(I)Z" } : Jvm.MethodName)) ∈ x_tb := List.mem_filter.mpr ⟨List.mem_append_right _ (List.mem_of_getElem? (i := 725) (by decide +kernel)), by decide +kernel⟩
theorem w_726 : (Jvm.Cond.code ({ cls := "DescriptorDeskModel", name := "isReady", desc := "(I)Z" } : Jvm.MethodName) prog_8_method_6_code (2 : Nat) (Option.some Jvm.ClassFile.FieldType.boolean)) ∈ x_tb := List.mem_filter.mpr ⟨List.mem_append_right _ (List.mem_of_getElem? (i := 726) (by decide +kernel)), by decide +kernel⟩
theorem w_727 : (Jvm.Cond.methodLink "DescriptorDeskModel" (70 : Nat) ({ cls := "DescriptorDeskModel", name := "in", desc := "(III)Z" } : Jvm.MethodName)) ∈ x_tb := List.mem_filter.mpr ⟨List.mem_append_right _ (List.mem_of_getElem? (i := 727) (by decide +kernel)), by decide +kernel⟩
theorem w_728 : (Jvm.Cond.static ({ cls := "DescriptorDeskModel", name := "in", desc := "(III)Z" } : Jvm.MethodName)) ∈ x_tb := List.mem_filter.mpr ⟨List.mem_append_right _ (List.mem_of_getElem? (i := 728) (by decide +kernel)), by decide +kernel⟩
theorem w_729 : (Jvm.Cond.code ({ cls := "DescriptorDeskModel", name := "in", desc := "(III)Z" } : Jvm.MethodName) prog_8_method_4_code (3 : Nat) (Option.some Jvm.ClassFile.FieldType.boolean)) ∈ x_tb := List.mem_filter.mpr ⟨List.mem_append_right _ (List.mem_of_getElem? (i := 729) (by decide +kernel)), by decide +kernel⟩
theorem w_730 : (Jvm.Cond.methodLink "DescriptorDeskModel" (107 : Nat) ({ cls := "DescriptorDeskModel", name := "fails", desc := "(ZZ)Z" } : Jvm.MethodName)) ∈ x_tb := List.mem_filter.mpr ⟨List.mem_append_right _ (List.mem_of_getElem? (i := 730) (by decide +kernel)), by decide +kernel⟩
theorem w_732 : (Jvm.Cond.instanceMethod ({ cls := "DescriptorDeskModel", name := "fails", desc := "(ZZ)Z" } : Jvm.MethodName)) ∈ x_tb := List.mem_filter.mpr ⟨List.mem_append_right _ (List.mem_of_getElem? (i := 732) (by decide +kernel)), by decide +kernel⟩
theorem w_733 : (Jvm.Cond.code ({ cls := "DescriptorDeskModel", name := "fails", desc := "(ZZ)Z" } : Jvm.MethodName) prog_8_method_3_code (3 : Nat) (Option.some Jvm.ClassFile.FieldType.boolean)) ∈ x_tb := List.mem_filter.mpr ⟨List.mem_append_right _ (List.mem_of_getElem? (i := 733) (by decide +kernel)), by decide +kernel⟩
theorem w_738 : (Jvm.Cond.methodLink "DescriptorDeskModel" (111 : Nat) ({ cls := "DescriptorDeskModel", name := "isThere", desc := "(I)Z" } : Jvm.MethodName)) ∈ x_tb := List.mem_filter.mpr ⟨List.mem_append_right _ (List.mem_of_getElem? (i := 738) (by decide +kernel)), by decide +kernel⟩
theorem w_740 : (Jvm.Cond.instanceMethod ({ cls := "DescriptorDeskModel", name := "isThere", desc := "(I)Z" } : Jvm.MethodName)) ∈ x_tb := List.mem_filter.mpr ⟨List.mem_append_right _ (List.mem_of_getElem? (i := 740) (by decide +kernel)), by decide +kernel⟩
theorem w_741 : (Jvm.Cond.code ({ cls := "DescriptorDeskModel", name := "isThere", desc := "(I)Z" } : Jvm.MethodName) prog_8_method_5_code (2 : Nat) (Option.some Jvm.ClassFile.FieldType.boolean)) ∈ x_tb := List.mem_filter.mpr ⟨List.mem_append_right _ (List.mem_of_getElem? (i := 741) (by decide +kernel)), by decide +kernel⟩
theorem w_742 : (Jvm.Cond.methodLink "DescriptorDeskModel" (114 : Nat) ({ cls := "DescriptorDeskModel", name := "sweep", desc := "()V" } : Jvm.MethodName)) ∈ x_tb := List.mem_filter.mpr ⟨List.mem_append_right _ (List.mem_of_getElem? (i := 742) (by decide +kernel)), by decide +kernel⟩
theorem w_744 : (Jvm.Cond.instanceMethod ({ cls := "DescriptorDeskModel", name := "sweep", desc := "()V" } : Jvm.MethodName)) ∈ x_tb := List.mem_filter.mpr ⟨List.mem_append_right _ (List.mem_of_getElem? (i := 744) (by decide +kernel)), by decide +kernel⟩
theorem w_745 : (Jvm.Cond.code ({ cls := "DescriptorDeskModel", name := "sweep", desc := "()V" } : Jvm.MethodName) prog_8_method_9_code (2 : Nat) (Option.none : Option Jvm.ClassFile.FieldType)) ∈ x_tb := List.mem_filter.mpr ⟨List.mem_append_right _ (List.mem_of_getElem? (i := 745) (by decide +kernel)), by decide +kernel⟩
theorem w_746 : (Jvm.Cond.methodLink "DescriptorDeskModel" (74 : Nat) ({ cls := "DescriptorDeskModel", name := "holders", desc := "(I)I" } : Jvm.MethodName)) ∈ x_tb := List.mem_filter.mpr ⟨List.mem_append_right _ (List.mem_of_getElem? (i := 746) (by decide +kernel)), by decide +kernel⟩
theorem w_748 : (Jvm.Cond.instanceMethod ({ cls := "DescriptorDeskModel", name := "holders", desc := "(I)I" } : Jvm.MethodName)) ∈ x_tb := List.mem_filter.mpr ⟨List.mem_append_right _ (List.mem_of_getElem? (i := 748) (by decide +kernel)), by decide +kernel⟩
theorem w_749 : (Jvm.Cond.code ({ cls := "DescriptorDeskModel", name := "holders", desc := "(I)I" } : Jvm.MethodName) prog_8_method_7_code (4 : Nat) (Option.some Jvm.ClassFile.FieldType.int)) ∈ x_tb := List.mem_filter.mpr ⟨List.mem_append_right _ (List.mem_of_getElem? (i := 749) (by decide +kernel)), by decide +kernel⟩
theorem w_750 : (Jvm.Cond.methodLink "DescriptorDeskModel" (78 : Nat) ({ cls := "DescriptorDeskModel", name := "openings", desc := "(II)I" } : Jvm.MethodName)) ∈ x_tb := List.mem_filter.mpr ⟨List.mem_append_right _ (List.mem_of_getElem? (i := 750) (by decide +kernel)), by decide +kernel⟩
theorem w_752 : (Jvm.Cond.instanceMethod ({ cls := "DescriptorDeskModel", name := "openings", desc := "(II)I" } : Jvm.MethodName)) ∈ x_tb := List.mem_filter.mpr ⟨List.mem_append_right _ (List.mem_of_getElem? (i := 752) (by decide +kernel)), by decide +kernel⟩
theorem w_753 : (Jvm.Cond.code ({ cls := "DescriptorDeskModel", name := "openings", desc := "(II)I" } : Jvm.MethodName) prog_8_method_8_code (5 : Nat) (Option.some Jvm.ClassFile.FieldType.int)) ∈ x_tb := List.mem_filter.mpr ⟨List.mem_append_right _ (List.mem_of_getElem? (i := 753) (by decide +kernel)), by decide +kernel⟩
theorem w_754 : (Jvm.Cond.methodLink "DescriptorDeskModel" (117 : Nat) ({ cls := "DescriptorDeskModel", name := "wake", desc := "()I" } : Jvm.MethodName)) ∈ x_tb := List.mem_filter.mpr ⟨List.mem_append_right _ (List.mem_of_getElem? (i := 754) (by decide +kernel)), by decide +kernel⟩
theorem w_756 : (Jvm.Cond.instanceMethod ({ cls := "DescriptorDeskModel", name := "wake", desc := "()I" } : Jvm.MethodName)) ∈ x_tb := List.mem_filter.mpr ⟨List.mem_append_right _ (List.mem_of_getElem? (i := 756) (by decide +kernel)), by decide +kernel⟩
theorem w_757 : (Jvm.Cond.code ({ cls := "DescriptorDeskModel", name := "wake", desc := "()I" } : Jvm.MethodName) prog_8_method_23_code (3 : Nat) (Option.some Jvm.ClassFile.FieldType.int)) ∈ x_tb := List.mem_filter.mpr ⟨List.mem_append_right _ (List.mem_of_getElem? (i := 757) (by decide +kernel)), by decide +kernel⟩
theorem w_758 : (Jvm.Cond.methodLink "DescriptorDeskModel" (123 : Nat) ({ cls := "DescriptorDeskModel", name := "waits", desc := "(IZI)Z" } : Jvm.MethodName)) ∈ x_tb := List.mem_filter.mpr ⟨List.mem_append_right _ (List.mem_of_getElem? (i := 758) (by decide +kernel)), by decide +kernel⟩
theorem w_760 : (Jvm.Cond.instanceMethod ({ cls := "DescriptorDeskModel", name := "waits", desc := "(IZI)Z" } : Jvm.MethodName)) ∈ x_tb := List.mem_filter.mpr ⟨List.mem_append_right _ (List.mem_of_getElem? (i := 760) (by decide +kernel)), by decide +kernel⟩
theorem w_761 : (Jvm.Cond.code ({ cls := "DescriptorDeskModel", name := "waits", desc := "(IZI)Z" } : Jvm.MethodName) prog_8_method_22_code (6 : Nat) (Option.some Jvm.ClassFile.FieldType.boolean)) ∈ x_tb := List.mem_filter.mpr ⟨List.mem_append_right _ (List.mem_of_getElem? (i := 761) (by decide +kernel)), by decide +kernel⟩
theorem w_766 : (Jvm.Cond.methodLink "DescriptorDeskModel" (127 : Nat) ({ cls := "DescriptorDeskModel", name := "named", desc := "(I)I" } : Jvm.MethodName)) ∈ x_tb := List.mem_filter.mpr ⟨List.mem_append_right _ (List.mem_of_getElem? (i := 766) (by decide +kernel)), by decide +kernel⟩
theorem w_768 : (Jvm.Cond.instanceMethod ({ cls := "DescriptorDeskModel", name := "named", desc := "(I)I" } : Jvm.MethodName)) ∈ x_tb := List.mem_filter.mpr ⟨List.mem_append_right _ (List.mem_of_getElem? (i := 768) (by decide +kernel)), by decide +kernel⟩
theorem w_769 : (Jvm.Cond.code ({ cls := "DescriptorDeskModel", name := "named", desc := "(I)I" } : Jvm.MethodName) prog_8_method_25_code (3 : Nat) (Option.some Jvm.ClassFile.FieldType.int)) ∈ x_tb := List.mem_filter.mpr ⟨List.mem_append_right _ (List.mem_of_getElem? (i := 769) (by decide +kernel)), by decide +kernel⟩
theorem w_770 : (Jvm.Cond.methodLink "DescriptorDeskModel" (130 : Nat) ({ cls := "DescriptorDeskModel", name := "freeFile", desc := "()I" } : Jvm.MethodName)) ∈ x_tb := List.mem_filter.mpr ⟨List.mem_append_right _ (List.mem_of_getElem? (i := 770) (by decide +kernel)), by decide +kernel⟩
theorem w_772 : (Jvm.Cond.instanceMethod ({ cls := "DescriptorDeskModel", name := "freeFile", desc := "()I" } : Jvm.MethodName)) ∈ x_tb := List.mem_filter.mpr ⟨List.mem_append_right _ (List.mem_of_getElem? (i := 772) (by decide +kernel)), by decide +kernel⟩
theorem w_773 : (Jvm.Cond.code ({ cls := "DescriptorDeskModel", name := "freeFile", desc := "()I" } : Jvm.MethodName) prog_8_method_26_code (2 : Nat) (Option.some Jvm.ClassFile.FieldType.int)) ∈ x_tb := List.mem_filter.mpr ⟨List.mem_append_right _ (List.mem_of_getElem? (i := 773) (by decide +kernel)), by decide +kernel⟩
theorem w_786 : (Jvm.Cond.methodLink "DescriptorDeskModel" (133 : Nat) ({ cls := "DescriptorDeskModel", name := "openingOf", desc := "(II)I" } : Jvm.MethodName)) ∈ x_tb := List.mem_filter.mpr ⟨List.mem_append_right _ (List.mem_of_getElem? (i := 786) (by decide +kernel)), by decide +kernel⟩
theorem w_788 : (Jvm.Cond.instanceMethod ({ cls := "DescriptorDeskModel", name := "openingOf", desc := "(II)I" } : Jvm.MethodName)) ∈ x_tb := List.mem_filter.mpr ⟨List.mem_append_right _ (List.mem_of_getElem? (i := 788) (by decide +kernel)), by decide +kernel⟩
theorem w_789 : (Jvm.Cond.code ({ cls := "DescriptorDeskModel", name := "openingOf", desc := "(II)I" } : Jvm.MethodName) prog_8_method_16_code (3 : Nat) (Option.some Jvm.ClassFile.FieldType.int)) ∈ x_tb := List.mem_filter.mpr ⟨List.mem_append_right _ (List.mem_of_getElem? (i := 789) (by decide +kernel)), by decide +kernel⟩
theorem w_790 : (Jvm.Cond.constantLong "DescriptorDeskModel" (136 : Nat) (64 : Int64)) ∈ x_tb := List.mem_filter.mpr ⟨List.mem_append_right _ (List.mem_of_getElem? (i := 790) (by decide +kernel)), by decide +kernel⟩
theorem w_795 : (Jvm.Cond.methodLink "DescriptorDeskModel" (138 : Nat) ({ cls := "DescriptorDeskModel", name := "freeDescriptors", desc := "(I)I" } : Jvm.MethodName)) ∈ x_tb := List.mem_filter.mpr ⟨List.mem_append_right _ (List.mem_of_getElem? (i := 795) (by decide +kernel)), by decide +kernel⟩
theorem w_797 : (Jvm.Cond.instanceMethod ({ cls := "DescriptorDeskModel", name := "freeDescriptors", desc := "(I)I" } : Jvm.MethodName)) ∈ x_tb := List.mem_filter.mpr ⟨List.mem_append_right _ (List.mem_of_getElem? (i := 797) (by decide +kernel)), by decide +kernel⟩
theorem w_798 : (Jvm.Cond.code ({ cls := "DescriptorDeskModel", name := "freeDescriptors", desc := "(I)I" } : Jvm.MethodName) prog_8_method_13_code (4 : Nat) (Option.some Jvm.ClassFile.FieldType.int)) ∈ x_tb := List.mem_filter.mpr ⟨List.mem_append_right _ (List.mem_of_getElem? (i := 798) (by decide +kernel)), by decide +kernel⟩
theorem w_799 : (Jvm.Cond.methodLink "DescriptorDeskModel" (141 : Nat) ({ cls := "DescriptorDeskModel", name := "countOpenings", desc := "()I" } : Jvm.MethodName)) ∈ x_tb := List.mem_filter.mpr ⟨List.mem_append_right _ (List.mem_of_getElem? (i := 799) (by decide +kernel)), by decide +kernel⟩
theorem w_801 : (Jvm.Cond.instanceMethod ({ cls := "DescriptorDeskModel", name := "countOpenings", desc := "()I" } : Jvm.MethodName)) ∈ x_tb := List.mem_filter.mpr ⟨List.mem_append_right _ (List.mem_of_getElem? (i := 801) (by decide +kernel)), by decide +kernel⟩
theorem w_802 : (Jvm.Cond.code ({ cls := "DescriptorDeskModel", name := "countOpenings", desc := "()I" } : Jvm.MethodName) prog_8_method_11_code (3 : Nat) (Option.some Jvm.ClassFile.FieldType.int)) ∈ x_tb := List.mem_filter.mpr ⟨List.mem_append_right _ (List.mem_of_getElem? (i := 802) (by decide +kernel)), by decide +kernel⟩
theorem w_807 : (Jvm.Cond.methodLink "DescriptorDeskModel" (148 : Nat) ({ cls := "DescriptorDeskModel", name := "waitFor", desc := "(IIII)I" } : Jvm.MethodName)) ∈ x_tb := List.mem_filter.mpr ⟨List.mem_append_right _ (List.mem_of_getElem? (i := 807) (by decide +kernel)), by decide +kernel⟩
theorem w_809 : (Jvm.Cond.instanceMethod ({ cls := "DescriptorDeskModel", name := "waitFor", desc := "(IIII)I" } : Jvm.MethodName)) ∈ x_tb := List.mem_filter.mpr ⟨List.mem_append_right _ (List.mem_of_getElem? (i := 809) (by decide +kernel)), by decide +kernel⟩
theorem w_810 : (Jvm.Cond.code ({ cls := "DescriptorDeskModel", name := "waitFor", desc := "(IIII)I" } : Jvm.MethodName) prog_8_method_24_code (5 : Nat) (Option.some Jvm.ClassFile.FieldType.int)) ∈ x_tb := List.mem_filter.mpr ⟨List.mem_append_right _ (List.mem_of_getElem? (i := 810) (by decide +kernel)), by decide +kernel⟩
theorem w_811 : (Jvm.Cond.methodLink "DescriptorDeskModel" (152 : Nat) ({ cls := "DescriptorDeskModel", name := "readPipe", desc := "(III)I" } : Jvm.MethodName)) ∈ x_tb := List.mem_filter.mpr ⟨List.mem_append_right _ (List.mem_of_getElem? (i := 811) (by decide +kernel)), by decide +kernel⟩
theorem w_813 : (Jvm.Cond.instanceMethod ({ cls := "DescriptorDeskModel", name := "readPipe", desc := "(III)I" } : Jvm.MethodName)) ∈ x_tb := List.mem_filter.mpr ⟨List.mem_append_right _ (List.mem_of_getElem? (i := 813) (by decide +kernel)), by decide +kernel⟩
theorem w_814 : (Jvm.Cond.code ({ cls := "DescriptorDeskModel", name := "readPipe", desc := "(III)I" } : Jvm.MethodName) prog_8_method_33_code (6 : Nat) (Option.some Jvm.ClassFile.FieldType.int)) ∈ x_tb := List.mem_filter.mpr ⟨List.mem_append_right _ (List.mem_of_getElem? (i := 814) (by decide +kernel)), by decide +kernel⟩
theorem w_815 : (Jvm.Cond.methodLink "DescriptorDeskModel" (144 : Nat) ({ cls := "DescriptorDeskModel", name := "take", desc := "(III)V" } : Jvm.MethodName)) ∈ x_tb := List.mem_filter.mpr ⟨List.mem_append_right _ (List.mem_of_getElem? (i := 815) (by decide +kernel)), by decide +kernel⟩
theorem w_817 : (Jvm.Cond.instanceMethod ({ cls := "DescriptorDeskModel", name := "take", desc := "(III)V" } : Jvm.MethodName)) ∈ x_tb := List.mem_filter.mpr ⟨List.mem_append_right _ (List.mem_of_getElem? (i := 817) (by decide +kernel)), by decide +kernel⟩
theorem w_818 : (Jvm.Cond.code ({ cls := "DescriptorDeskModel", name := "take", desc := "(III)V" } : Jvm.MethodName) prog_8_method_32_code (4 : Nat) (Option.none : Option Jvm.ClassFile.FieldType)) ∈ x_tb := List.mem_filter.mpr ⟨List.mem_append_right _ (List.mem_of_getElem? (i := 818) (by decide +kernel)), by decide +kernel⟩
theorem w_819 : (Jvm.Cond.methodLink "DescriptorDeskModel" (155 : Nat) ({ cls := "DescriptorDeskModel", name := "readFile", desc := "(III)I" } : Jvm.MethodName)) ∈ x_tb := List.mem_filter.mpr ⟨List.mem_append_right _ (List.mem_of_getElem? (i := 819) (by decide +kernel)), by decide +kernel⟩
theorem w_821 : (Jvm.Cond.instanceMethod ({ cls := "DescriptorDeskModel", name := "readFile", desc := "(III)I" } : Jvm.MethodName)) ∈ x_tb := List.mem_filter.mpr ⟨List.mem_append_right _ (List.mem_of_getElem? (i := 821) (by decide +kernel)), by decide +kernel⟩
theorem w_822 : (Jvm.Cond.code ({ cls := "DescriptorDeskModel", name := "readFile", desc := "(III)I" } : Jvm.MethodName) prog_8_method_34_code (6 : Nat) (Option.some Jvm.ClassFile.FieldType.int)) ∈ x_tb := List.mem_filter.mpr ⟨List.mem_append_right _ (List.mem_of_getElem? (i := 822) (by decide +kernel)), by decide +kernel⟩
theorem w_823 : (Jvm.Cond.methodLink "DescriptorDeskModel" (158 : Nat) ({ cls := "DescriptorDeskModel", name := "readConsole", desc := "(II)I" } : Jvm.MethodName)) ∈ x_tb := List.mem_filter.mpr ⟨List.mem_append_right _ (List.mem_of_getElem? (i := 823) (by decide +kernel)), by decide +kernel⟩
theorem w_825 : (Jvm.Cond.instanceMethod ({ cls := "DescriptorDeskModel", name := "readConsole", desc := "(II)I" } : Jvm.MethodName)) ∈ x_tb := List.mem_filter.mpr ⟨List.mem_append_right _ (List.mem_of_getElem? (i := 825) (by decide +kernel)), by decide +kernel⟩
theorem w_826 : (Jvm.Cond.code ({ cls := "DescriptorDeskModel", name := "readConsole", desc := "(II)I" } : Jvm.MethodName) prog_8_method_35_code (6 : Nat) (Option.some Jvm.ClassFile.FieldType.int)) ∈ x_tb := List.mem_filter.mpr ⟨List.mem_append_right _ (List.mem_of_getElem? (i := 826) (by decide +kernel)), by decide +kernel⟩
theorem w_835 : (Jvm.Cond.methodLink "DescriptorDeskModel" (167 : Nat) ({ cls := "DescriptorDeskModel", name := "writeFile", desc := "(IJI)I" } : Jvm.MethodName)) ∈ x_tb := List.mem_filter.mpr ⟨List.mem_append_right _ (List.mem_of_getElem? (i := 835) (by decide +kernel)), by decide +kernel⟩
theorem w_837 : (Jvm.Cond.instanceMethod ({ cls := "DescriptorDeskModel", name := "writeFile", desc := "(IJI)I" } : Jvm.MethodName)) ∈ x_tb := List.mem_filter.mpr ⟨List.mem_append_right _ (List.mem_of_getElem? (i := 837) (by decide +kernel)), by decide +kernel⟩
theorem w_838 : (Jvm.Cond.code ({ cls := "DescriptorDeskModel", name := "writeFile", desc := "(IJI)I" } : Jvm.MethodName) prog_8_method_39_code (8 : Nat) (Option.some Jvm.ClassFile.FieldType.int)) ∈ x_tb := List.mem_filter.mpr ⟨List.mem_append_right _ (List.mem_of_getElem? (i := 838) (by decide +kernel)), by decide +kernel⟩
theorem w_839 : (Jvm.Cond.methodLink "DescriptorDeskModel" (171 : Nat) ({ cls := "DescriptorDeskModel", name := "show", desc := "(I)V" } : Jvm.MethodName)) ∈ x_tb := List.mem_filter.mpr ⟨List.mem_append_right _ (List.mem_of_getElem? (i := 839) (by decide +kernel)), by decide +kernel⟩
theorem w_841 : (Jvm.Cond.instanceMethod ({ cls := "DescriptorDeskModel", name := "show", desc := "(I)V" } : Jvm.MethodName)) ∈ x_tb := List.mem_filter.mpr ⟨List.mem_append_right _ (List.mem_of_getElem? (i := 841) (by decide +kernel)), by decide +kernel⟩
theorem w_842 : (Jvm.Cond.code ({ cls := "DescriptorDeskModel", name := "show", desc := "(I)V" } : Jvm.MethodName) prog_8_method_38_code (3 : Nat) (Option.none : Option Jvm.ClassFile.FieldType)) ∈ x_tb := List.mem_filter.mpr ⟨List.mem_append_right _ (List.mem_of_getElem? (i := 842) (by decide +kernel)), by decide +kernel⟩
theorem w_843 : (Jvm.Cond.constantLong "DescriptorDeskModel" (165 : Nat) (60 : Int64)) ∈ x_tb := List.mem_filter.mpr ⟨List.mem_append_right _ (List.mem_of_getElem? (i := 843) (by decide +kernel)), by decide +kernel⟩
theorem w_872 : (Jvm.Cond.methodLink "DescriptorDeskModel" (177 : Nat) ({ cls := "DescriptorDeskModel", name := "vain", desc := "()I" } : Jvm.MethodName)) ∈ x_tb := List.mem_filter.mpr ⟨List.mem_append_right _ (List.mem_of_getElem? (i := 872) (by decide +kernel)), by decide +kernel⟩
theorem w_874 : (Jvm.Cond.instanceMethod ({ cls := "DescriptorDeskModel", name := "vain", desc := "()I" } : Jvm.MethodName)) ∈ x_tb := List.mem_filter.mpr ⟨List.mem_append_right _ (List.mem_of_getElem? (i := 874) (by decide +kernel)), by decide +kernel⟩
theorem w_875 : (Jvm.Cond.code ({ cls := "DescriptorDeskModel", name := "vain", desc := "()I" } : Jvm.MethodName) prog_8_method_48_code (5 : Nat) (Option.some Jvm.ClassFile.FieldType.int)) ∈ x_tb := List.mem_filter.mpr ⟨List.mem_append_right _ (List.mem_of_getElem? (i := 875) (by decide +kernel)), by decide +kernel⟩
theorem w_876 : (Jvm.Cond.methodLink "DescriptorDeskModel" (174 : Nat) ({ cls := "DescriptorDeskModel", name := "isOnly", desc := "(III)Z" } : Jvm.MethodName)) ∈ x_tb := List.mem_filter.mpr ⟨List.mem_append_right _ (List.mem_of_getElem? (i := 876) (by decide +kernel)), by decide +kernel⟩
theorem w_878 : (Jvm.Cond.instanceMethod ({ cls := "DescriptorDeskModel", name := "isOnly", desc := "(III)Z" } : Jvm.MethodName)) ∈ x_tb := List.mem_filter.mpr ⟨List.mem_append_right _ (List.mem_of_getElem? (i := 878) (by decide +kernel)), by decide +kernel⟩
theorem w_879 : (Jvm.Cond.code ({ cls := "DescriptorDeskModel", name := "isOnly", desc := "(III)Z" } : Jvm.MethodName) prog_8_method_47_code (8 : Nat) (Option.some Jvm.ClassFile.FieldType.boolean)) ∈ x_tb := List.mem_filter.mpr ⟨List.mem_append_right _ (List.mem_of_getElem? (i := 879) (by decide +kernel)), by decide +kernel⟩
end
section
/-! THE OBJECTS BY POOL AND NUMBER: every object of class, reference and law lies in a pool (one for each class, one for each array field) and bears a number there; g gives its address. -/
/-- a value: an int, a long, a reference by pool and number (none: null), a bare address -/
abbrev XV : Type := Int32 ⊕ (Int64 ⊕ ((Nat × Option Nat) ⊕ Nat))
abbrev xI (x : Int32) : XV := .inl x
abbrev xL (x : Int64) : XV := .inr (.inl x)
abbrev xR (q : Nat) (o : Option Nat) : XV := .inr (.inr (.inl (q, o)))
abbrev xA (a : Nat) : XV := .inr (.inr (.inr a))
/-- what all objects hold: ints, longs, references, by pool, number and slot; and how many of each pool there are -/
abbrev XS : Type := (Nat → Nat → Nat → Int32) × (Nat → Nat → Nat → Int64) × (Nat → Nat → Nat → Option Nat) × (Nat → Nat)
abbrev XS.I (st : XS) : Nat → Nat → Nat → Int32 := st.1
abbrev XS.J (st : XS) : Nat → Nat → Nat → Int64 := st.2.1
abbrev XS.R (st : XS) : Nat → Nat → Nat → Option Nat := st.2.2.1
abbrev XS.N (st : XS) : Nat → Nat := st.2.2.2
def x_up {α : Type} (f : Nat → Nat → Nat → α) (q i k : Nat) (v : α) : Nat → Nat → Nat → α := fun a b c => if a = q ∧ b = i ∧ c = k then v else f a b c
def xsI (st : XS) (q i k : Nat) (v : Int32) : XS := (x_up st.1 q i k v, st.2)
def xsJ (st : XS) (q i k : Nat) (v : Int64) : XS := (st.1, x_up st.2.1 q i k v, st.2.2)
def xsR (st : XS) (q i k : Nat) (v : Option Nat) : XS := (st.1, st.2.1, x_up st.2.2.1 q i k v, st.2.2.2)
/-- a new object of the pool q: all its slots 0 or null -/
def xsN (st : XS) (q : Nat) : XS := (fun a b c => if a = q ∧ b = st.2.2.2 q then 0 else st.1 a b c, fun a b c => if a = q ∧ b = st.2.2.2 q then 0 else st.2.1 a b c, fun a b c => if a = q ∧ b = st.2.2.2 q then none else st.2.2.1 a b c, fun a => if a = q then st.2.2.2 q + 1 else st.2.2.2 a)
def xrf (g : Nat → Nat → Nat) (q : Nat) (o : Option Nat) : Value := match o with
  | none => .null
  | some i => .ref (g q i)
def xv (g : Nat → Nat → Nat) : XV → Value
  | .inl x => .int x
  | .inr (.inl y) => .long y
  | .inr (.inr (.inl (q, o))) => xrf g q o
  | .inr (.inr (.inr a)) => .ref a
def xok (cnt : Nat → Nat) : XV → Prop
  | .inr (.inr (.inl (q, some i))) => i < cnt q
  | _ => True
/-- which pool is what: its class's number (none: an array), how many slots, each slot's sort (0 int, 1 long, else a reference) and the pool that a reference leads to, an array's type -/
def xval (g : Nat → Nat → Nat) (st : XS) (q i k : Nat) : Value := match xk_s q k with
  | 0 => .int (st.1 q i k)
  | 1 => .long (st.2.1 q i k)
  | _ => xrf g (xk_t q k) (st.2.2.1 q i k)
def xarr (g : Nat → Nat → Nat) (st : XS) (q i : Nat) : vp_A := (xk_n q, match xk_s q 0 with
  | 0 => .inl (fun k => st.1 q i k)
  | 1 => .inr (.inl (fun k => st.2.1 q i k))
  | _ => .inr (.inr (.inr (.inr (fun k => (st.2.2.1 q i k).map (g (xk_t q 0)))))))
def xent (cA : Nat → ClassId) (g : Nat → Nat → Nat) (st : XS) (q i : Nat) : va_E := match xk_c q with
  | some ci => .inr (ci, (List.range (xk_n q)).map (xval g st q i))
  | none => .inl (cA q, xarr g st q i)
/-- the world: each object as st says, at its address; the addresses apart; every reference leads to an object that is there -/
def x_W (D : va_G) (cA : Nat → ClassId) (A : Nat → Prop) (g : Nat → Nat → Nat) (st : XS) (H : Heap) : Prop :=
  (∀ q i, i < st.2.2.2 q → va_at D xk_cl (g q i, xent cA g st q i) H ∧ A (g q i)) ∧
  (∀ q i r j, i < st.2.2.2 q → j < st.2.2.2 r → g q i = g r j → q = r ∧ i = j) ∧
  (∀ q i k j, i < st.2.2.2 q → xk_s q k = 2 → st.2.2.1 q i k = some j → j < st.2.2.2 (xk_t q k))
/-- what the tables say of the classes and the array classes -/
def x_K (D : va_G) (cA : Nat → ClassId) (U : State) : Prop :=
  (∀ (c : Nat) (q : vw_C), xk_cl[c]? = some q → u_Kn U q.1 q.2.1 q.2.2 (D.1 c) (D.2 c)) ∧
  (∀ (q : Nat) (ty : FieldType), xk_a q = some ty → ArrOfT U (cA q) ty ∧ va_RA U (cA q) ty) ∧
  (∀ w ∈ xk_nest, va_Nw w U)
def xcat : XV → Nat
  | .inr (.inl _) => 2
  | _ => 1
theorem xcat_v (g : Nat → Nat → Nat) (v : XV) : (xv g v).category = xcat v := by
  rcases v with x | y | ⟨q, _ | i⟩ | a <;> rfl
theorem xok_cs {cnt : Nat → Nat} {a : XV} {K : List XV} (h : xok cnt a) (hK : ∀ v ∈ K, xok cnt v) : ∀ v ∈ a :: K, xok cnt v := fun v hv => (List.mem_cons.mp hv).elim (fun e => e ▸ h) (hK v)
theorem xok_tl {cnt : Nat → Nat} {a : XV} {K : List XV} (hK : ∀ v ∈ a :: K, xok cnt v) : ∀ v ∈ K, xok cnt v := fun v hv => hK v (List.mem_cons_of_mem _ hv)
theorem xok_hd {cnt : Nat → Nat} {a : XV} {K : List XV} (hK : ∀ v ∈ a :: K, xok cnt v) : xok cnt a := hK a List.mem_cons_self
theorem x_lat {g : Nat → Nat → Nat} {L : List (Nat × XV)} {w i : Nat} {v : XV} (h : L[w]? = some (i, v)) : (L.map fun z => (z.1, xv g z.2))[w]? = some (i, xv g v) := by
  rw [List.getElem?_map, h]; rfl
def x_f1 (i : Nat) : Nat × XV → Bool := fun z => !(z.1 == i) && !(z.1 + 1 == i && xcat z.2 == 2)
def x_f2 (i : Nat) : Nat × XV → Bool := fun z => !(z.1 == i) && (!(z.1 == i + 1) && !(z.1 + 1 == i && xcat z.2 == 2))
theorem x_m1 (g : Nat → Nat → Nat) (i : Nat) (v : XV) (L : List (Nat × XV)) : (i, xv g v) :: (L.map fun z => (z.1, xv g z.2)).filter (fun q => !(q.1 == i) && !(q.1 + 1 == i && q.2.category == 2)) = ((i, v) :: L.filter (x_f1 i)).map fun z => (z.1, xv g z.2) := by
  rw [List.map_cons, List.filter_map]
  congr 2
  refine congrArg (fun f => List.filter f L) (funext fun z => ?_)
  simp [x_f1, xcat_v, Function.comp]
theorem x_m2 (g : Nat → Nat → Nat) (i : Nat) (v : XV) (L : List (Nat × XV)) : (i, xv g v) :: (L.map fun z => (z.1, xv g z.2)).filter (fun q => !(q.1 == i) && (!(q.1 == i + 1) && !(q.1 + 1 == i && q.2.category == 2))) = ((i, v) :: L.filter (x_f2 i)).map fun z => (z.1, xv g z.2) := by
  rw [List.map_cons, List.filter_map]
  congr 2
  refine congrArg (fun f => List.filter f L) (funext fun z => ?_)
  simp [x_f2, xcat_v, Function.comp]
theorem xokL_cs {cnt : Nat → Nat} {i : Nat} {v : XV} {L : List (Nat × XV)} (h : xok cnt v) (hL : ∀ z ∈ L, xok cnt z.2) : ∀ z ∈ (i, v) :: L, xok cnt z.2 := fun z hz => (List.mem_cons.mp hz).elim (fun e => by rw [e]; exact h) (hL z)
theorem xokL_f {cnt : Nat → Nat} {L : List (Nat × XV)} {f : Nat × XV → Bool} (hL : ∀ z ∈ L, xok cnt z.2) : ∀ z ∈ L.filter f, xok cnt z.2 := fun z hz => hL z (List.mem_filter.mp hz).1
/-- which cells a method may change: those of its world, and those that it makes -/
def x_A (g : Nat → Nat → Nat) (n : Nat → Nat) (sz : Nat) : Nat → Prop := fun a => (∃ q i, i < n q ∧ a = g q i) ∨ sz ≤ a
/-- a static of Throwable that holds a reference or null, at a cell that is not in A -/
def x_St (n d : String) (A : Nat → Prop) (U : State) (H : Heap) : Prop := ∃ (c : ClassId) (k : Class) (i : Nat) (f : Field) (a : Nat) (cell : Cell) (v : Value), U.vm.findClass Bundle.tN = some c ∧ U.fieldFound? Bundle.tN n d = some (c, k, i, f) ∧ f.isStatic = true ∧ k.statics = some a ∧ H[a]? = some cell ∧ cell.vm.isStatics = true ∧ cell.cls = c ∧ f.slot < cell.slots.size ∧ k.staticTypes[f.slot]? = some f.type ∧ cell.slots[f.slot]? = some v ∧ (v = .null ∨ ∃ b, v = .ref b) ∧ ¬ A a
theorem x_St.moved {n d : String} {A : Nat → Prop} {u U : State} {H : Heap} (hvm : u.vm.Alike U.vm) (h : x_St n d A u H) : x_St n d A U H := by
  obtain ⟨c, k, i, f, a, cell, v, h0, h1, h2, h3, h4, h5, h6, h7, h8, h9⟩ := h
  obtain ⟨k', hi', he⟩ := State.fieldFound?_setVm hvm h1
  exact ⟨c, k', i, f, a, cell, v, by rw [hvm.findClass]; exact h0, hi', h2, by rw [he]; exact h3, h4, h5, h6, h7, by rw [he]; exact h8, h9⟩
theorem x_St.kept {n d : String} {A : Nat → Prop} {U : State} {H H1 : Heap} (h : x_St n d A U H) (hq : ∀ a : Nat, a < H.size → ¬ A a → H1[a]? = H[a]?) : x_St n d A U H1 := by
  obtain ⟨c, k, i, f, a, cell, v, h0, h1, h2, h3, h4, h5, h6, h7, h8, h9, h10, h11⟩ := h
  exact ⟨c, k, i, f, a, cell, v, h0, h1, h2, h3, by rw [hq a (Array.getElem?_eq_some_iff.mp h4).1 h11]; exact h4, h5, h6, h7, h8, h9, h10, h11⟩
theorem x_St.narrow {n d : String} {A B : Nat → Prop} {U : State} {H : Heap} (h : x_St n d A U H) (hAB : ∀ q, q < H.size → B q → A q) : x_St n d B U H := by
  obtain ⟨c, k, i, f, a, cell, v, h0, h1, h2, h3, h4, h5, h6, h7, h8, h9, h10, h11⟩ := h
  exact ⟨c, k, i, f, a, cell, v, h0, h1, h2, h3, h4, h5, h6, h7, h8, h9, h10, fun z => h11 (hAB a (Array.getElem?_eq_some_iff.mp h4).1 z)⟩
/-- what a throw needs beside the words that keep -/
def x_Th (A : Nat → Prop) (U : State) (H : Heap) : Prop := (va_Nw (.castable "java/lang/IllegalStateException" "java/lang/IllegalStateException") U ∧ va_Nw (.castable "java/lang/IllegalArgumentException" "java/lang/IllegalArgumentException") U) ∧ x_St "UNASSIGNED_STACK" Bundle.steD A U H ∧ x_St "SUPPRESSED_SENTINEL" Bundle.listD A U H ∧ (∀ z ∈ xk_str, ∃ a, vk_R z.1 z.2.1 z.2.2 a U) ∧ (∀ nm ∈ xk_over, va_AO nm U) ∧ (∀ z ∈ xk_unc, va_Nc z.1 z.2 U) ∧ (∀ x ∈ xk_dec, va_Nw (.declares x) U)
theorem x_Th.moved {A : Nat → Prop} {u U : State} {H : Heap} (hW : u.WarmedH U.vm) (h : x_Th A u H) : x_Th A U H :=
  ⟨⟨va_Nw.warmC hW h.1.1, va_Nw.warmC hW h.1.2⟩, h.2.1.moved hW.alike, h.2.2.1.moved hW.alike, fun z hz => (h.2.2.2.1 z hz).imp fun _ q => q.warm hW, fun nm hn => (h.2.2.2.2.1 nm hn).moved hW.alike, fun z hz => (h.2.2.2.2.2.1 z hz).moved hW.alike, fun x hx => va_Nw.warmD hW (h.2.2.2.2.2.2 x hx)⟩
theorem x_Th.kept {A : Nat → Prop} {U : State} {H H1 : Heap} (h : x_Th A U H) (hq : ∀ a : Nat, a < H.size → ¬ A a → H1[a]? = H[a]?) : x_Th A U H1 := ⟨h.1, h.2.1.kept hq, h.2.2.1.kept hq, h.2.2.2⟩
theorem x_Th.narrow {A B : Nat → Prop} {U : State} {H : Heap} (h : x_Th A U H) (hAB : ∀ q, q < H.size → B q → A q) : x_Th B U H := ⟨h.1, h.2.1.narrow hAB, h.2.2.1.narrow hAB, h.2.2.2⟩
/-- the fixed facts of an invocation -/
def x_C (p : Program) (e : Env) (R : Room) (s : State) (m : MethodId) (args : Array Value) (meth : Method) (c : Code) (D : va_G) (cA : Nat → ClassId) (A : Nat → Prop) (cc : ByteArray) (own : String) (nL : Nat) : Prop :=
  p.tables.exec = Jvm.exec ∧ c.code = cc ∧ c.maxLocals = nL ∧ s.vm.findClass own = some m.cls ∧ (∀ w ∈ x_tb, w.before args s = true) ∧ x_K D cA s ∧ meth.locks = false ∧ (∀ q, s.heap.size ≤ q → A q) ∧ x_Th A s s.heap
/-- the addresses of the start are kept, and no pool has fewer objects than at the start -/
def x_E (g0 : Nat → Nat → Nat) (n0 : Nat → Nat) (g : Nat → Nat → Nat) (cnt : Nat → Nat) : Prop := (∀ q i, i < n0 q → g q i = g0 q i) ∧ ∀ q, n0 q ≤ cnt q
/-- THE WALK over pools: from every heap that holds st (at addresses g, which keep those of the start), with the locals L and the stack K, the machine comes to Q -/
def x_V (p : Program) (l : Launch) (e : Env) (R : Room) (s : State) (m : MethodId) (args : Array Value) (below : List Frame) (meth : Method) (c : Code) (D : va_G) (cA : Nat → ClassId) (A : Nat → Prop) (nL : Nat) (g0 : Nat → Nat → Nat) (n0 : Nat → Nat) (Q : State → Prop) (pc : Nat) (L : List (Nat × XV)) (K : List XV) (st : XS) (cells slots : Nat) : Prop :=
  ∀ (g : Nat → Nat → Nat) (H : Heap) (locs : List Loc) (ls : Array Slot), x_W D cA A g st H → x_E g0 n0 g st.2.2.2 → va_S A s.heap H locs → lv_has ls nL (L.map fun z => (z.1, xv g z.2)) → (∀ z ∈ L, xok st.2.2.2 z.2) → (∀ v ∈ K, xok st.2.2.2 v) → W p l e R s m args below meth c H locs cells slots Q (F0 m pc ls (K.map (xv g)))
section XF
variable {p : Program} {l : Launch} {e : Env} {R : Room} {s : State} {m : MethodId} {args : Array Value} {below : List Frame} {meth : Method} {c : Code} {D : va_G} {cA : Nat → ClassId} {A : Nat → Prop} {nL : Nat} {g0 : Nat → Nat → Nat} {n0 : Nat → Nat} {Q : State → Prop} {cc : ByteArray} {own : String} {pc : Nat} {L : List (Nat × XV)} {K : List XV} {st : XS} {cells slots : Nat}
theorem x_iconst (C : x_C p e R s m args meth c D cA A cc own nL) {n : Int} {v : Int32} (hv : Int32.ofInt n = v) (hd : decode cc pc = .ok (.iconst n, 1)) (k : x_V p l e R s m args below meth c D cA A nL g0 n0 Q (pc + 1) L (xI v :: K) st cells slots) : x_V p l e R s m args below meth c D cA A nL g0 n0 Q pc L (K) st cells slots := by
  intro g H locs ls hW hg hS hl hL hK
  exact lv_iconst C.1 C.2.1 hd hv (k g H locs ls hW hg hS hl hL (xok_cs trivial hK))
theorem x_bipush (C : x_C p e R s m args meth c D cA A cc own nL) {n : Int} {v : Int32} (hv : (Int8.ofInt n).toInt32 = v) (hd : decode cc pc = .ok (.bipush n, 2)) (k : x_V p l e R s m args below meth c D cA A nL g0 n0 Q (pc + 2) L (xI v :: K) st cells slots) : x_V p l e R s m args below meth c D cA A nL g0 n0 Q pc L (K) st cells slots := by
  intro g H locs ls hW hg hS hl hL hK
  exact lv_bipush C.1 C.2.1 hd hv (k g H locs ls hW hg hS hl hL (xok_cs trivial hK))
theorem x_sipush (C : x_C p e R s m args meth c D cA A cc own nL) {n : Int} {v : Int32} (hv : (Int16.ofInt n).toInt32 = v) (hd : decode cc pc = .ok (.sipush n, 3)) (k : x_V p l e R s m args below meth c D cA A nL g0 n0 Q (pc + 3) L (xI v :: K) st cells slots) : x_V p l e R s m args below meth c D cA A nL g0 n0 Q pc L (K) st cells slots := by
  intro g H locs ls hW hg hS hl hL hK
  exact lv_sipush C.1 C.2.1 hd hv (k g H locs ls hW hg hS hl hL (xok_cs trivial hK))
theorem x_lconst (C : x_C p e R s m args meth c D cA A cc own nL) {n : Fin 2} {v : Int64} (hv : Int64.ofNat (n : Nat) = v) (hd : decode cc pc = .ok (.lconst n, 1)) (k : x_V p l e R s m args below meth c D cA A nL g0 n0 Q (pc + 1) L (xL v :: K) st cells slots) : x_V p l e R s m args below meth c D cA A nL g0 n0 Q pc L (K) st cells slots := by
  intro g H locs ls hW hg hS hl hL hK
  exact lv_lconst C.1 C.2.1 hd hv (k g H locs ls hW hg hS hl hL (xok_cs trivial hK))
theorem x_null (C : x_C p e R s m args meth c D cA A cc own nL)  (hd : decode cc pc = .ok (.aconst_null, 1)) (k : x_V p l e R s m args below meth c D cA A nL g0 n0 Q (pc + 1) L (xR 0 none :: K) st cells slots) : x_V p l e R s m args below meth c D cA A nL g0 n0 Q pc L (K) st cells slots := by
  intro g H locs ls hW hg hS hl hL hK
  exact lv_null C.1 C.2.1 hd (k g H locs ls hW hg hS hl hL (xok_cs trivial hK))
theorem x_iadd (C : x_C p e R s m args meth c D cA A cc own nL) {x y : Int32} (hd : decode cc pc = .ok (.iadd, 1)) (k : x_V p l e R s m args below meth c D cA A nL g0 n0 Q (pc + 1) L (xI (x + y) :: K) st cells slots) : x_V p l e R s m args below meth c D cA A nL g0 n0 Q pc L (xI y :: xI x :: K) st cells slots := by
  intro g H locs ls hW hg hS hl hL hK
  exact lv_iadd C.1 C.2.1 hd (k g H locs ls hW hg hS hl hL (xok_cs trivial (xok_tl (xok_tl hK))))
theorem x_isub (C : x_C p e R s m args meth c D cA A cc own nL) {x y : Int32} (hd : decode cc pc = .ok (.isub, 1)) (k : x_V p l e R s m args below meth c D cA A nL g0 n0 Q (pc + 1) L (xI (x - y) :: K) st cells slots) : x_V p l e R s m args below meth c D cA A nL g0 n0 Q pc L (xI y :: xI x :: K) st cells slots := by
  intro g H locs ls hW hg hS hl hL hK
  exact lv_isub C.1 C.2.1 hd (k g H locs ls hW hg hS hl hL (xok_cs trivial (xok_tl (xok_tl hK))))
theorem x_imul (C : x_C p e R s m args meth c D cA A cc own nL) {x y : Int32} (hd : decode cc pc = .ok (.imul, 1)) (k : x_V p l e R s m args below meth c D cA A nL g0 n0 Q (pc + 1) L (xI (x * y) :: K) st cells slots) : x_V p l e R s m args below meth c D cA A nL g0 n0 Q pc L (xI y :: xI x :: K) st cells slots := by
  intro g H locs ls hW hg hS hl hL hK
  exact lv_imul C.1 C.2.1 hd (k g H locs ls hW hg hS hl hL (xok_cs trivial (xok_tl (xok_tl hK))))
theorem x_iand (C : x_C p e R s m args meth c D cA A cc own nL) {x y : Int32} (hd : decode cc pc = .ok (.iand, 1)) (k : x_V p l e R s m args below meth c D cA A nL g0 n0 Q (pc + 1) L (xI (x &&& y) :: K) st cells slots) : x_V p l e R s m args below meth c D cA A nL g0 n0 Q pc L (xI y :: xI x :: K) st cells slots := by
  intro g H locs ls hW hg hS hl hL hK
  exact lv_iand C.1 C.2.1 hd (k g H locs ls hW hg hS hl hL (xok_cs trivial (xok_tl (xok_tl hK))))
theorem x_ior (C : x_C p e R s m args meth c D cA A cc own nL) {x y : Int32} (hd : decode cc pc = .ok (.ior, 1)) (k : x_V p l e R s m args below meth c D cA A nL g0 n0 Q (pc + 1) L (xI (x ||| y) :: K) st cells slots) : x_V p l e R s m args below meth c D cA A nL g0 n0 Q pc L (xI y :: xI x :: K) st cells slots := by
  intro g H locs ls hW hg hS hl hL hK
  exact lv_ior C.1 C.2.1 hd (k g H locs ls hW hg hS hl hL (xok_cs trivial (xok_tl (xok_tl hK))))
theorem x_ixor (C : x_C p e R s m args meth c D cA A cc own nL) {x y : Int32} (hd : decode cc pc = .ok (.ixor, 1)) (k : x_V p l e R s m args below meth c D cA A nL g0 n0 Q (pc + 1) L (xI (x ^^^ y) :: K) st cells slots) : x_V p l e R s m args below meth c D cA A nL g0 n0 Q pc L (xI y :: xI x :: K) st cells slots := by
  intro g H locs ls hW hg hS hl hL hK
  exact lv_ixor C.1 C.2.1 hd (k g H locs ls hW hg hS hl hL (xok_cs trivial (xok_tl (xok_tl hK))))
theorem x_ishl (C : x_C p e R s m args meth c D cA A cc own nL) {x y : Int32} (hd : decode cc pc = .ok (.ishl, 1)) (k : x_V p l e R s m args below meth c D cA A nL g0 n0 Q (pc + 1) L (xI (x <<< (y &&& 31)) :: K) st cells slots) : x_V p l e R s m args below meth c D cA A nL g0 n0 Q pc L (xI y :: xI x :: K) st cells slots := by
  intro g H locs ls hW hg hS hl hL hK
  exact lv_ishl C.1 C.2.1 hd (k g H locs ls hW hg hS hl hL (xok_cs trivial (xok_tl (xok_tl hK))))
theorem x_ishr (C : x_C p e R s m args meth c D cA A cc own nL) {x y : Int32} (hd : decode cc pc = .ok (.ishr, 1)) (k : x_V p l e R s m args below meth c D cA A nL g0 n0 Q (pc + 1) L (xI (x >>> (y &&& 31)) :: K) st cells slots) : x_V p l e R s m args below meth c D cA A nL g0 n0 Q pc L (xI y :: xI x :: K) st cells slots := by
  intro g H locs ls hW hg hS hl hL hK
  exact lv_ishr C.1 C.2.1 hd (k g H locs ls hW hg hS hl hL (xok_cs trivial (xok_tl (xok_tl hK))))
theorem x_iushr (C : x_C p e R s m args meth c D cA A cc own nL) {x y : Int32} (hd : decode cc pc = .ok (.iushr, 1)) (k : x_V p l e R s m args below meth c D cA A nL g0 n0 Q (pc + 1) L (xI (x.toUInt32 >>> (y.toUInt32 &&& Int32.toUInt32 31)).toInt32 :: K) st cells slots) : x_V p l e R s m args below meth c D cA A nL g0 n0 Q pc L (xI y :: xI x :: K) st cells slots := by
  intro g H locs ls hW hg hS hl hL hK
  exact lv_iushr C.1 C.2.1 hd rfl (k g H locs ls hW hg hS hl hL (xok_cs trivial (xok_tl (xok_tl hK))))
theorem x_idiv (C : x_C p e R s m args meth c D cA A cc own nL) {x y : Int32} (hne : ¬ y = 0) (hd : decode cc pc = .ok (.idiv, 1)) (k : x_V p l e R s m args below meth c D cA A nL g0 n0 Q (pc + 1) L (xI (x / y) :: K) st cells slots) : x_V p l e R s m args below meth c D cA A nL g0 n0 Q pc L (xI y :: xI x :: K) st cells slots := by
  intro g H locs ls hW hg hS hl hL hK
  exact lv_idiv C.1 C.2.1 hd hne (k g H locs ls hW hg hS hl hL (xok_cs trivial (xok_tl (xok_tl hK))))
theorem x_ladd (C : x_C p e R s m args meth c D cA A cc own nL) {x y : Int64} (hd : decode cc pc = .ok (.ladd, 1)) (k : x_V p l e R s m args below meth c D cA A nL g0 n0 Q (pc + 1) L (xL (x + y) :: K) st cells slots) : x_V p l e R s m args below meth c D cA A nL g0 n0 Q pc L (xL y :: xL x :: K) st cells slots := by
  intro g H locs ls hW hg hS hl hL hK
  exact lv_ladd C.1 C.2.1 hd (k g H locs ls hW hg hS hl hL (xok_cs trivial (xok_tl (xok_tl hK))))
theorem x_lsub (C : x_C p e R s m args meth c D cA A cc own nL) {x y : Int64} (hd : decode cc pc = .ok (.lsub, 1)) (k : x_V p l e R s m args below meth c D cA A nL g0 n0 Q (pc + 1) L (xL (x - y) :: K) st cells slots) : x_V p l e R s m args below meth c D cA A nL g0 n0 Q pc L (xL y :: xL x :: K) st cells slots := by
  intro g H locs ls hW hg hS hl hL hK
  exact lv_lsub C.1 C.2.1 hd (k g H locs ls hW hg hS hl hL (xok_cs trivial (xok_tl (xok_tl hK))))
theorem x_land (C : x_C p e R s m args meth c D cA A cc own nL) {x y : Int64} (hd : decode cc pc = .ok (.land, 1)) (k : x_V p l e R s m args below meth c D cA A nL g0 n0 Q (pc + 1) L (xL (x &&& y) :: K) st cells slots) : x_V p l e R s m args below meth c D cA A nL g0 n0 Q pc L (xL y :: xL x :: K) st cells slots := by
  intro g H locs ls hW hg hS hl hL hK
  exact lv_land C.1 C.2.1 hd (k g H locs ls hW hg hS hl hL (xok_cs trivial (xok_tl (xok_tl hK))))
theorem x_lor (C : x_C p e R s m args meth c D cA A cc own nL) {x y : Int64} (hd : decode cc pc = .ok (.lor, 1)) (k : x_V p l e R s m args below meth c D cA A nL g0 n0 Q (pc + 1) L (xL (x ||| y) :: K) st cells slots) : x_V p l e R s m args below meth c D cA A nL g0 n0 Q pc L (xL y :: xL x :: K) st cells slots := by
  intro g H locs ls hW hg hS hl hL hK
  exact lv_lor C.1 C.2.1 hd (k g H locs ls hW hg hS hl hL (xok_cs trivial (xok_tl (xok_tl hK))))
theorem x_lshl (C : x_C p e R s m args meth c D cA A cc own nL) {x : Int64} {y : Int32} (hd : decode cc pc = .ok (.lshl, 1)) (k : x_V p l e R s m args below meth c D cA A nL g0 n0 Q (pc + 1) L (xL (x <<< (y.toInt64 &&& 63)) :: K) st cells slots) : x_V p l e R s m args below meth c D cA A nL g0 n0 Q pc L (xI y :: xL x :: K) st cells slots := by
  intro g H locs ls hW hg hS hl hL hK
  exact lv_lshl C.1 C.2.1 hd rfl (k g H locs ls hW hg hS hl hL (xok_cs trivial (xok_tl (xok_tl hK))))
theorem x_lshr (C : x_C p e R s m args meth c D cA A cc own nL) {x : Int64} {y : Int32} (hd : decode cc pc = .ok (.lshr, 1)) (k : x_V p l e R s m args below meth c D cA A nL g0 n0 Q (pc + 1) L (xL (x >>> (y.toInt64 &&& 63)) :: K) st cells slots) : x_V p l e R s m args below meth c D cA A nL g0 n0 Q pc L (xI y :: xL x :: K) st cells slots := by
  intro g H locs ls hW hg hS hl hL hK
  exact lv_lshr C.1 C.2.1 hd rfl (k g H locs ls hW hg hS hl hL (xok_cs trivial (xok_tl (xok_tl hK))))
theorem x_lushr (C : x_C p e R s m args meth c D cA A cc own nL) {x : Int64} {y : Int32} (hd : decode cc pc = .ok (.lushr, 1)) (k : x_V p l e R s m args below meth c D cA A nL g0 n0 Q (pc + 1) L (xL (x.toUInt64 >>> (y.toInt64.toUInt64 &&& Int64.toUInt64 63)).toInt64 :: K) st cells slots) : x_V p l e R s m args below meth c D cA A nL g0 n0 Q pc L (xI y :: xL x :: K) st cells slots := by
  intro g H locs ls hW hg hS hl hL hK
  exact lv_lushr C.1 C.2.1 hd rfl (k g H locs ls hW hg hS hl hL (xok_cs trivial (xok_tl (xok_tl hK))))
theorem x_i2l (C : x_C p e R s m args meth c D cA A cc own nL) {x : Int32} (hd : decode cc pc = .ok (.i2l, 1)) (k : x_V p l e R s m args below meth c D cA A nL g0 n0 Q (pc + 1) L (xL x.toInt64 :: K) st cells slots) : x_V p l e R s m args below meth c D cA A nL g0 n0 Q pc L (xI x :: K) st cells slots := by
  intro g H locs ls hW hg hS hl hL hK
  exact lv_i2l C.1 C.2.1 hd rfl (k g H locs ls hW hg hS hl hL (xok_cs trivial (xok_tl hK)))
theorem x_l2i (C : x_C p e R s m args meth c D cA A cc own nL) {x : Int64} (hd : decode cc pc = .ok (.l2i, 1)) (k : x_V p l e R s m args below meth c D cA A nL g0 n0 Q (pc + 1) L (xI x.toInt32 :: K) st cells slots) : x_V p l e R s m args below meth c D cA A nL g0 n0 Q pc L (xL x :: K) st cells slots := by
  intro g H locs ls hW hg hS hl hL hK
  exact lv_l2i C.1 C.2.1 hd rfl (k g H locs ls hW hg hS hl hL (xok_cs trivial (xok_tl hK)))
theorem x_lcmp (C : x_C p e R s m args meth c D cA A cc own nL) {x y : Int64} (hd : decode cc pc = .ok (.lcmp, 1)) (k : x_V p l e R s m args below meth c D cA A nL g0 n0 Q (pc + 1) L (xI (lg_cmp x y) :: K) st cells slots) : x_V p l e R s m args below meth c D cA A nL g0 n0 Q pc L (xL y :: xL x :: K) st cells slots := by
  intro g H locs ls hW hg hS hl hL hK
  exact W.lcmp C.1 C.2.1 hd (k g H locs ls hW hg hS hl hL (xok_cs trivial (xok_tl (xok_tl hK))))
theorem x_pop (C : x_C p e R s m args meth c D cA A cc own nL) {x : Int32} (hd : decode cc pc = .ok (.pop, 1)) (k : x_V p l e R s m args below meth c D cA A nL g0 n0 Q (pc + 1) L (K) st cells slots) : x_V p l e R s m args below meth c D cA A nL g0 n0 Q pc L (xI x :: K) st cells slots := by
  intro g H locs ls hW hg hS hl hL hK
  exact lv_pop C.1 C.2.1 hd rfl (k g H locs ls hW hg hS hl hL (xok_tl hK))
theorem x_dup (C : x_C p e R s m args meth c D cA A cc own nL) {v : XV} (hv : xcat v = 1) (hd : decode cc pc = .ok (.dup, 1)) (k : x_V p l e R s m args below meth c D cA A nL g0 n0 Q (pc + 1) L (v :: v :: K) st cells slots) : x_V p l e R s m args below meth c D cA A nL g0 n0 Q pc L (v :: K) st cells slots := by
  intro g H locs ls hW hg hS hl hL hK
  exact lv_dup C.1 C.2.1 hd ((xcat_v g v).trans hv) (k g H locs ls hW hg hS hl hL (xok_cs (xok_hd hK) hK))
theorem x_dup2 (C : x_C p e R s m args meth c D cA A cc own nL) {v w : XV} (hv : xcat v = 1) (hw : xcat w = 1) (hd : decode cc pc = .ok (.dup2, 1)) (k : x_V p l e R s m args below meth c D cA A nL g0 n0 Q (pc + 1) L (v :: w :: v :: w :: K) st cells slots) : x_V p l e R s m args below meth c D cA A nL g0 n0 Q pc L (v :: w :: K) st cells slots := by
  intro g H locs ls hW hg hS hl hL hK
  exact lv_dup2_11 C.1 C.2.1 hd ((xcat_v g v).trans hv) ((xcat_v g w).trans hw) (k g H locs ls hW hg hS hl hL (xok_cs (xok_hd hK) (xok_cs (xok_hd (xok_tl hK)) hK)))
theorem x_iload (C : x_C p e R s m args meth c D cA A cc own nL) {i : Nat} {x : Int32} (hd : decode cc pc = .ok (.iload i, 2)) (w : Nat) (hw : L[w]? = some (i, xI x)) (k : x_V p l e R s m args below meth c D cA A nL g0 n0 Q (pc + 2) L (xI x :: K) st cells slots) : x_V p l e R s m args below meth c D cA A nL g0 n0 Q pc L K st cells slots := by
  intro g H locs ls hW hg hS hl hL hK
  exact lv_iload C.1 C.2.1 hd (lv_at hl w (x_lat hw)) (k g H locs ls hW hg hS hl hL (xok_cs trivial hK))
theorem x_iload_n (C : x_C p e R s m args meth c D cA A cc own nL) {j : Fin 4} {i : Nat} {x : Int32} (hd : decode cc pc = .ok (.iload_n j, 1)) (hi : (j : Nat) = i) (w : Nat) (hw : L[w]? = some (i, xI x)) (k : x_V p l e R s m args below meth c D cA A nL g0 n0 Q (pc + 1) L (xI x :: K) st cells slots) : x_V p l e R s m args below meth c D cA A nL g0 n0 Q pc L K st cells slots := by
  intro g H locs ls hW hg hS hl hL hK
  exact lv_iload_n C.1 C.2.1 hd hi (lv_at hl w (x_lat hw)) (k g H locs ls hW hg hS hl hL (xok_cs trivial hK))
theorem x_lload (C : x_C p e R s m args meth c D cA A cc own nL) {i : Nat} {x : Int64} (hd : decode cc pc = .ok (.lload i, 2)) (w : Nat) (hw : L[w]? = some (i, xL x)) (k : x_V p l e R s m args below meth c D cA A nL g0 n0 Q (pc + 2) L (xL x :: K) st cells slots) : x_V p l e R s m args below meth c D cA A nL g0 n0 Q pc L K st cells slots := by
  intro g H locs ls hW hg hS hl hL hK
  exact lv_lload C.1 C.2.1 hd (lv_at hl w (x_lat hw)) (k g H locs ls hW hg hS hl hL (xok_cs trivial hK))
theorem x_lload_n (C : x_C p e R s m args meth c D cA A cc own nL) {j : Fin 4} {i : Nat} {x : Int64} (hd : decode cc pc = .ok (.lload_n j, 1)) (hi : (j : Nat) = i) (w : Nat) (hw : L[w]? = some (i, xL x)) (k : x_V p l e R s m args below meth c D cA A nL g0 n0 Q (pc + 1) L (xL x :: K) st cells slots) : x_V p l e R s m args below meth c D cA A nL g0 n0 Q pc L K st cells slots := by
  intro g H locs ls hW hg hS hl hL hK
  exact lv_lload_n C.1 C.2.1 hd hi (lv_at hl w (x_lat hw)) (k g H locs ls hW hg hS hl hL (xok_cs trivial hK))
theorem x_aload (C : x_C p e R s m args meth c D cA A cc own nL) {i : Nat} {z : (Nat × Option Nat) ⊕ Nat} (hd : decode cc pc = .ok (.aload i, 2)) (w : Nat) (hw : L[w]? = some (i, .inr (.inr z))) (k : x_V p l e R s m args below meth c D cA A nL g0 n0 Q (pc + 2) L (.inr (.inr z) :: K) st cells slots) : x_V p l e R s m args below meth c D cA A nL g0 n0 Q pc L K st cells slots := by
  intro g H locs ls hW hg hS hl hL hK
  have hz := hL _ (List.mem_of_getElem? hw)
  have ha := lv_at hl w (x_lat (g := g) hw)
  have kk := k g H locs ls hW hg hS hl hL (xok_cs hz hK)
  rcases z with ⟨q, _ | a⟩ | a
  · exact lv_aloadN C.1 C.2.1 hd ha kk
  · exact lv_aload C.1 C.2.1 hd ha kk
  · exact lv_aload C.1 C.2.1 hd ha kk
theorem x_aload_n (C : x_C p e R s m args meth c D cA A cc own nL) {j : Fin 4} {i : Nat} {z : (Nat × Option Nat) ⊕ Nat} (hd : decode cc pc = .ok (.aload_n j, 1)) (hi : (j : Nat) = i) (w : Nat) (hw : L[w]? = some (i, .inr (.inr z))) (k : x_V p l e R s m args below meth c D cA A nL g0 n0 Q (pc + 1) L (.inr (.inr z) :: K) st cells slots) : x_V p l e R s m args below meth c D cA A nL g0 n0 Q pc L K st cells slots := by
  intro g H locs ls hW hg hS hl hL hK
  have hz := hL _ (List.mem_of_getElem? hw)
  have ha := lv_at hl w (x_lat (g := g) hw)
  have kk := k g H locs ls hW hg hS hl hL (xok_cs hz hK)
  rcases z with ⟨q, _ | a⟩ | a
  · exact lv_aload_nN C.1 C.2.1 hd hi ha kk
  · exact lv_aload_n C.1 C.2.1 hd hi ha kk
  · exact lv_aload_n C.1 C.2.1 hd hi ha kk
theorem x_istore (C : x_C p e R s m args meth c D cA A cc own nL) {i : Nat} {x : Int32} {L2 : List (Nat × XV)} (hd : decode cc pc = .ok (.istore i, 2)) (hn : i < nL) (h2 : (i, xI x) :: L.filter (x_f1 i) = L2) (k : x_V p l e R s m args below meth c D cA A nL g0 n0 Q (pc + 2) L2 K st cells slots) : x_V p l e R s m args below meth c D cA A nL g0 n0 Q pc L (xI x :: K) st cells slots := by
  intro g H locs ls hW hg hS hl hL hK
  subst h2
  exact lv_istore C.1 C.2.1 hd hl hn (x_m1 g i (xI x) L) (fun ls2 hl2 => k g H locs ls2 hW hg hS hl2 (xokL_cs trivial (xokL_f hL)) (xok_tl hK))
theorem x_istore_n (C : x_C p e R s m args meth c D cA A cc own nL) {j : Fin 4} {i : Nat} {x : Int32} {L2 : List (Nat × XV)} (hd : decode cc pc = .ok (.istore_n j, 1)) (hi : (j : Nat) = i) (hn : i < nL) (h2 : (i, xI x) :: L.filter (x_f1 i) = L2) (k : x_V p l e R s m args below meth c D cA A nL g0 n0 Q (pc + 1) L2 K st cells slots) : x_V p l e R s m args below meth c D cA A nL g0 n0 Q pc L (xI x :: K) st cells slots := by
  intro g H locs ls hW hg hS hl hL hK
  subst h2
  exact lv_istore_n C.1 C.2.1 hd hi hl hn (x_m1 g i (xI x) L) (fun ls2 hl2 => k g H locs ls2 hW hg hS hl2 (xokL_cs trivial (xokL_f hL)) (xok_tl hK))
theorem x_lstore (C : x_C p e R s m args meth c D cA A cc own nL) {i : Nat} {x : Int64} {L2 : List (Nat × XV)} (hd : decode cc pc = .ok (.lstore i, 2)) (hn : i + 1 < nL) (h2 : (i, xL x) :: L.filter (x_f2 i) = L2) (k : x_V p l e R s m args below meth c D cA A nL g0 n0 Q (pc + 2) L2 K st cells slots) : x_V p l e R s m args below meth c D cA A nL g0 n0 Q pc L (xL x :: K) st cells slots := by
  intro g H locs ls hW hg hS hl hL hK
  subst h2
  exact lv_lstore C.1 C.2.1 hd hl hn (x_m2 g i (xL x) L) (fun ls2 hl2 => k g H locs ls2 hW hg hS hl2 (xokL_cs trivial (xokL_f hL)) (xok_tl hK))
theorem x_lstore_n (C : x_C p e R s m args meth c D cA A cc own nL) {j : Fin 4} {i : Nat} {x : Int64} {L2 : List (Nat × XV)} (hd : decode cc pc = .ok (.lstore_n j, 1)) (hi : (j : Nat) = i) (hn : i + 1 < nL) (h2 : (i, xL x) :: L.filter (x_f2 i) = L2) (k : x_V p l e R s m args below meth c D cA A nL g0 n0 Q (pc + 1) L2 K st cells slots) : x_V p l e R s m args below meth c D cA A nL g0 n0 Q pc L (xL x :: K) st cells slots := by
  intro g H locs ls hW hg hS hl hL hK
  subst h2
  exact lv_lstore_n C.1 C.2.1 hd hi hl hn (x_m2 g i (xL x) L) (fun ls2 hl2 => k g H locs ls2 hW hg hS hl2 (xokL_cs trivial (xokL_f hL)) (xok_tl hK))
theorem x_astore (C : x_C p e R s m args meth c D cA A cc own nL) {i : Nat} {z : (Nat × Option Nat) ⊕ Nat} {L2 : List (Nat × XV)} (hd : decode cc pc = .ok (.astore i, 2)) (hn : i < nL) (h2 : (i, .inr (.inr z)) :: L.filter (x_f1 i) = L2) (k : x_V p l e R s m args below meth c D cA A nL g0 n0 Q (pc + 2) L2 K st cells slots) : x_V p l e R s m args below meth c D cA A nL g0 n0 Q pc L (.inr (.inr z) :: K) st cells slots := by
  intro g H locs ls hW hg hS hl hL hK
  subst h2
  have kk := fun ls2 hl2 => k g H locs ls2 hW hg hS hl2 (xokL_cs (xok_hd hK) (xokL_f hL)) (xok_tl hK)
  rcases z with ⟨q, _ | a⟩ | a
  · exact lv_astoreN C.1 C.2.1 hd hl hn (x_m1 g i (xR q none) L) kk
  · exact lv_astore C.1 C.2.1 hd hl hn (x_m1 g i (xR q (some a)) L) kk
  · exact lv_astore C.1 C.2.1 hd hl hn (x_m1 g i (xA a) L) kk
theorem x_astore_n (C : x_C p e R s m args meth c D cA A cc own nL) {j : Fin 4} {i : Nat} {z : (Nat × Option Nat) ⊕ Nat} {L2 : List (Nat × XV)} (hd : decode cc pc = .ok (.astore_n j, 1)) (hi : (j : Nat) = i) (hn : i < nL) (h2 : (i, .inr (.inr z)) :: L.filter (x_f1 i) = L2) (k : x_V p l e R s m args below meth c D cA A nL g0 n0 Q (pc + 1) L2 K st cells slots) : x_V p l e R s m args below meth c D cA A nL g0 n0 Q pc L (.inr (.inr z) :: K) st cells slots := by
  intro g H locs ls hW hg hS hl hL hK
  subst h2
  have kk := fun ls2 hl2 => k g H locs ls2 hW hg hS hl2 (xokL_cs (xok_hd hK) (xokL_f hL)) (xok_tl hK)
  rcases z with ⟨q, _ | a⟩ | a
  · exact lv_astore_nN C.1 C.2.1 hd hi hl hn (x_m1 g i (xR q none) L) kk
  · exact lv_astore_n C.1 C.2.1 hd hi hl hn (x_m1 g i (xR q (some a)) L) kk
  · exact lv_astore_n C.1 C.2.1 hd hi hl hn (x_m1 g i (xA a) L) kk
theorem x_iinc (C : x_C p e R s m args meth c D cA A cc own nL) {i : Nat} {n : Int} {x v : Int32} {L2 : List (Nat × XV)} (hd : decode cc pc = .ok (.iinc i n, 3)) (w : Nat) (hw : L[w]? = some (i, xI x)) (hv : x + Int32.ofInt n = v) (hn : i < nL) (h2 : (i, xI v) :: L.filter (x_f1 i) = L2) (k : x_V p l e R s m args below meth c D cA A nL g0 n0 Q (pc + 3) L2 K st cells slots) : x_V p l e R s m args below meth c D cA A nL g0 n0 Q pc L K st cells slots := by
  intro g H locs ls hW hg hS hl hL hK
  subst h2
  exact lv_iinc C.1 C.2.1 hd hl (k := w) (x_lat hw) hv hn (x_m1 g i (xI v) L) (fun ls2 hl2 => k g H locs ls2 hW hg hS hl2 (xokL_cs trivial (xokL_f hL)) hK)
theorem x_goto (C : x_C p e R s m args meth c D cA A cc own nL) {off : Int} {tgt : Nat} (hd : decode cc pc = .ok (.goto off, 3)) (ht : (pc : Int) + off = (tgt : Int)) (k : x_V p l e R s m args below meth c D cA A nL g0 n0 Q tgt L K st cells slots) : x_V p l e R s m args below meth c D cA A nL g0 n0 Q pc L K st cells slots := by
  intro g H locs ls hW hg hS hl hL hK
  exact lv_goto C.1 C.2.1 hd ht (k g H locs ls hW hg hS hl hL hK)
theorem x_icmp_eq (C : x_C p e R s m args meth c D cA A cc own nL) {x y : Int32} {off : Int} {tgt : Nat} (hd : decode cc pc = .ok (.if_icmp .eq off, 3)) (ht : (pc : Int) + off = (tgt : Int)) (kt : x = y → x_V p l e R s m args below meth c D cA A nL g0 n0 Q tgt L K st cells slots) (kf : ¬ x = y → x_V p l e R s m args below meth c D cA A nL g0 n0 Q (pc + 3) L K st cells slots) : x_V p l e R s m args below meth c D cA A nL g0 n0 Q pc L (xI y :: xI x :: K) st cells slots := by
  intro g H locs ls hW hg hS hl hL hK
  exact lv_icmp_eq C.1 C.2.1 hd ht (fun q => kt q g H locs ls hW hg hS hl hL (xok_tl (xok_tl hK))) (fun q => kf q g H locs ls hW hg hS hl hL (xok_tl (xok_tl hK)))
theorem x_if_eq (C : x_C p e R s m args meth c D cA A cc own nL) {x : Int32} {off : Int} {tgt : Nat} (hd : decode cc pc = .ok (.ifCond .eq off, 3)) (ht : (pc : Int) + off = (tgt : Int)) (kt : x = 0 → x_V p l e R s m args below meth c D cA A nL g0 n0 Q tgt L K st cells slots) (kf : ¬ x = 0 → x_V p l e R s m args below meth c D cA A nL g0 n0 Q (pc + 3) L K st cells slots) : x_V p l e R s m args below meth c D cA A nL g0 n0 Q pc L (xI x :: K) st cells slots := by
  intro g H locs ls hW hg hS hl hL hK
  exact lv_if_eq C.1 C.2.1 hd ht (fun q => kt q g H locs ls hW hg hS hl hL (xok_tl hK)) (fun q => kf q g H locs ls hW hg hS hl hL (xok_tl hK))
theorem x_icmp_ne (C : x_C p e R s m args meth c D cA A cc own nL) {x y : Int32} {off : Int} {tgt : Nat} (hd : decode cc pc = .ok (.if_icmp .ne off, 3)) (ht : (pc : Int) + off = (tgt : Int)) (kt : ¬ x = y → x_V p l e R s m args below meth c D cA A nL g0 n0 Q tgt L K st cells slots) (kf : x = y → x_V p l e R s m args below meth c D cA A nL g0 n0 Q (pc + 3) L K st cells slots) : x_V p l e R s m args below meth c D cA A nL g0 n0 Q pc L (xI y :: xI x :: K) st cells slots := by
  intro g H locs ls hW hg hS hl hL hK
  exact lv_icmp_ne C.1 C.2.1 hd ht (fun q => kt q g H locs ls hW hg hS hl hL (xok_tl (xok_tl hK))) (fun q => kf q g H locs ls hW hg hS hl hL (xok_tl (xok_tl hK)))
theorem x_if_ne (C : x_C p e R s m args meth c D cA A cc own nL) {x : Int32} {off : Int} {tgt : Nat} (hd : decode cc pc = .ok (.ifCond .ne off, 3)) (ht : (pc : Int) + off = (tgt : Int)) (kt : ¬ x = 0 → x_V p l e R s m args below meth c D cA A nL g0 n0 Q tgt L K st cells slots) (kf : x = 0 → x_V p l e R s m args below meth c D cA A nL g0 n0 Q (pc + 3) L K st cells slots) : x_V p l e R s m args below meth c D cA A nL g0 n0 Q pc L (xI x :: K) st cells slots := by
  intro g H locs ls hW hg hS hl hL hK
  exact lv_if_ne C.1 C.2.1 hd ht (fun q => kt q g H locs ls hW hg hS hl hL (xok_tl hK)) (fun q => kf q g H locs ls hW hg hS hl hL (xok_tl hK))
theorem x_icmp_lt (C : x_C p e R s m args meth c D cA A cc own nL) {x y : Int32} {off : Int} {tgt : Nat} (hd : decode cc pc = .ok (.if_icmp .lt off, 3)) (ht : (pc : Int) + off = (tgt : Int)) (kt : x < y → x_V p l e R s m args below meth c D cA A nL g0 n0 Q tgt L K st cells slots) (kf : ¬ x < y → x_V p l e R s m args below meth c D cA A nL g0 n0 Q (pc + 3) L K st cells slots) : x_V p l e R s m args below meth c D cA A nL g0 n0 Q pc L (xI y :: xI x :: K) st cells slots := by
  intro g H locs ls hW hg hS hl hL hK
  exact lv_icmp_lt C.1 C.2.1 hd ht (fun q => kt q g H locs ls hW hg hS hl hL (xok_tl (xok_tl hK))) (fun q => kf q g H locs ls hW hg hS hl hL (xok_tl (xok_tl hK)))
theorem x_if_lt (C : x_C p e R s m args meth c D cA A cc own nL) {x : Int32} {off : Int} {tgt : Nat} (hd : decode cc pc = .ok (.ifCond .lt off, 3)) (ht : (pc : Int) + off = (tgt : Int)) (kt : x < 0 → x_V p l e R s m args below meth c D cA A nL g0 n0 Q tgt L K st cells slots) (kf : ¬ x < 0 → x_V p l e R s m args below meth c D cA A nL g0 n0 Q (pc + 3) L K st cells slots) : x_V p l e R s m args below meth c D cA A nL g0 n0 Q pc L (xI x :: K) st cells slots := by
  intro g H locs ls hW hg hS hl hL hK
  exact lv_if_lt C.1 C.2.1 hd ht (fun q => kt q g H locs ls hW hg hS hl hL (xok_tl hK)) (fun q => kf q g H locs ls hW hg hS hl hL (xok_tl hK))
theorem x_icmp_ge (C : x_C p e R s m args meth c D cA A cc own nL) {x y : Int32} {off : Int} {tgt : Nat} (hd : decode cc pc = .ok (.if_icmp .ge off, 3)) (ht : (pc : Int) + off = (tgt : Int)) (kt : y ≤ x → x_V p l e R s m args below meth c D cA A nL g0 n0 Q tgt L K st cells slots) (kf : ¬ y ≤ x → x_V p l e R s m args below meth c D cA A nL g0 n0 Q (pc + 3) L K st cells slots) : x_V p l e R s m args below meth c D cA A nL g0 n0 Q pc L (xI y :: xI x :: K) st cells slots := by
  intro g H locs ls hW hg hS hl hL hK
  exact lv_icmp_ge C.1 C.2.1 hd ht (fun q => kt q g H locs ls hW hg hS hl hL (xok_tl (xok_tl hK))) (fun q => kf q g H locs ls hW hg hS hl hL (xok_tl (xok_tl hK)))
theorem x_if_ge (C : x_C p e R s m args meth c D cA A cc own nL) {x : Int32} {off : Int} {tgt : Nat} (hd : decode cc pc = .ok (.ifCond .ge off, 3)) (ht : (pc : Int) + off = (tgt : Int)) (kt : 0 ≤ x → x_V p l e R s m args below meth c D cA A nL g0 n0 Q tgt L K st cells slots) (kf : ¬ 0 ≤ x → x_V p l e R s m args below meth c D cA A nL g0 n0 Q (pc + 3) L K st cells slots) : x_V p l e R s m args below meth c D cA A nL g0 n0 Q pc L (xI x :: K) st cells slots := by
  intro g H locs ls hW hg hS hl hL hK
  exact lv_if_ge C.1 C.2.1 hd ht (fun q => kt q g H locs ls hW hg hS hl hL (xok_tl hK)) (fun q => kf q g H locs ls hW hg hS hl hL (xok_tl hK))
theorem x_icmp_gt (C : x_C p e R s m args meth c D cA A cc own nL) {x y : Int32} {off : Int} {tgt : Nat} (hd : decode cc pc = .ok (.if_icmp .gt off, 3)) (ht : (pc : Int) + off = (tgt : Int)) (kt : y < x → x_V p l e R s m args below meth c D cA A nL g0 n0 Q tgt L K st cells slots) (kf : ¬ y < x → x_V p l e R s m args below meth c D cA A nL g0 n0 Q (pc + 3) L K st cells slots) : x_V p l e R s m args below meth c D cA A nL g0 n0 Q pc L (xI y :: xI x :: K) st cells slots := by
  intro g H locs ls hW hg hS hl hL hK
  exact lv_icmp_gt C.1 C.2.1 hd ht (fun q => kt q g H locs ls hW hg hS hl hL (xok_tl (xok_tl hK))) (fun q => kf q g H locs ls hW hg hS hl hL (xok_tl (xok_tl hK)))
theorem x_if_gt (C : x_C p e R s m args meth c D cA A cc own nL) {x : Int32} {off : Int} {tgt : Nat} (hd : decode cc pc = .ok (.ifCond .gt off, 3)) (ht : (pc : Int) + off = (tgt : Int)) (kt : 0 < x → x_V p l e R s m args below meth c D cA A nL g0 n0 Q tgt L K st cells slots) (kf : ¬ 0 < x → x_V p l e R s m args below meth c D cA A nL g0 n0 Q (pc + 3) L K st cells slots) : x_V p l e R s m args below meth c D cA A nL g0 n0 Q pc L (xI x :: K) st cells slots := by
  intro g H locs ls hW hg hS hl hL hK
  exact lv_if_gt C.1 C.2.1 hd ht (fun q => kt q g H locs ls hW hg hS hl hL (xok_tl hK)) (fun q => kf q g H locs ls hW hg hS hl hL (xok_tl hK))
theorem x_icmp_le (C : x_C p e R s m args meth c D cA A cc own nL) {x y : Int32} {off : Int} {tgt : Nat} (hd : decode cc pc = .ok (.if_icmp .le off, 3)) (ht : (pc : Int) + off = (tgt : Int)) (kt : x ≤ y → x_V p l e R s m args below meth c D cA A nL g0 n0 Q tgt L K st cells slots) (kf : ¬ x ≤ y → x_V p l e R s m args below meth c D cA A nL g0 n0 Q (pc + 3) L K st cells slots) : x_V p l e R s m args below meth c D cA A nL g0 n0 Q pc L (xI y :: xI x :: K) st cells slots := by
  intro g H locs ls hW hg hS hl hL hK
  exact lv_icmp_le C.1 C.2.1 hd ht (fun q => kt q g H locs ls hW hg hS hl hL (xok_tl (xok_tl hK))) (fun q => kf q g H locs ls hW hg hS hl hL (xok_tl (xok_tl hK)))
theorem x_if_le (C : x_C p e R s m args meth c D cA A cc own nL) {x : Int32} {off : Int} {tgt : Nat} (hd : decode cc pc = .ok (.ifCond .le off, 3)) (ht : (pc : Int) + off = (tgt : Int)) (kt : x ≤ 0 → x_V p l e R s m args below meth c D cA A nL g0 n0 Q tgt L K st cells slots) (kf : ¬ x ≤ 0 → x_V p l e R s m args below meth c D cA A nL g0 n0 Q (pc + 3) L K st cells slots) : x_V p l e R s m args below meth c D cA A nL g0 n0 Q pc L (xI x :: K) st cells slots := by
  intro g H locs ls hW hg hS hl hL hK
  exact lv_if_le C.1 C.2.1 hd ht (fun q => kt q g H locs ls hW hg hS hl hL (xok_tl hK)) (fun q => kf q g H locs ls hW hg hS hl hL (xok_tl hK))
theorem x_ifnull (C : x_C p e R s m args meth c D cA A cc own nL) {q : Nat} {o : Option Nat} {off : Int} {tgt : Nat} (hd : decode cc pc = .ok (.ifnull off, 3)) (ht : (pc : Int) + off = (tgt : Int)) (kt : o = none → x_V p l e R s m args below meth c D cA A nL g0 n0 Q tgt L K st cells slots) (kf : ∀ i, o = some i → x_V p l e R s m args below meth c D cA A nL g0 n0 Q (pc + 3) L K st cells slots) : x_V p l e R s m args below meth c D cA A nL g0 n0 Q pc L (xR q o :: K) st cells slots := by
  intro g H locs ls hW hg hS hl hL hK
  cases o with
  | none => exact lv_ifnullN C.1 C.2.1 hd ht (kt rfl g H locs ls hW hg hS hl hL (xok_tl hK))
  | some i => exact lv_ifnull C.1 C.2.1 hd (kf i rfl g H locs ls hW hg hS hl hL (xok_tl hK))
theorem x_ifnonnull (C : x_C p e R s m args meth c D cA A cc own nL) {q : Nat} {o : Option Nat} {off : Int} {tgt : Nat} (hd : decode cc pc = .ok (.ifnonnull off, 3)) (ht : (pc : Int) + off = (tgt : Int)) (kt : ∀ i, o = some i → x_V p l e R s m args below meth c D cA A nL g0 n0 Q tgt L K st cells slots) (kf : o = none → x_V p l e R s m args below meth c D cA A nL g0 n0 Q (pc + 3) L K st cells slots) : x_V p l e R s m args below meth c D cA A nL g0 n0 Q pc L (xR q o :: K) st cells slots := by
  intro g H locs ls hW hg hS hl hL hK
  cases o with
  | none => exact lv_ifnonnullN C.1 C.2.1 hd (kf rfl g H locs ls hW hg hS hl hL (xok_tl hK))
  | some i => exact lv_ifnonnull C.1 C.2.1 hd ht (kt i rfl g H locs ls hW hg hS hl hL (xok_tl hK))
theorem xrf_eq {g : Nat → Nat → Nat} {q : Nat} {o : Option Nat} : xrf g q o = va_rf (o.map (g q)) := by cases o <;> rfl
theorem x_inj {H : Heap} {g : Nat → Nat → Nat} (hW : x_W D cA A g st H) {q : Nat} {a b : Option Nat} (ha : xok st.2.2.2 (xR q a)) (hb : xok st.2.2.2 (xR q b)) (h : a.map (g q) = b.map (g q)) : a = b := by
  cases a with
  | none => cases b with
    | none => rfl
    | some j => cases h
  | some i => cases b with
    | none => cases h
    | some j => rw [(hW.2.1 q i q j ha hb (Option.some.inj h)).2]
theorem x_acmp_eq (C : x_C p e R s m args meth c D cA A cc own nL) {q : Nat} {a b : Option Nat} {off : Int} {tgt : Nat} (hd : decode cc pc = .ok (.if_acmp .eq off, 3)) (ht : (pc : Int) + off = (tgt : Int)) (kt : a = b → x_V p l e R s m args below meth c D cA A nL g0 n0 Q tgt L K st cells slots) (kf : ¬ a = b → x_V p l e R s m args below meth c D cA A nL g0 n0 Q (pc + 3) L K st cells slots) : x_V p l e R s m args below meth c D cA A nL g0 n0 Q pc L (xR q b :: xR q a :: K) st cells slots := by
  intro g H locs ls hW hg hS hl hL hK
  refine W.eq (g2 := F0 m pc ls (va_rf (b.map (g q)) :: va_rf (a.map (g q)) :: K.map (xv g))) (by show F0 m pc ls (xrf g q b :: xrf g q a :: _) = _; rw [xrf_eq, xrf_eq]) ?_
  exact lv_acmp_eq C.1 C.2.1 hd ht (fun z => kt (x_inj hW (xok_hd (xok_tl hK)) (xok_hd hK) z) g H locs ls hW hg hS hl hL (xok_tl (xok_tl hK))) (fun z => kf (fun w => z (by rw [w])) g H locs ls hW hg hS hl hL (xok_tl (xok_tl hK)))
theorem x_acmp_ne (C : x_C p e R s m args meth c D cA A cc own nL) {q : Nat} {a b : Option Nat} {off : Int} {tgt : Nat} (hd : decode cc pc = .ok (.if_acmp .ne off, 3)) (ht : (pc : Int) + off = (tgt : Int)) (kt : ¬ a = b → x_V p l e R s m args below meth c D cA A nL g0 n0 Q tgt L K st cells slots) (kf : a = b → x_V p l e R s m args below meth c D cA A nL g0 n0 Q (pc + 3) L K st cells slots) : x_V p l e R s m args below meth c D cA A nL g0 n0 Q pc L (xR q b :: xR q a :: K) st cells slots := by
  intro g H locs ls hW hg hS hl hL hK
  refine W.eq (g2 := F0 m pc ls (va_rf (b.map (g q)) :: va_rf (a.map (g q)) :: K.map (xv g))) (by show F0 m pc ls (xrf g q b :: xrf g q a :: _) = _; rw [xrf_eq, xrf_eq]) ?_
  exact lv_acmp_ne C.1 C.2.1 hd ht (fun z => kt (fun w => z (by rw [w])) g H locs ls hW hg hS hl hL (xok_tl (xok_tl hK))) (fun z => kf (x_inj hW (xok_hd (xok_tl hK)) (xok_hd hK) z) g H locs ls hW hg hS hl hL (xok_tl (xok_tl hK)))
theorem x_tin (C : x_C p e R s m args meth c D cA A cc own nL) {dflt lo hi : Int} {offs : Array Int} {len : Nat} {x : Int32} {off : Int} {tgt : Nat} (hd : decode cc pc = .ok (.tableswitch dflt lo hi offs, len)) (h1 : ¬ x.toInt < lo) (h2 : ¬ hi < x.toInt) (ho : offs[(x.toInt - lo).toNat]? = some off) (ht : (pc : Int) + off = (tgt : Int)) (k : x_V p l e R s m args below meth c D cA A nL g0 n0 Q tgt L K st cells slots) : x_V p l e R s m args below meth c D cA A nL g0 n0 Q pc L (xI x :: K) st cells slots := by
  intro g H locs ls hW hg hS hl hL hK
  exact lv_tableIn C.1 C.2.1 hd h1 h2 ho ht (k g H locs ls hW hg hS hl hL (xok_tl hK))
theorem x_tout (C : x_C p e R s m args meth c D cA A cc own nL) {dflt lo hi : Int} {offs : Array Int} {len : Nat} {x : Int32} {tgt : Nat} (hd : decode cc pc = .ok (.tableswitch dflt lo hi offs, len)) (h : x.toInt < lo ∨ hi < x.toInt) (ht : (pc : Int) + dflt = (tgt : Int)) (k : x_V p l e R s m args below meth c D cA A nL g0 n0 Q tgt L K st cells slots) : x_V p l e R s m args below meth c D cA A nL g0 n0 Q pc L (xI x :: K) st cells slots := by
  intro g H locs ls hW hg hS hl hL hK
  exact lv_tableOut C.1 C.2.1 hd h ht (k g H locs ls hW hg hS hl hL (xok_tl hK))
theorem x_ldcw (C : x_C p e R s m args meth c D cA A cc own nL) {index : Nat} {v : Int32} (hc : Jvm.Cond.constant own index v ∈ x_tb) (hd : decode cc pc = .ok (.ldc_w index, 3)) (k : x_V p l e R s m args below meth c D cA A nL g0 n0 Q (pc + 3) L (xI v :: K) st cells slots) : x_V p l e R s m args below meth c D cA A nL g0 n0 Q pc L K st cells slots := by
  intro g H locs ls hW hg hS hl hL hK
  exact lv_ldcw C.1 C.2.1 C.2.2.2.1 (C.2.2.2.2.1 _ hc) hd (k g H locs ls hW hg hS hl hL (xok_cs trivial hK))
theorem x_ldc2 (C : x_C p e R s m args meth c D cA A cc own nL) {index : Nat} {v : Int64} (hc : Jvm.Cond.constantLong own index v ∈ x_tb) (hd : decode cc pc = .ok (.ldc2_w index, 3)) (k : x_V p l e R s m args below meth c D cA A nL g0 n0 Q (pc + 3) L (xL v :: K) st cells slots) : x_V p l e R s m args below meth c D cA A nL g0 n0 Q pc L K st cells slots := by
  intro g H locs ls hW hg hS hl hL hK
  exact lv_ldc2 C.1 C.2.1 C.2.2.2.1 (C.2.2.2.2.1 _ hc) hd (k g H locs ls hW hg hS hl hL (xok_cs trivial hK))

end XF
end
section
/-! HEAP ROWS over pools: fields, arrays, new objects -/
theorem xk_cok {q ci : Nat} (h : xk_c q = some ci) : ci < 7 ∧ ∃ r, xk_cl[ci]? = some r ∧ r.2.2 = xk_n q := by
  unfold xk_c at h
  split at h <;> first | (cases h; exact ⟨by decide, _, rfl, rfl⟩) | cases h
theorem xk_getD {ci : Nat} {r : vw_C} (h : xk_cl[ci]? = some r) : xk_cl.getD ci ("", ft_0, 0) = r := by
  rw [List.getD_eq_getElem?_getD, h]; rfl
theorem xk_lt {ci : Nat} {r : vw_C} (h : xk_cl[ci]? = some r) : ci < 7 := (List.getElem?_eq_some_iff.mp h).1
theorem xk_inr {ci : Nat} {r : vw_C} (h : xk_cl[ci]? = some r) : ∀ w ∈ u_ws r.1 r.2.1 r.2.2, w ∈ x_tb := by
  have h1 := xk_in ci (xk_lt h); rw [xk_getD h] at h1; exact h1
theorem xk_tyr {ci : Nat} {r : vw_C} (h : xk_cl[ci]? = some r) : ∀ k, k < r.2.2 → parseFieldDescriptor (r.2.1 k).2.2.1 = some (xk_ty ci k) := by
  have h1 := xk_tyok ci (xk_lt h); rw [xk_getD h] at h1; exact h1
theorem xk_nmr {ci : Nat} {r : vw_C} (h : xk_cl[ci]? = some r) : ∀ a, a < r.2.2 → ∀ b, b < r.2.2 → a ≠ b → (r.2.1 a).2.1 ≠ (r.2.1 b).2.1 := by
  have h1 := xk_nm ci (xk_lt h); rw [xk_getD h] at h1; exact h1
theorem xent_obj {cA : Nat → ClassId} {g : Nat → Nat → Nat} {st : XS} {q i ci : Nat} (hc : xk_c q = some ci) : xent cA g st q i = .inr (ci, (List.range (xk_n q)).map (xval g st q i)) := by
  unfold xent; rw [hc]
theorem xent_arr {cA : Nat → ClassId} {g : Nat → Nat → Nat} {st : XS} {q i : Nat} (hc : xk_c q = none) : xent cA g st q i = .inl (cA q, xarr g st q i) := by
  unfold xent; rw [hc]
/-- the entry 'index' of own's pool is the field k of the pool q's class -/
def x_FL (own : String) (index q k : Nat) : Prop := ∃ (ci : Nat) (r : vw_C), xk_c q = some ci ∧ xk_cl[ci]? = some r ∧ k < r.2.2 ∧ (Cond.fieldLink own index (r.2.1 k).1 (r.2.1 k).2.1 (r.2.1 k).2.2.1 ∈ x_tb ∨ ∃ host, Cond.fieldLinkNest own index (r.2.1 k).1 (r.2.1 k).2.1 (r.2.1 k).2.2.1 host ∈ xk_nest)
theorem x_fs {g : Nat → Nat → Nat} {st : XS} {q i k n : Nat} (hk : k < n) : ((List.range n).map (xval g st q i))[k]? = some (xval g st q i k) := by
  rw [List.getElem?_map, List.getElem?_range hk]; rfl
section XG
variable {p : Program} {l : Launch} {e : Env} {R : Room} {s : State} {m : MethodId} {args : Array Value} {below : List Frame} {meth : Method} {c : Code} {D : va_G} {cA : Nat → ClassId} {A : Nat → Prop} {nL : Nat} {g0 : Nat → Nat → Nat} {n0 : Nat → Nat} {Q : State → Prop} {cc : ByteArray} {own : String} {pc : Nat} {L : List (Nat × XV)} {K : List XV} {st : XS} {cells slots : Nat} {H : Heap} {locs : List Loc} {ls : Array Slot} {rest : List Value} {g : Nat → Nat → Nat}
theorem x_get0 (C : x_C p e R s m args meth c D cA A cc own nL) {q i k index : Nat} (hl : x_FL own index q k) (hd : decode cc pc = .ok (.getfield index, 3)) (hW : x_W D cA A g st H) (hi : i < st.2.2.2 q) (kk : W p l e R s m args below meth c H locs cells slots Q (F0 m (pc + 3) ls (xval g st q i k :: rest))) : W p l e R s m args below meth c H locs cells slots Q (F0 m pc ls (.ref (g q i) :: rest)) := by
  obtain ⟨ci, r, hc, hr, hk, hlk⟩ := hl
  obtain ⟨-, r', hr', hn⟩ := xk_cok hc
  cases hr.symm.trans hr'
  obtain ⟨hx, hb, -, hown, hts, hKx, -, -⟩ := C
  have he : va_P D xk_cl [(g q i, .inr (ci, (List.range (xk_n q)).map (xval g st q i)))] H := by
    intro j z hz
    match j, hz with
    | 0, hz => cases hz; have h1 := (hW.1 q i hi).1; rw [xent_obj hc] at h1; exact h1
  have hK : va_K D xk_cl [] s := ⟨hKx.1, fun j z h => by simp at h⟩
  rcases hlk with h | ⟨host, h⟩
  · exact va_get (Ts := x_tb) (tys := []) hx hb hts (xk_inr hr) hown hK he 0 rfl (by rw [hr]) k hk (hts _ h) (fun _ h9 => h9) (x_fs (by rw [← hn]; exact hk)) hd kk
  · exact va_getN (Ts := x_tb) (tys := []) hx hb hts (xk_inr hr) hown hK he 0 rfl (by rw [hr]) k hk (va_Nw.use rfl (hKx.2.2 _ h)) (fun _ h9 => h9) (x_fs (by rw [← hn]; exact hk)) hd kk
theorem x_getI (C : x_C p e R s m args meth c D cA A cc own nL) {q i k index : Nat} (hl : x_FL own index q k) (hs : xk_s q k = 0) (hd : decode cc pc = .ok (.getfield index, 3)) (kk : x_V p l e R s m args below meth c D cA A nL g0 n0 Q (pc + 3) L (xI (st.1 q i k) :: K) st cells slots) : x_V p l e R s m args below meth c D cA A nL g0 n0 Q pc L (xR q (some i) :: K) st cells slots := by
  intro g H locs ls hW hg hS hl2 hL hK
  refine x_get0 C hl hd hW (xok_hd hK) ?_
  have h1 : xval g st q i k = xv g (xI (st.1 q i k)) := by unfold xval; rw [hs]; rfl
  rw [h1]
  exact kk g H locs ls hW hg hS hl2 hL (xok_cs trivial (xok_tl hK))
theorem x_getJ (C : x_C p e R s m args meth c D cA A cc own nL) {q i k index : Nat} (hl : x_FL own index q k) (hs : xk_s q k = 1) (hd : decode cc pc = .ok (.getfield index, 3)) (kk : x_V p l e R s m args below meth c D cA A nL g0 n0 Q (pc + 3) L (xL (st.2.1 q i k) :: K) st cells slots) : x_V p l e R s m args below meth c D cA A nL g0 n0 Q pc L (xR q (some i) :: K) st cells slots := by
  intro g H locs ls hW hg hS hl2 hL hK
  refine x_get0 C hl hd hW (xok_hd hK) ?_
  have h1 : xval g st q i k = xv g (xL (st.2.1 q i k)) := by unfold xval; rw [hs]; rfl
  rw [h1]
  exact kk g H locs ls hW hg hS hl2 hL (xok_cs trivial (xok_tl hK))
theorem x_okR (hW : x_W D cA A g st H) {q i k t : Nat} (hi : i < st.2.2.2 q) (hs : xk_s q k = 2) (ht : xk_t q k = t) : xok st.2.2.2 (xR t (st.2.2.1 q i k)) := by
  subst ht
  cases h : st.2.2.1 q i k with
  | none => trivial
  | some j => exact hW.2.2 q i k j hi hs h
theorem x_getR (C : x_C p e R s m args meth c D cA A cc own nL) {q i k index t : Nat} (hl : x_FL own index q k) (hs : xk_s q k = 2) (ht : xk_t q k = t) (hd : decode cc pc = .ok (.getfield index, 3)) (kk : x_V p l e R s m args below meth c D cA A nL g0 n0 Q (pc + 3) L (xR t (st.2.2.1 q i k) :: K) st cells slots) : x_V p l e R s m args below meth c D cA A nL g0 n0 Q pc L (xR q (some i) :: K) st cells slots := by
  intro g H locs ls hW hg hS hl2 hL hK
  refine x_get0 C hl hd hW (xok_hd hK) ?_
  have h1 : xval g st q i k = xv g (xR t (st.2.2.1 q i k)) := by unfold xval; rw [hs, ht]; rfl
  rw [h1]
  exact kk g H locs ls hW hg hS hl2 hL (xok_cs (x_okR hW (xok_hd hK) hs ht) (xok_tl hK))
end XG
end
section
/-! PUTS over pools -/
theorem x_up_oth {α : Type} {f : Nat → Nat → Nat → α} {q i k : Nat} {v : α} {r j : Nat} (h : ¬ (r = q ∧ j = i)) : x_up f q i k v r j = f r j := by
  funext z; unfold x_up; rw [if_neg (fun w => h ⟨w.1, w.2.1⟩)]
theorem x_up_self {α : Type} {f : Nat → Nat → Nat → α} {q i k : Nat} {v : α} : x_up f q i k v q i k = v := if_pos ⟨rfl, rfl, rfl⟩
theorem x_up_k {α : Type} {f : Nat → Nat → Nat → α} {q i k : Nat} {v : α} {z : Nat} (h : z ≠ k) : x_up f q i k v q i z = f q i z := if_neg (fun w => h w.2.2)
theorem x_up_ne {α : Type} {f : Nat → Nat → Nat → α} {q i k : Nat} {v : α} {r j z : Nat} (h : ¬ (r = q ∧ j = i ∧ z = k)) : x_up f q i k v r j z = f r j z := if_neg h
theorem xent_oth {cA : Nat → ClassId} {g : Nat → Nat → Nat} {st st' : XS} {r j : Nat} (h1 : st'.1 r j = st.1 r j) (h2 : st'.2.1 r j = st.2.1 r j) (h3 : st'.2.2.1 r j = st.2.2.1 r j) : xent cA g st' r j = xent cA g st r j := by
  have e1 : xval g st' r j = xval g st r j := by funext k; unfold xval; rw [h1, h2, h3]
  have e2 : xarr g st' r j = xarr g st r j := by unfold xarr; rw [h1, h2, h3]
  unfold xent; rw [e1, e2]
/-- one object has changed -/
theorem x_W.upd {D : va_G} {cA : Nat → ClassId} {A : Nat → Prop} {g : Nat → Nat → Nat} {st st' : XS} {H H1 : Heap} {q i : Nat} (hW : x_W D cA A g st H) (hi : i < st.2.2.2 q) (hN : st'.2.2.2 = st.2.2.2) (ho : ∀ r j, ¬ (r = q ∧ j = i) → st'.1 r j = st.1 r j ∧ st'.2.1 r j = st.2.1 r j ∧ st'.2.2.1 r j = st.2.2.1 r j)
    (he : va_at D xk_cl (g q i, xent cA g st' q i) H1) (hq : ∀ a : Nat, a ≠ g q i → H1[a]? = H[a]?) (hr : ∀ k t, xk_s q k = 2 → st'.2.2.1 q i k = some t → t < st.2.2.2 (xk_t q k)) : x_W D cA A g st' H1 := by
  refine ⟨fun r j hj => ?_, fun r j r2 j2 h1 h2 => hW.2.1 r j r2 j2 (by rw [← hN]; exact h1) (by rw [← hN]; exact h2), fun r j k t hj hs ht => ?_⟩
  · rw [hN] at hj
    by_cases h : r = q ∧ j = i
    · obtain ⟨rfl, rfl⟩ := h
      exact ⟨he, (hW.1 r j hj).2⟩
    · obtain ⟨a1, a2, a3⟩ := ho r j h
      rw [xent_oth a1 a2 a3]
      exact ⟨((hW.1 r j hj).1).kept (hq _ (fun z => h (hW.2.1 r j q i hj hi z))), (hW.1 r j hj).2⟩
  · rw [hN] at hj ⊢
    by_cases h : r = q ∧ j = i
    · obtain ⟨rfl, rfl⟩ := h
      exact hr k t hs ht
    · rw [(ho r j h).2.2] at ht
      exact hW.2.2 r j k t hj hs ht
theorem x_setL {α : Type} {n k : Nat} {f f' : Nat → α} {v : α} (hv : f' k = v) (ho : ∀ j, j ≠ k → f' j = f j) : (List.range n).map f' = ((List.range n).map f).set k v := by
  apply List.ext_getElem?
  intro j
  rw [List.getElem?_set, List.getElem?_map, List.getElem?_map]
  by_cases hj : k = j
  · subst hj
    by_cases hl : k < n
    · simp [hl, hv]
    · simp [hl]
  · rw [if_neg hj]
    by_cases hl : j < n
    · rw [List.getElem?_range hl]; simp [ho j (fun z => hj z.symm)]
    · simp [hl]
section XP
variable {p : Program} {l : Launch} {e : Env} {R : Room} {s : State} {m : MethodId} {args : Array Value} {below : List Frame} {meth : Method} {c : Code} {D : va_G} {cA : Nat → ClassId} {A : Nat → Prop} {nL : Nat} {g0 : Nat → Nat → Nat} {n0 : Nat → Nat} {Q : State → Prop} {cc : ByteArray} {own : String} {pc : Nat} {L : List (Nat × XV)} {K : List XV} {st : XS} {cells slots : Nat} {H : Heap} {locs : List Loc} {ls : Array Slot} {rest : List Value} {g : Nat → Nat → Nat}
/-- putfield of a field that isn't final, or of a final one in its class's constructor -/
theorem x_put0 (C : x_C p e R s m args meth c D cA A cc own nL) {q i k index : Nat} {v : Value} (hl : x_FL own index q k) (hfin : ∀ ci r, xk_c q = some ci → xk_cl[ci]? = some r → (r.2.1 k).2.2.2 = false ∨ ((r.2.1 k).2.2.2 = true ∧ meth.name = "<init>" ∧ (r.2.1 k).1 = own ∧ Cond.fieldLink own index (r.2.1 k).1 (r.2.1 k).2.1 (r.2.1 k).2.2.1 ∈ x_tb)) (hty : ∀ ci, xk_c q = some ci → narrow (xk_ty ci k) v = v ∧ fits (xk_ty ci k) v = true) (hd : decode cc pc = .ok (.putfield index, 3)) (hW : x_W D cA A g st H) (hi : i < st.2.2.2 q) (hS0 : va_S A s.heap H locs)
    (kk : ∀ (H1 : Heap) (locs1 : List Loc) (ci : Nat), xk_c q = some ci → va_at D xk_cl (g q i, .inr (ci, ((List.range (xk_n q)).map (xval g st q i)).set k v)) H1 → (∀ a : Nat, a ≠ g q i → H1[a]? = H[a]?) → va_S A s.heap H1 locs1 → W p l e R s m args below meth c H1 locs1 cells slots Q (F0 m (pc + 3) ls rest)) : W p l e R s m args below meth c H locs cells slots Q (F0 m pc ls (v :: .ref (g q i) :: rest)) := by
  obtain ⟨ci, r, hc, hr, hk, hlk⟩ := hl
  obtain ⟨-, r', hr', hn⟩ := xk_cok hc
  cases hr.symm.trans hr'
  obtain ⟨hx, hb, -, hown, hts, hKx, -, -⟩ := C
  have hAq := (hW.1 q i hi).2
  have he := (hW.1 q i hi).1
  rw [xent_obj hc] at he
  have hK : va_K D xk_cl [] s := ⟨hKx.1, fun j z h => by simp at h⟩
  have hap := va_apart (own := own) hts (xk_inr hr) (xk_ty ci) (xk_tyr hr) (xk_nmr hr) hK (by rw [hr])
  obtain ⟨r2, h1, cell, q1, q2, q3, q4⟩ := he
  cases hr.symm.trans h1
  obtain ⟨hS, hfc, kC, hkC, hkind⟩ := hKx.1 ci _ hr
  obtain ⟨cf, kf, fi, f, hfi, hsl⟩ := hS k hk
  have hst := (u_facts hfc hkC (u_lays hts (xk_inr hr) hk) hfi).1
  have hlen : k < ((List.range (xk_n q)).map (xval g st q i)).length := by rw [List.length_map, List.length_range, ← hn]; exact hk
  have fin : ∀ (H1 : Heap), H1[g q i]? = some (cell.setSlot (D.2 ci k) v) → va_at D xk_cl (g q i, .inr (ci, ((List.range (xk_n q)).map (xval g st q i)).set k v)) H1 := fun H1 e1 =>
    ⟨_, hr, t_OB.to (V := updV (vp_V ((List.range (xk_n q)).map (xval g st q i))) k v) ⟨_, e1, q2, q3, t_set q4 hap hk v⟩ (fun j _ => vp_updV_set hlen v j)⟩
  rcases hfin ci r hc hr with hf | ⟨hf, hin, hdecl, hmem⟩
  · have hlay := hts _ (xk_inr hr _ (u_in_lay hk))
    unfold u_lay at hlay
    rw [if_neg (by rw [hf]; decide)] at hlay
    have h6 := u_store hfc hkC hkind hlay hfi (xk_tyr hr k hk) (hty ci hc).1 (hty ci hc).2
    rcases hlk with h | ⟨host, h⟩
    · refine W.putK hx hb (f := f) ⟨hown, hts _ h, ⟨_, _, _, hfi⟩, hst⟩ (by rw [q2]; exact h6) q1 q3 (by rw [hsl]; exact k2_hasslot (q4 k hk)) rfl rfl hd fun H1 e1 e2 e3 => ?_
      rw [hsl] at e1 ⊢
      exact kk H1 _ ci hc (fin H1 e1) e3 (hS0.put e2 e3 hAq)
    · refine va_WputK hx hb (f := f) hown (va_Nw.use rfl (hKx.2.2 _ h)) hfi hst (by rw [q2]; exact h6) q1 q3 (by rw [hsl]; exact k2_hasslot (q4 k hk)) rfl rfl hd fun H1 e1 e2 e3 => ?_
      rw [hsl] at e1 ⊢
      exact kk H1 _ ci hc (fin H1 e1) e3 (hS0.put e2 e3 hAq)
  · have hlay := hts _ (xk_inr hr _ (u_in_lay hk))
    unfold u_lay at hlay
    rw [if_pos hf] at hlay
    have hcf : m.cls = cf := by
      obtain ⟨_, _, c', _, _, _, -, -, hf', -, -, -, hown2, -⟩ := Cond.laysFinal_spec hlay
      have e1 : c' = cf := by have := hfi.symm.trans hf'; simp at this; exact this.1.symm
      rw [hdecl] at hown2
      rw [← e1]; exact Option.some.inj (hown.symm.trans hown2)
    have h6 := u_fits hfc hkC hkind (Or.inr hlay) hfi (xk_tyr hr k hk) (hty ci hc).1 (hty ci hc).2
    refine W.putFinK hx hb hown (hts _ hmem) hfi hst hcf hin (by rw [q2]; exact h6) q1 q3 (by rw [hsl]; exact k2_hasslot (q4 k hk)) rfl rfl hd fun H1 e1 e2 e3 => ?_
    rw [hsl] at e1 ⊢
    exact kk H1 _ ci hc (fin H1 e1) e3 (hS0.put e2 e3 hAq)
/-- what a put asks of its field, by program: it isn't final, or it is and this is its class's constructor -/
def x_PF (own : String) (index q k : Nat) (mn : String) : Prop := ∀ ci r, xk_c q = some ci → xk_cl[ci]? = some r → (r.2.1 k).2.2.2 = false ∨ ((r.2.1 k).2.2.2 = true ∧ mn = "<init>" ∧ (r.2.1 k).1 = own ∧ Cond.fieldLink own index (r.2.1 k).1 (r.2.1 k).2.1 (r.2.1 k).2.2.1 ∈ x_tb)
theorem x_putI (C : x_C p e R s m args meth c D cA A cc own nL) {q i k index : Nat} {v : Int32} (hl : x_FL own index q k) (hf : x_PF own index q k meth.name) (hs : xk_s q k = 0) (hty : ∀ ci, xk_c q = some ci → xk_ty ci k = .int) (hd : decode cc pc = .ok (.putfield index, 3)) (kk : x_V p l e R s m args below meth c D cA A nL g0 n0 Q (pc + 3) L K (xsI st q i k v) cells slots) : x_V p l e R s m args below meth c D cA A nL g0 n0 Q pc L (xI v :: xR q (some i) :: K) st cells slots := by
  intro g H locs ls hW hg hS hl2 hL hK
  have hi : i < st.2.2.2 q := xok_hd (xok_tl hK)
  refine x_put0 C hl hf (fun ci hc => by rw [hty ci hc]; exact ⟨rfl, rfl⟩) hd hW hi hS fun H1 locs1 ci hc hat hoth hS1 => ?_
  refine kk g H1 locs1 ls (hW.upd hi rfl (fun r j h => ⟨x_up_oth h, rfl, rfl⟩) ?_ hoth (fun k t h1 h2 => hW.2.2 q i k t hi h1 h2)) hg hS1 hl2 hL (xok_tl (xok_tl hK))
  rw [xent_obj hc, x_setL (f := xval g st q i) (k := k) (v := .int v)]
  · exact hat
  · unfold xval; rw [hs]; show Value.int (x_up _ _ _ _ _ _ _ _) = _; rw [x_up_self]
  · intro j hj; unfold xval; show (match xk_s q j with | 0 => Value.int (x_up _ _ _ _ _ _ _ _) | 1 => _ | _ => _) = _; rw [x_up_k hj]; rfl
theorem x_putJ (C : x_C p e R s m args meth c D cA A cc own nL) {q i k index : Nat} {v : Int64} (hl : x_FL own index q k) (hf : x_PF own index q k meth.name) (hs : xk_s q k = 1) (hty : ∀ ci, xk_c q = some ci → xk_ty ci k = .long) (hd : decode cc pc = .ok (.putfield index, 3)) (kk : x_V p l e R s m args below meth c D cA A nL g0 n0 Q (pc + 3) L K (xsJ st q i k v) cells slots) : x_V p l e R s m args below meth c D cA A nL g0 n0 Q pc L (xL v :: xR q (some i) :: K) st cells slots := by
  intro g H locs ls hW hg hS hl2 hL hK
  have hi : i < st.2.2.2 q := xok_hd (xok_tl hK)
  refine x_put0 C hl hf (fun ci hc => by rw [hty ci hc]; exact ⟨rfl, rfl⟩) hd hW hi hS fun H1 locs1 ci hc hat hoth hS1 => ?_
  refine kk g H1 locs1 ls (hW.upd hi rfl (fun r j h => ⟨rfl, x_up_oth h, rfl⟩) ?_ hoth (fun k t h1 h2 => hW.2.2 q i k t hi h1 h2)) hg hS1 hl2 hL (xok_tl (xok_tl hK))
  rw [xent_obj hc, x_setL (f := xval g st q i) (k := k) (v := .long v)]
  · exact hat
  · unfold xval; rw [hs]; show Value.long (x_up _ _ _ _ _ _ _ _) = _; rw [x_up_self]
  · intro j hj; unfold xval; show (match xk_s q j with | 0 => _ | 1 => Value.long (x_up _ _ _ _ _ _ _ _) | _ => _) = _; rw [x_up_k hj]; rfl
theorem x_refR {q i k : Nat} {v : Option Nat} {q2 : Nat} (hW : x_W D cA A g st H) (hi : i < st.2.2.2 q) (hv : xok st.2.2.2 (xR q2 v)) (hq : v = none ∨ xk_t q k = q2) : ∀ z t, xk_s q z = 2 → x_up st.2.2.1 q i k v q i z = some t → t < st.2.2.2 (xk_t q z) := by
  intro z t h1 h2
  by_cases hz : z = k
  · subst hz
    rw [x_up_self] at h2
    subst h2
    rcases hq with h | h
    · cases h
    · rw [h]; exact hv
  · rw [x_up_k hz] at h2
    exact hW.2.2 q i z t hi h1 h2
/-- a reference of the pool that the field leads to, or null -/
theorem x_putR (C : x_C p e R s m args meth c D cA A cc own nL) {q i k index q2 : Nat} {v : Option Nat} (hl : x_FL own index q k) (hf : x_PF own index q k meth.name) (hs : xk_s q k = 2) (hq : v = none ∨ xk_t q k = q2) (hty : ∀ ci, xk_c q = some ci → (∃ n, xk_ty ci k = .object n) ∨ ∃ t, xk_ty ci k = .array t) (hd : decode cc pc = .ok (.putfield index, 3)) (kk : x_V p l e R s m args below meth c D cA A nL g0 n0 Q (pc + 3) L K (xsR st q i k v) cells slots) : x_V p l e R s m args below meth c D cA A nL g0 n0 Q pc L (xR q2 v :: xR q (some i) :: K) st cells slots := by
  intro g H locs ls hW hg hS hl2 hL hK
  have hi : i < st.2.2.2 q := xok_hd (xok_tl hK)
  have hval : xrf g q2 v = xrf g (xk_t q k) v := by
    rcases hq with h | h
    · rw [h]; rfl
    · rw [h]
  refine x_put0 C hl hf (fun ci hc => ?_) hd hW hi hS fun H1 locs1 ci hc hat hoth hS1 => ?_
  · rcases hty ci hc with ⟨n, h⟩ | ⟨t, h⟩ <;> rw [h] <;> cases v <;> exact ⟨rfl, rfl⟩
  refine kk g H1 locs1 ls (hW.upd hi rfl (fun r j h => ⟨rfl, rfl, x_up_oth h⟩) ?_ hoth (x_refR hW hi (xok_hd hK) hq)) hg hS1 hl2 hL (xok_tl (xok_tl hK))
  rw [xent_obj hc, x_setL (f := xval g st q i) (k := k) (v := xrf g q2 v)]
  · exact hat
  · unfold xval; rw [hs]; show xrf g _ (x_up _ _ _ _ _ _ _ _) = _; rw [x_up_self, hval]
  · intro j hj; unfold xval; show (match xk_s q j with | 0 => _ | 1 => _ | _ => xrf g _ (x_up _ _ _ _ _ _ _ _)) = _; rw [x_up_k hj]; rfl
end XP
end
section
/-! ARRAYS over pools -/
/-- the index is in the array -/
abbrev x_in (j : Int32) (n : Nat) : Prop := ¬ j < 0 ∧ j.toNatClampNeg < n
theorem x_in_n {j : Int32} {n : Nat} (h : x_in j n) : ¬ (j < 0 ∨ n ≤ j.toNatClampNeg) := fun z => z.elim h.1 (fun w => Nat.not_le.mpr h.2 w)
/-- an array pool: all slots of one sort, leading to one pool -/
def x_ar (q so t : Nat) (ty : FieldType) : Prop := xk_c q = none ∧ (∀ k, xk_s q k = so ∧ xk_t q k = t) ∧ xk_a q = some ty
theorem x_arrAt {D : va_G} {cA : Nat → ClassId} {g : Nat → Nat → Nat} {st : XS} {H : Heap} {q i so t : Nat} {ty : FieldType} (ha : x_ar q so t ty) : va_at D xk_cl (g q i, xent cA g st q i) H ↔ H[g q i]? = some (arrV (cA q) (xk_n q) (xval g st q i)) := by
  rw [xent_arr ha.1]
  show H[g q i]? = some (vp_cell (cA q) (xarr g st q i)) ↔ _
  have e : vp_cell (cA q) (xarr g st q i) = arrV (cA q) (xk_n q) (xval g st q i) := by
    unfold xarr
    rw [(ha.2.1 0).1, (ha.2.1 0).2]
    have hs := fun k => (ha.2.1 k).1
    have ht := fun k => (ha.2.1 k).2
    match so with
    | 0 =>
      show vp_cell (cA q) (xk_n q, .inl (fun k => st.1 q i k)) = _
      rw [vp_cell_i]; congr 1; funext k; unfold xval; rw [hs k]; rfl
    | 1 =>
      show vp_cell (cA q) (xk_n q, .inr (.inl (fun k => st.2.1 q i k))) = _
      rw [vp_cell_l]; congr 1; funext k; unfold xval; rw [hs k]; rfl
    | n + 2 =>
      show vp_cell (cA q) (xk_n q, .inr (.inr (.inr (.inr (fun k => (st.2.2.1 q i k).map (g t)))))) = _
      rw [vp_cell_q]; congr 1; funext k; unfold xval; rw [hs k, ht k, ← xrf_eq]; rfl
  rw [e]
section XQ
variable {p : Program} {l : Launch} {e : Env} {R : Room} {s : State} {m : MethodId} {args : Array Value} {below : List Frame} {meth : Method} {c : Code} {D : va_G} {cA : Nat → ClassId} {A : Nat → Prop} {nL : Nat} {g0 : Nat → Nat → Nat} {n0 : Nat → Nat} {Q : State → Prop} {cc : ByteArray} {own : String} {pc : Nat} {L : List (Nat × XV)} {K : List XV} {st : XS} {cells slots : Nat} {H : Heap} {locs : List Loc} {ls : Array Slot} {rest : List Value} {g : Nat → Nat → Nat}
theorem x_isArr (C : x_C p e R s m args meth c D cA A cc own nL) {q so t : Nat} {ty : FieldType} (ha : x_ar q so t ty) (f : Nat → Value) (n : Nat) : s.isArrayOf (arrV (cA q) n f) ty := (C.2.2.2.2.2.1.2.1 q ty ha.2.2).1 n f
theorem x_iald (C : x_C p e R s m args meth c D cA A cc own nL) {q i t : Nat} {j : Int32} (ha : x_ar q 0 t .int) (hin : x_in j (xk_n q)) (hd : decode cc pc = .ok (.iaload, 1)) (kk : x_V p l e R s m args below meth c D cA A nL g0 n0 Q (pc + 1) L (xI (st.1 q i j.toNatClampNeg) :: K) st cells slots) : x_V p l e R s m args below meth c D cA A nL g0 n0 Q pc L (xI j :: xR q (some i) :: K) st cells slots := by
  intro g H locs ls hW hg hS hl2 hL hK
  have hi : i < st.2.2.2 q := xok_hd (xok_tl hK)
  have he := (x_arrAt ha).mp (hW.1 q i hi).1
  have h1 : xval g st q i j.toNatClampNeg = xv g (xI (st.1 q i j.toNatClampNeg)) := by unfold xval; rw [(ha.2.1 _).1]; rfl
  refine W.iald C.1 C.2.1 he (x_isArr C ha _ _) (fun z => by cases z) (by rw [arrV_size]; exact x_in_n hin) (by rw [arrV_read _ _ hin.2]) rfl rfl hd ?_
  rw [h1]
  exact kk g H locs ls hW hg hS hl2 hL (xok_cs trivial (xok_tl (xok_tl hK)))
theorem x_zald (C : x_C p e R s m args meth c D cA A cc own nL) {q i t : Nat} {j : Int32} (ha : x_ar q 0 t .boolean) (hin : x_in j (xk_n q)) (hd : decode cc pc = .ok (.baload, 1)) (kk : x_V p l e R s m args below meth c D cA A nL g0 n0 Q (pc + 1) L (xI (st.1 q i j.toNatClampNeg) :: K) st cells slots) : x_V p l e R s m args below meth c D cA A nL g0 n0 Q pc L (xI j :: xR q (some i) :: K) st cells slots := by
  intro g H locs ls hW hg hS hl2 hL hK
  have hi : i < st.2.2.2 q := xok_hd (xok_tl hK)
  have he := (x_arrAt ha).mp (hW.1 q i hi).1
  have h1 : xval g st q i j.toNatClampNeg = xv g (xI (st.1 q i j.toNatClampNeg)) := by unfold xval; rw [(ha.2.1 _).1]; rfl
  refine W.zald C.1 C.2.1 he (x_isArr C ha _ _) (fun z => by cases z) (by rw [arrV_size]; exact x_in_n hin) (by rw [arrV_read _ _ hin.2]) rfl rfl hd ?_
  rw [h1]
  exact kk g H locs ls hW hg hS hl2 hL (xok_cs trivial (xok_tl (xok_tl hK)))
theorem x_lald (C : x_C p e R s m args meth c D cA A cc own nL) {q i t : Nat} {j : Int32} (ha : x_ar q 1 t .long) (hin : x_in j (xk_n q)) (hd : decode cc pc = .ok (.laload, 1)) (kk : x_V p l e R s m args below meth c D cA A nL g0 n0 Q (pc + 1) L (xL (st.2.1 q i j.toNatClampNeg) :: K) st cells slots) : x_V p l e R s m args below meth c D cA A nL g0 n0 Q pc L (xI j :: xR q (some i) :: K) st cells slots := by
  intro g H locs ls hW hg hS hl2 hL hK
  have hi : i < st.2.2.2 q := xok_hd (xok_tl hK)
  have he := (x_arrAt ha).mp (hW.1 q i hi).1
  have h1 : xval g st q i j.toNatClampNeg = xv g (xL (st.2.1 q i j.toNatClampNeg)) := by unfold xval; rw [(ha.2.1 _).1]; rfl
  refine W.lald C.1 C.2.1 he (x_isArr C ha _ _) (fun z => by cases z) (by rw [arrV_size]; exact x_in_n hin) (by rw [arrV_read _ _ hin.2]) rfl rfl hd ?_
  rw [h1]
  exact kk g H locs ls hW hg hS hl2 hL (xok_cs trivial (xok_tl (xok_tl hK)))
theorem x_aald (C : x_C p e R s m args meth c D cA A cc own nL) {q i t : Nat} {j : Int32} {nm : String} (ha : x_ar q 2 t (.object nm)) (hin : x_in j (xk_n q)) (hd : decode cc pc = .ok (.aaload, 1)) (kk : x_V p l e R s m args below meth c D cA A nL g0 n0 Q (pc + 1) L (xR t (st.2.2.1 q i j.toNatClampNeg) :: K) st cells slots) : x_V p l e R s m args below meth c D cA A nL g0 n0 Q pc L (xI j :: xR q (some i) :: K) st cells slots := by
  intro g H locs ls hW hg hS hl2 hL hK
  have hi : i < st.2.2.2 q := xok_hd (xok_tl hK)
  have he := (x_arrAt ha).mp (hW.1 q i hi).1
  have h1 : xval g st q i j.toNatClampNeg = xv g (xR t (st.2.2.1 q i j.toNatClampNeg)) := by unfold xval; rw [(ha.2.1 _).1, (ha.2.1 _).2]; rfl
  refine W.aald C.1 C.2.1 he (x_isArr C ha _ _) rfl (fun z => by cases z) (by rw [arrV_size]; exact x_in_n hin) (by rw [arrV_read _ _ hin.2]) rfl rfl hd ?_
  rw [h1]
  exact kk g H locs ls hW hg hS hl2 hL (xok_cs (x_okR hW hi (ha.2.1 _).1 (ha.2.1 _).2) (xok_tl (xok_tl hK)))
theorem x_alen (C : x_C p e R s m args meth c D cA A cc own nL) {q i so t : Nat} {ty : FieldType} {v : Int32} (ha : x_ar q so t ty) (hv : (xk_n q).toInt32 = v) (hd : decode cc pc = .ok (.arraylength, 1)) (kk : x_V p l e R s m args below meth c D cA A nL g0 n0 Q (pc + 1) L (xI v :: K) st cells slots) : x_V p l e R s m args below meth c D cA A nL g0 n0 Q pc L (xR q (some i) :: K) st cells slots := by
  intro g H locs ls hW hg hS hl2 hL hK
  have he := (x_arrAt ha).mp (hW.1 q i (xok_hd hK)).1
  exact W.alen (n := v) C.1 C.2.1 he (x_isArr C ha _ _) (by rw [arrV_size]; exact hv) rfl rfl hd (kk g H locs ls hW hg hS hl2 hL (xok_cs trivial (xok_tl hK)))
theorem x_iast (C : x_C p e R s m args meth c D cA A cc own nL) {q i t : Nat} {j : Int32} {v : Int32} (ha : x_ar q 0 t .int) (hin : x_in j (xk_n q)) (hd : decode cc pc = .ok (.iastore, 1)) (kk : x_V p l e R s m args below meth c D cA A nL g0 n0 Q (pc + 1) L K (xsI st q i j.toNatClampNeg (v)) cells slots) : x_V p l e R s m args below meth c D cA A nL g0 n0 Q pc L (xI v :: xI j :: xR q (some i) :: K) st cells slots := by
  intro g H locs ls hW hg hS hl2 hL hK
  have hi : i < st.2.2.2 q := xok_hd (xok_tl (xok_tl hK))
  have he := (x_arrAt ha).mp (hW.1 q i hi).1
  refine W.iast C.1 C.2.1 he (x_isArr C ha _ _) (fun z => by cases z) (by rw [arrV_size]; exact x_in_n hin) rfl rfl hd fun H1 e1 e2 e3 => ?_
  refine kk g H1 _ ls (hW.upd hi rfl (fun r j h => ⟨x_up_oth h, rfl, rfl⟩) ((x_arrAt ha).mpr ?_) e3 (fun k t h1 h2 => hW.2.2 q i k t hi h1 h2)) hg (hS.put e2 e3 (hW.1 q i hi).2) hl2 hL (xok_tl (xok_tl (xok_tl hK)))
  rw [e1, arrV_store]
  congr 2
  funext z
  unfold updV xval
  rw [(ha.2.1 z).1]
  by_cases hz : z = j.toNatClampNeg
  · rw [if_pos hz, hz]; show _ = Value.int (x_up _ _ _ _ _ _ _ _); rw [x_up_self]; try rfl
  · rw [if_neg hz]; show _ = Value.int (x_up _ _ _ _ _ _ _ _); rw [x_up_k hz]; try rfl
theorem x_zast (C : x_C p e R s m args meth c D cA A cc own nL) {q i t : Nat} {j : Int32} {v : Int32} (ha : x_ar q 0 t .boolean) (hin : x_in j (xk_n q)) (hd : decode cc pc = .ok (.bastore, 1)) (kk : x_V p l e R s m args below meth c D cA A nL g0 n0 Q (pc + 1) L K (xsI st q i j.toNatClampNeg (v &&& 1)) cells slots) : x_V p l e R s m args below meth c D cA A nL g0 n0 Q pc L (xI v :: xI j :: xR q (some i) :: K) st cells slots := by
  intro g H locs ls hW hg hS hl2 hL hK
  have hi : i < st.2.2.2 q := xok_hd (xok_tl (xok_tl hK))
  have he := (x_arrAt ha).mp (hW.1 q i hi).1
  refine W.zast C.1 C.2.1 he (x_isArr C ha _ _) (fun z => by cases z) (by rw [arrV_size]; exact x_in_n hin) rfl rfl hd fun H1 e1 e2 e3 => ?_
  refine kk g H1 _ ls (hW.upd hi rfl (fun r j h => ⟨x_up_oth h, rfl, rfl⟩) ((x_arrAt ha).mpr ?_) e3 (fun k t h1 h2 => hW.2.2 q i k t hi h1 h2)) hg (hS.put e2 e3 (hW.1 q i hi).2) hl2 hL (xok_tl (xok_tl (xok_tl hK)))
  rw [e1, arrV_store]
  congr 2
  funext z
  unfold updV xval
  rw [(ha.2.1 z).1]
  by_cases hz : z = j.toNatClampNeg
  · rw [if_pos hz, hz]; show _ = Value.int (x_up _ _ _ _ _ _ _ _); rw [x_up_self]; try rfl
  · rw [if_neg hz]; show _ = Value.int (x_up _ _ _ _ _ _ _ _); rw [x_up_k hz]; try rfl
theorem x_last (C : x_C p e R s m args meth c D cA A cc own nL) {q i t : Nat} {j : Int32} {v : Int64} (ha : x_ar q 1 t .long) (hin : x_in j (xk_n q)) (hd : decode cc pc = .ok (.lastore, 1)) (kk : x_V p l e R s m args below meth c D cA A nL g0 n0 Q (pc + 1) L K (xsJ st q i j.toNatClampNeg (v)) cells slots) : x_V p l e R s m args below meth c D cA A nL g0 n0 Q pc L (xL v :: xI j :: xR q (some i) :: K) st cells slots := by
  intro g H locs ls hW hg hS hl2 hL hK
  have hi : i < st.2.2.2 q := xok_hd (xok_tl (xok_tl hK))
  have he := (x_arrAt ha).mp (hW.1 q i hi).1
  refine W.last C.1 C.2.1 he (x_isArr C ha _ _) (fun z => by cases z) (by rw [arrV_size]; exact x_in_n hin) rfl rfl hd fun H1 e1 e2 e3 => ?_
  refine kk g H1 _ ls (hW.upd hi rfl (fun r j h => ⟨rfl, x_up_oth h, rfl⟩) ((x_arrAt ha).mpr ?_) e3 (fun k t h1 h2 => hW.2.2 q i k t hi h1 h2)) hg (hS.put e2 e3 (hW.1 q i hi).2) hl2 hL (xok_tl (xok_tl (xok_tl hK)))
  rw [e1, arrV_store]
  congr 2
  funext z
  unfold updV xval
  rw [(ha.2.1 z).1]
  by_cases hz : z = j.toNatClampNeg
  · rw [if_pos hz, hz]; show _ = Value.long (x_up _ _ _ _ _ _ _ _); rw [x_up_self]; try rfl
  · rw [if_neg hz]; show _ = Value.long (x_up _ _ _ _ _ _ _ _); rw [x_up_k hz]; try rfl
theorem x_aast (C : x_C p e R s m args meth c D cA A cc own nL) {q i t ci : Nat} {nm : String} {j : Int32} {v q2 : Nat} {r : vw_C} (ha : x_ar q 2 t (.object nm)) (hc : xk_c t = some ci) (hr : xk_cl[ci]? = some r) (hnm : r.1 = nm) (hq : q2 = t) (hin : x_in j (xk_n q)) (hd : decode cc pc = .ok (.aastore, 1)) (kk : x_V p l e R s m args below meth c D cA A nL g0 n0 Q (pc + 1) L K (xsR st q i j.toNatClampNeg (some v)) cells slots) : x_V p l e R s m args below meth c D cA A nL g0 n0 Q pc L (xR q2 (some v) :: xI j :: xR q (some i) :: K) st cells slots := by
  intro g H locs ls hW hg hS hl2 hL hK
  subst hq
  subst hnm
  have hi : i < st.2.2.2 q := xok_hd (xok_tl (xok_tl hK))
  have hv : v < st.2.2.2 q2 := xok_hd hK
  have he := (x_arrAt ha).mp (hW.1 q i hi).1
  have hev := (hW.1 q2 v hv).1
  rw [xent_obj hc] at hev
  obtain ⟨r', hr', cellV, g1, g2, g3, -⟩ := hev
  have hKx := C.2.2.2.2.2.1
  have hcls := (hKx.1 ci r hr).2
  obtain ⟨kA, comp, k1, k2, k3, -⟩ := (hKx.2.1 q _ ha.2.2).2
  have hcomp : comp = D.1 ci := Option.some.inj (k3.symm.trans hcls.1)
  subst hcomp
  obtain ⟨kC, hkC, -⟩ := hcls.2
  refine W.aast C.1 C.2.1 he (fun q h => by cases h) (fun h => by cases h) k1 k2 rfl hkC ⟨hin.1, by rw [arrV_size]; exact hin.2⟩ g1 (fun q h => by rw [g3] at h; cases h) (by rw [g2]; exact hkC) (by rw [g2]; exact va_assign hcls) rfl rfl hd fun H1 e1 e2 e3 => ?_
  refine kk g H1 _ ls (hW.upd hi rfl (fun r j h => ⟨rfl, rfl, x_up_oth h⟩) ((x_arrAt ha).mpr ?_) e3 (x_refR hW hi (xok_hd hK) (Or.inr (ha.2.1 _).2))) hg (hS.put e2 e3 (hW.1 q i hi).2) hl2 hL (xok_tl (xok_tl (xok_tl hK)))
  rw [e1, arrV_store]
  congr 2
  funext z
  unfold updV xval
  rw [(ha.2.1 z).1, (ha.2.1 z).2]
  by_cases hz : z = j.toNatClampNeg
  · rw [if_pos hz, hz]; show _ = xrf g _ (x_up _ _ _ _ _ _ _ _); rw [x_up_self]; rfl
  · rw [if_neg hz]; show _ = xrf g _ (x_up _ _ _ _ _ _ _ _); rw [x_up_k hz]; try rfl
theorem x_aastN (C : x_C p e R s m args meth c D cA A cc own nL) {q i t q2 : Nat} {nm : String} {j : Int32} (ha : x_ar q 2 t (.object nm)) (hin : x_in j (xk_n q)) (hd : decode cc pc = .ok (.aastore, 1)) (kk : x_V p l e R s m args below meth c D cA A nL g0 n0 Q (pc + 1) L K (xsR st q i j.toNatClampNeg none) cells slots) : x_V p l e R s m args below meth c D cA A nL g0 n0 Q pc L (xR q2 none :: xI j :: xR q (some i) :: K) st cells slots := by
  intro g H locs ls hW hg hS hl2 hL hK
  have hi : i < st.2.2.2 q := xok_hd (xok_tl (xok_tl hK))
  have he := (x_arrAt ha).mp (hW.1 q i hi).1
  refine va_WaastN (C := nm) C.1 C.2.1 he (x_isArr C ha _ _) (fun z => by cases z) (by rw [arrV_size]; exact x_in_n hin) rfl rfl hd fun H1 e1 e2 e3 => ?_
  refine kk g H1 _ ls (hW.upd hi rfl (fun r j h => ⟨rfl, rfl, x_up_oth h⟩) ((x_arrAt ha).mpr ?_) e3 (x_refR (q2 := q2) hW hi trivial (Or.inl rfl))) hg (hS.put e2 e3 (hW.1 q i hi).2) hl2 hL (xok_tl (xok_tl (xok_tl hK)))
  rw [e1, arrV_store]
  congr 2
  funext z
  unfold updV xval
  rw [(ha.2.1 z).1, (ha.2.1 z).2]
  by_cases hz : z = j.toNatClampNeg
  · rw [if_pos hz, hz]; show _ = xrf g _ (x_up _ _ _ _ _ _ _ _); rw [x_up_self]; rfl
  · rw [if_neg hz]; show _ = xrf g _ (x_up _ _ _ _ _ _ _ _); rw [x_up_k hz]; try rfl
end XQ
end
section
/-! NEW OBJECTS over pools -/
def x_gN (g : Nat → Nat → Nat) (q n a : Nat) : Nat → Nat → Nat := fun r j => if r = q ∧ j = n then a else g r j
theorem x_gN_self {g : Nat → Nat → Nat} {q n a : Nat} : x_gN g q n a q n = a := if_pos ⟨rfl, rfl⟩
theorem x_gN_lt {g : Nat → Nat → Nat} {cnt : Nat → Nat} {q a r j : Nat} (h : j < cnt r) : x_gN g q (cnt q) a r j = g r j := if_neg (fun z => by obtain ⟨rfl, rfl⟩ := z; exact Nat.lt_irrefl _ h)
theorem xv_gN {g : Nat → Nat → Nat} {cnt : Nat → Nat} {q a : Nat} {v : XV} (h : xok cnt v) : xv (x_gN g q (cnt q) a) v = xv g v := by
  rcases v with x | y | ⟨r, _ | i⟩ | b
  · rfl
  · rfl
  · rfl
  · show Value.ref (x_gN g q (cnt q) a r i) = Value.ref (g r i)
    rw [x_gN_lt h]
  · rfl
theorem xrf_gN {g : Nat → Nat → Nat} {cnt : Nat → Nat} {q a r : Nat} {o : Option Nat} (h : ∀ j, o = some j → j < cnt r) : xrf (x_gN g q (cnt q) a) r o = xrf g r o := by
  cases o with
  | none => rfl
  | some j => show Value.ref (x_gN g q (cnt q) a r j) = _; rw [x_gN_lt (h j rfl)]; rfl
theorem x_W.push {D : va_G} {cA : Nat → ClassId} {A : Nat → Prop} {g : Nat → Nat → Nat} {st : XS} {H H1 : Heap} {q : Nat} (hW : x_W D cA A g st H) (ho : ∀ b : Nat, b < H.size → H1[b]? = H[b]?) (hA : A H.size) (he : va_at D xk_cl (H.size, xent cA (x_gN g q (st.2.2.2 q) H.size) (xsN st q) q (st.2.2.2 q)) H1) : x_W D cA A (x_gN g q (st.2.2.2 q) H.size) (xsN st q) H1 := by
  have hcnt : ∀ r j, j < (xsN st q).2.2.2 r → (r = q ∧ j = st.2.2.2 q) ∨ j < st.2.2.2 r := by
    intro r j h
    have h : j < (if r = q then st.2.2.2 q + 1 else st.2.2.2 r) := h
    by_cases hr : r = q
    · subst hr
      rw [if_pos rfl] at h
      by_cases hj : j = st.2.2.2 r
      · exact Or.inl ⟨rfl, hj⟩
      · exact Or.inr (by omega)
    · rw [if_neg hr] at h; exact Or.inr h
  have hle : ∀ r, st.2.2.2 r ≤ (xsN st q).2.2.2 r := by
    intro r
    show _ ≤ (if r = q then st.2.2.2 q + 1 else st.2.2.2 r)
    by_cases hr : r = q
    · subst hr; rw [if_pos rfl]; omega
    · rw [if_neg hr]; exact Nat.le_refl _
  have hlt : ∀ r j, j < st.2.2.2 r → g r j < H.size := fun r j h => (hW.1 r j h).1.lt
  have hold : ∀ r j, j < st.2.2.2 r → xent cA (x_gN g q (st.2.2.2 q) H.size) (xsN st q) r j = xent cA g st r j := by
    intro r j hj
    have hne : ¬ (r = q ∧ j = st.2.2.2 q) := fun z => by obtain ⟨rfl, rfl⟩ := z; exact Nat.lt_irrefl _ hj
    have e1 : ∀ k, (xsN st q).1 r j k = st.1 r j k := fun k => if_neg hne
    have e2 : ∀ k, (xsN st q).2.1 r j k = st.2.1 r j k := fun k => if_neg hne
    have e3 : ∀ k, (xsN st q).2.2.1 r j k = st.2.2.1 r j k := fun k => if_neg hne
    have ev : xval (x_gN g q (st.2.2.2 q) H.size) (xsN st q) r j = xval g st r j := by
      funext k
      unfold xval
      rw [e1, e2, e3]
      have hs := xk_s_le r k
      match hk : xk_s r k, hs with
      | 0, _ => rfl
      | 1, _ => rfl
      | 2, _ => exact xrf_gN (fun t h => hW.2.2 r j k t hj hk h)
    cases hc : xk_c r with
    | some ci => rw [xent_obj hc, xent_obj hc, ev]
    | none =>
      rw [xent_arr hc, xent_arr hc]
      congr 2
      unfold xarr
      congr 1
      have hs := xk_s_le r 0
      match hk : xk_s r 0, hs with
      | 0, _ => show Sum.inl _ = Sum.inl _; congr 1; funext k; exact e1 k
      | 1, _ => show Sum.inr (Sum.inl _) = Sum.inr (Sum.inl _); congr 2; funext k; exact e2 k
      | 2, _ =>
        show Sum.inr (Sum.inr (Sum.inr (Sum.inr _))) = Sum.inr (Sum.inr (Sum.inr (Sum.inr _)))
        congr 4
        funext k
        rw [e3 k]
        cases h : st.2.2.1 r j k with
        | none => rfl
        | some t =>
          have hu := xk_un r hc k
          have h3 := hW.2.2 r j k t hj (by rw [hu.1]; exact hk) h
          rw [hu.2] at h3
          show some (x_gN g q (st.2.2.2 q) H.size _ t) = some _
          rw [x_gN_lt h3]
  refine ⟨fun r j hj => ?_, fun r j r2 j2 h1 h2 hEq => ?_, fun r j k t hj hs ht => ?_⟩
  · rcases hcnt r j hj with ⟨rfl, rfl⟩ | h
    · rw [x_gN_self]; exact ⟨he, hA⟩
    · rw [hold r j h, x_gN_lt h]
      exact ⟨((hW.1 r j h).1).kept (ho _ (hlt r j h)), (hW.1 r j h).2⟩
  · rcases hcnt r j h1 with ⟨rfl, rfl⟩ | h <;> rcases hcnt r2 j2 h2 with ⟨rfl, rfl⟩ | h'
    · exact ⟨rfl, rfl⟩
    · rw [x_gN_self, x_gN_lt h'] at hEq
      have := hlt r2 j2 h'
      omega
    · rw [x_gN_self, x_gN_lt h] at hEq
      have := hlt r j h
      omega
    · rw [x_gN_lt h, x_gN_lt h'] at hEq
      exact hW.2.1 r j r2 j2 h h' hEq
  · rcases hcnt r j hj with ⟨rfl, rfl⟩ | h
    · have e3 : (xsN st r).2.2.1 r (st.2.2.2 r) k = none := if_pos ⟨rfl, rfl⟩
      rw [e3] at ht
      cases ht
    · have hne : ¬ (r = q ∧ j = st.2.2.2 q) := fun z => by obtain ⟨rfl, rfl⟩ := z; exact Nat.lt_irrefl _ h
      have e3 : (xsN st q).2.2.1 r j k = st.2.2.1 r j k := if_neg hne
      rw [e3] at ht
      exact Nat.lt_of_lt_of_le (hW.2.2 r j k t h hs ht) (hle _)
end
section
/-! the rows of new, newarray, anewarray -/
def xdf (so : Nat) : Value := match so with
  | 0 => .int 0
  | 1 => .long 0
  | _ => .null
theorem xval_new {g : Nat → Nat → Nat} {st : XS} {q k : Nat} : xval g (xsN st q) q (st.2.2.2 q) k = xdf (xk_s q k) := by
  have e1 : (xsN st q).1 q (st.2.2.2 q) k = 0 := if_pos ⟨rfl, rfl⟩
  have e2 : (xsN st q).2.1 q (st.2.2.2 q) k = 0 := if_pos ⟨rfl, rfl⟩
  have e3 : (xsN st q).2.2.1 q (st.2.2.2 q) k = none := if_pos ⟨rfl, rfl⟩
  unfold xval xdf
  rw [e1, e2, e3]
  rfl
theorem x_mapL {g : Nat → Nat → Nat} {cnt : Nat → Nat} {q a : Nat} {L : List (Nat × XV)} (h : ∀ z ∈ L, xok cnt z.2) : (L.map fun z => (z.1, xv (x_gN g q (cnt q) a) z.2)) = L.map fun z => (z.1, xv g z.2) := List.map_congr_left fun z hz => by rw [xv_gN (h z hz)]
theorem x_mapK {g : Nat → Nat → Nat} {cnt : Nat → Nat} {q a : Nat} {K : List XV} (h : ∀ v ∈ K, xok cnt v) : K.map (xv (x_gN g q (cnt q) a)) = K.map (xv g) := List.map_congr_left fun v hv => xv_gN (h v hv)
theorem x_cle {st : XS} {q : Nat} (r : Nat) : st.2.2.2 r ≤ (xsN st q).2.2.2 r := by
  show _ ≤ (if r = q then st.2.2.2 q + 1 else st.2.2.2 r)
  by_cases hr : r = q
  · subst hr; rw [if_pos rfl]; omega
  · rw [if_neg hr]; exact Nat.le_refl _
theorem xok_le {c1 c2 : Nat → Nat} {v : XV} (hc : ∀ r, c1 r ≤ c2 r) (h : xok c1 v) : xok c2 v := by
  rcases v with x | y | ⟨r, _ | i⟩ | b
  · trivial
  · trivial
  · trivial
  · exact Nat.lt_of_lt_of_le h (hc r)
  · trivial
theorem x_E.new {g0 : Nat → Nat → Nat} {n0 : Nat → Nat} {g : Nat → Nat → Nat} {st : XS} {q a : Nat} (h : x_E g0 n0 g st.2.2.2) : x_E g0 n0 (x_gN g q (st.2.2.2 q) a) (xsN st q).2.2.2 :=
  ⟨fun r i hi => by rw [x_gN_lt (Nat.lt_of_lt_of_le hi (h.2 r))]; exact h.1 r i hi, fun r => Nat.le_trans (h.2 r) (x_cle r)⟩
section XN
variable {p : Program} {l : Launch} {e : Env} {R : Room} {s : State} {m : MethodId} {args : Array Value} {below : List Frame} {meth : Method} {c : Code} {D : va_G} {cA : Nat → ClassId} {A : Nat → Prop} {nL : Nat} {g0 : Nat → Nat → Nat} {n0 : Nat → Nat} {Q : State → Prop} {cc : ByteArray} {own : String} {pc : Nat} {L : List (Nat × XV)} {K : List XV} {st : XS} {cells slots : Nat} {H : Heap} {locs : List Loc} {ls : Array Slot} {rest : List Value} {g : Nat → Nat → Nat}
/-- behind a new cell -/
theorem x_fresh {q pc2 c2 s2 : Nat} {H1 : Heap} (hx : ∀ a, s.heap.size ≤ a → A a) (kk : x_V p l e R s m args below meth c D cA A nL g0 n0 Q pc2 L (xR q (some (st.2.2.2 q)) :: K) (xsN st q) c2 s2) (hW : x_W D cA A g st H) (hg : x_E g0 n0 g st.2.2.2) (hS : va_S A s.heap H locs) (hl : lv_has ls nL (L.map fun z => (z.1, xv g z.2))) (hL : ∀ z ∈ L, xok st.2.2.2 z.2) (hK : ∀ v ∈ K, xok st.2.2.2 v) (ho : ∀ b : Nat, b < H.size → H1[b]? = H[b]?) (hz : H1.size = H.size + 1)
    (he : va_at D xk_cl (H.size, xent cA (x_gN g q (st.2.2.2 q) H.size) (xsN st q) q (st.2.2.2 q)) H1) : W p l e R s m args below meth c H1 locs c2 s2 Q (F0 m pc2 ls (.ref H.size :: K.map (xv g))) := by
  have hlt : st.2.2.2 q < (xsN st q).2.2.2 q := by
    show _ < (if q = q then st.2.2.2 q + 1 else _)
    rw [if_pos rfl]; omega
  have k1 := kk (x_gN g q (st.2.2.2 q) H.size) H1 locs ls (hW.push ho (hx _ hS.1) he) hg.new ⟨Nat.le_trans hS.1 (by omega), fun x h1 h2 => (ho x (Nat.lt_of_lt_of_le h1 hS.1)).trans (hS.2.1 x h1 h2), hS.2.2⟩ (by rw [x_mapL hL]; exact hl) (fun z hz => xok_le (fun r => x_cle r) (hL z hz)) (xok_cs hlt (fun v hv => xok_le (fun r => x_cle r) (hK v hv)))
  rw [List.map_cons, x_mapK hK] at k1
  have e1 : xv (x_gN g q (st.2.2.2 q) H.size) (xR q (some (st.2.2.2 q))) = .ref H.size := by
    show Value.ref (x_gN g q (st.2.2.2 q) H.size q (st.2.2.2 q)) = _
    rw [x_gN_self]
  rw [e1] at k1
  exact k1
theorem x_new (C : x_C p e R s m args meth c D cA A cc own nL) {q index ci N : Nat} {Cn : String} {T : u_T} (hc : xk_c q = some ci) (hr : xk_cl[ci]? = some (Cn, T, N)) (hcl : Cond.classLink own index Cn ∈ x_tb) (hins : Cond.instantiable Cn N ∈ x_tb) (hini : Cond.initialized Cn ∈ x_tb) (hdf : ∀ k, k < N → defaultValue (xk_ty ci k) = xdf (xk_s q k)) (hc1 : cells + 1 ≤ R.cells) (hs1 : slots + N ≤ R.slots) (hd : decode cc pc = .ok (.new index, 3)) (kk : x_V p l e R s m args below meth c D cA A nL g0 n0 Q (pc + 3) L (xR q (some (st.2.2.2 q)) :: K) (xsN st q) (cells + 1) (slots + N)) : x_V p l e R s m args below meth c D cA A nL g0 n0 Q pc L K st cells slots := by
  intro g H locs ls hW hg hS hl hL hK
  obtain ⟨hx, hb, -, hown, hts, hKx, -, hA, -⟩ := C
  obtain ⟨-, r', hr', hn⟩ := xk_cok hc
  cases hr.symm.trans hr'
  refine W.newcK hx hb hown (hts _ hcl) (hts _ hins) (hts _ hini) rfl hd hc1 hs1 (hKx.1 ci _ hr).2.1 rfl fun H1 kC hkC e1 z1 o1 => ?_
  refine x_fresh hA kk hW hg hS hl hL hK o1 z1 ?_
  rw [xent_obj hc]
  refine ⟨_, hr, (u_born (xk_ty ci) hts (xk_inr hr) (hKx.1 ci _ hr) hkC e1 (xk_tyr hr)).to fun k hk => ?_⟩
  rw [hdf k hk]
  have hk2 : k < xk_n q := by rw [← hn]; exact hk
  unfold vp_V
  rw [List.getD_eq_getElem?_getD, List.getElem?_map, List.getElem?_range hk2]
  show _ = xval _ _ _ _ _
  rw [xval_new]
theorem x_newa (C : x_C p e R s m args meth c D cA A cc own nL) {q so t : Nat} {n : Int32} {atype : ArrayType} {ty : FieldType} (ha : x_ar q so t ty) (hty : newarray.typeOf atype = ty) (hdf : defaultValue ty = xdf so) (hra : ∀ cl, va_RA s cl ty → s.vm.findClass ("[" ++ ty.toString) = some cl) (hcl : Cond.arrayClass ty ∈ x_tb) (hn : ¬ n < 0) (hN : n.toNatClampNeg = xk_n q) (hby : xk_n q * componentBytes ty ≤ 536870912) (hc1 : cells + 1 ≤ R.cells) (hs1 : slots + xk_n q ≤ R.slots) (hd : decode cc pc = .ok (.newarray atype, 2)) (kk : x_V p l e R s m args below meth c D cA A nL g0 n0 Q (pc + 2) L (xR q (some (st.2.2.2 q)) :: K) (xsN st q) (cells + 1) (slots + xk_n q)) : x_V p l e R s m args below meth c D cA A nL g0 n0 Q pc L (xI n :: K) st cells slots := by
  intro g H locs ls hW hg hS hl hL hK
  obtain ⟨hx, hb, -, hown, hts, hKx, -, hA, -⟩ := C
  subst hty
  refine va_newaK hx hb (hts _ hcl) rfl hd rfl hn hN hby hc1 hs1 rfl fun H1 cl e1 z1 o1 hAr hNm => ?_
  refine x_fresh hA kk hW hg hS hl hL (xok_tl hK) o1 z1 ?_
  have ecl : cl = cA q := Option.some.inj (hNm.symm.trans (hra _ (hKx.2.1 q _ ha.2.2).2))
  have h1 := (x_arrAt (D := D) (cA := cA) (g := x_gN g q (st.2.2.2 q) H.size) (st := xsN st q) (H := H1) (i := st.2.2.2 q) ha)
  rw [x_gN_self] at h1
  refine h1.mpr ?_
  rw [e1, ecl]
  congr 2
  funext k
  rw [xval_new, (ha.2.1 k).1, hdf]
theorem x_anew (C : x_C p e R s m args meth c D cA A cc own nL) {q t index : Nat} {n : Int32} {nm : String} (ha : x_ar q 2 t (.object nm)) (hcl : Cond.classLink own index nm ∈ x_tb) (hov : va_AO nm s) (hn : ¬ n < 0) (hN : n.toNatClampNeg = xk_n q) (hby : xk_n q * 4 ≤ 536870912) (hc1 : cells + 1 ≤ R.cells) (hs1 : slots + xk_n q ≤ R.slots) (hd : decode cc pc = .ok (.anewarray index, 3)) (kk : x_V p l e R s m args below meth c D cA A nL g0 n0 Q (pc + 3) L (xR q (some (st.2.2.2 q)) :: K) (xsN st q) (cells + 1) (slots + xk_n q)) : x_V p l e R s m args below meth c D cA A nL g0 n0 Q pc L (xI n :: K) st cells slots := by
  intro g H locs ls hW hg hS hl hL hK
  obtain ⟨hx, hb, -, hown, hts, hKx, -, hA, -⟩ := C
  rw [← hN] at kk hby hs1
  refine W.anew hx hb hown (hts _ hcl) (va_AO.use hov) rfl hd rfl hn hby hc1 hs1 fun cl kA comp f1 f2 f3 f4 => ?_
  have z1 : (H.push ({ cls := cl, slots := Array.replicate n.toNatClampNeg .null, vm := .none } : Cell)).size = H.size + 1 := Array.size_push ..
  have o1 : ∀ b : Nat, b < H.size → (H.push ({ cls := cl, slots := Array.replicate n.toNatClampNeg .null, vm := .none } : Cell))[b]? = H[b]? := fun b hb => by rw [Array.getElem?_push, if_neg (Nat.ne_of_lt hb)]
  refine x_fresh hA kk hW hg hS hl hL (xok_tl hK) o1 z1 ?_
  obtain ⟨kA', comp', k1, k2, k3, k4⟩ := (hKx.2.1 q _ ha.2.2).2
  have ecl : cl = cA q := Option.some.inj (f1.symm.trans k4)
  have h1 := (x_arrAt (D := D) (cA := cA) (g := x_gN g q (st.2.2.2 q) H.size) (st := xsN st q) (H := H.push ({ cls := cl, slots := Array.replicate n.toNatClampNeg .null, vm := .none } : Cell)) (i := st.2.2.2 q) ha)
  rw [x_gN_self] at h1
  refine h1.mpr ?_
  rw [Array.getElem?_push_size, arrV_new, ecl, hN]
  congr 2
  funext k
  rw [xval_new, (ha.2.1 k).1]
  rfl
end XN
end
section
/-! METHODS AS CONTRACTS over pools, and calls: a method returns or throws -/
theorem x_weak {tb : Tables} {e : Env} {f : Frame} {below : List Frame} {a b : State} (hf : ∀ x, f ≠ .throwing x) (h : Steps tb e (f :: below) a b) : Steps tb e below a b := by
  obtain ⟨n, h1, h2⟩ := h
  refine ⟨n, h1, fun k hk => ?_⟩
  obtain ⟨above, h3, h4, h5⟩ := h2 k hk
  refine ⟨above ++ [f], by rw [h3]; simp, by simp, fun x hx => ?_⟩
  cases above with
  | nil => exact h4 rfl
  | cons y ys => cases ys <;> simp at hx
theorem x_K.moved {D : va_G} {cA : Nat → ClassId} {u U : State} (hW : u.WarmedH U.vm) (h : x_K D cA u) : x_K D cA U := by
  refine ⟨fun c q hq => u_Kn_moved hW.alike (h.1 c q hq), fun q ty hq => ⟨arrOfT_moved hW.alike (h.2.1 q ty hq).1, (h.2.1 q ty hq).2.moved hW.alike⟩, fun w hw => ?_⟩
  have h1 := h.2.2 w hw
  rcases xk_nestform w hw with ⟨a, i, b, n, d, ho, rfl⟩ | ⟨a, i, x, ho, rfl⟩
  · exact va_Nw.warmF hW h1
  · exact va_Nw.warmM hW h1
/-- an exception's object -/
def x_Ex (E : String) (a : Nat) (t : State) : Prop := ∃ cell, t.heap[a]? = some cell ∧ (∀ k, cell.vm ≠ .statics k) ∧ t.vm.findClass E = some cell.cls
abbrev XR : Type := Option XV ⊕ String
/-- a method's end: it returned v, or threw an E; the world is st' -/
def x_MQ (D : va_G) (cA : Nat → ClassId) (g0 : Nat → Nat → Nat) (n0 : Nat → Nat) (below : List Frame) (s : State) (mc ms : Nat) (r : XR) (st' : XS) : State → Prop := fun t =>
  ∃ (o : Outcome) (L : List Loc) (g : Nat → Nat → Nat), t.status = .running ∧ Ended t below o ∧ s.WarmedH t.vm ∧ s.sameButNew ({ t with vm := s.vm } : State) L mc ms ∧ (∀ q ∈ L, x_A g0 n0 s.heap.size q.base) ∧ va_F (x_A g0 n0 s.heap.size) s t ∧ x_E g0 n0 g st'.2.2.2 ∧ x_W D cA (x_A g0 n0 s.heap.size) g st' t.heap ∧
    (match r with
      | .inl v => o = .returned (v.map (xv g)) ∧ ∀ w, v = some w → xok st'.2.2.2 w
      | .inr E => ∃ a, o = .threw a ∧ x_Ex E a t)
/-- what holds when a body begins -/
def x_B (M : XM) (p : Program) (s : State) (m : MethodId) (args : Array Value) (meth : Method) (c : Code) (D : va_G) (cA : Nat → ClassId) (g : Nat → Nat → Nat) (st : XS) : Prop :=
  p.tables.exec = Jvm.exec ∧ c.code = M.2.1 ∧ c.maxLocals = M.2.2.1 ∧ s.vm.findClass M.1 = some m.cls ∧ (∀ w ∈ x_tb, w.before args s = true) ∧ x_K D cA s ∧ meth.locks = false ∧ meth.name = M.2.2.2.2.2 ∧ meth.sig.returnType = M.2.2.2.1 ∧ c.exceptionTable.toList.map (fun h => (h.startPc, h.endPc, h.handlerPc, h.catchType)) = M.2.2.2.2.1 ∧ x_Th (x_A g st.2.2.2 s.heap.size) s s.heap ∧ x_W D cA (x_A g st.2.2.2 s.heap.size) g st s.heap
/-- THE CONTRACT of a method at a launch, with room R, for these arguments and this world: how it ends -/
def x_M (l : Launch) (M : XM) (R : Room) (aL : List XV) (st : XS) (r : XR) (st' : XS) (mc ms : Nat) : Prop :=
  ∀ (p : Program) (e : Env) (s : State) (m : MethodId) (below : List Frame) (meth : Method) (c : Code) (D : va_G) (cA : Nat → ClassId) (g : Nat → Nat → Nat), x_B M p s m (aL.map (xv g)).toArray meth c D cA g st → (∀ v ∈ aL, xok st.2.2.2 v) →
    W p l e R s m (aL.map (xv g)).toArray below meth c s.heap [] 0 0 (x_MQ D cA g st.2.2.2 below s mc ms r st') (entryFrame m (aL.map (xv g)).toArray M.2.2.1)
end
section
/-! entry, returns, calls -/
def xargs : Nat → List XV → List (Nat × XV)
  | _, [] => []
  | i, v :: vs => (i, v) :: xargs (if xcat v = 2 then i + 2 else i + 1) vs
theorem xargs_v (g : Nat → Nat → Nat) : ∀ (i : Nat) (vs : List XV), (xargs i vs).map (fun z => (z.1, xv g z.2)) = lv_args i (vs.map (xv g))
  | _, [] => rfl
  | i, v :: vs => by
    show (i, xv g v) :: (xargs _ vs).map _ = (i, xv g v) :: lv_args _ (vs.map (xv g))
    rw [xargs_v g _ vs, xcat_v]
theorem xargs_ok {cnt : Nat → Nat} : ∀ (i : Nat) (vs : List XV), (∀ v ∈ vs, xok cnt v) → ∀ z ∈ xargs i vs, xok cnt z.2
  | _, [], _, z, hz => by cases hz
  | i, v :: vs, h, z, hz => by
    rcases List.mem_cons.mp hz with rfl | hz
    · exact h _ List.mem_cons_self
    · exact xargs_ok _ vs (fun w hw => h w (List.mem_cons_of_mem _ hw)) z hz
theorem x_sl (g : Nat → Nat → Nat) : ∀ (vs : List XV), (lg_sl (vs.map (xv g))).length = (vs.map xcat).sum
  | [] => rfl
  | v :: vs => by
    have h := x_sl g vs
    unfold lg_sl at h ⊢
    rw [List.map_cons, List.flatMap_cons, List.length_append, h, List.map_cons, List.sum_cons, xcat_v]
    rcases v with x | y | ⟨q, _ | i⟩ | a <;> rfl
theorem x_post {p : Program} {l : Launch} {e : Env} {R : Room} {s : State} {m : MethodId} {args : Array Value} {below : List Frame} {meth : Method} {c : Code} {H : Heap} {locs : List Loc} {cells slots : Nat} {Q Q2 : State → Prop} {g : JFrame} (h : ∀ t, Q t → Q2 t) (k : W p l e R s m args below meth c H locs cells slots Q g) : W p l e R s m args below meth c H locs cells slots Q2 g := fun T hT X => by
  obtain ⟨t, a, b⟩ := k T hT X
  exact ⟨t, a, h t b⟩
theorem x_B.C {M : XM} {p : Program} {e : Env} {R : Room} {s : State} {m : MethodId} {args : Array Value} {meth : Method} {c : Code} {D : va_G} {cA : Nat → ClassId} {g : Nat → Nat → Nat} {st : XS} (B : x_B M p s m args meth c D cA g st) : x_C p e R s m args meth c D cA (x_A g st.2.2.2 s.heap.size) M.2.1 M.1 M.2.2.1 :=
  ⟨B.1, B.2.1, B.2.2.1, B.2.2.2.1, B.2.2.2.2.1, B.2.2.2.2.2.1, B.2.2.2.2.2.2.1, fun _ h => Or.inr h, B.2.2.2.2.2.2.2.2.2.2.1⟩
theorem x_enter {l : Launch} {M : XM} {R : Room} {aL : List XV} {st st' : XS} {r : XR} {mc ms : Nat} (hsz : (aL.map xcat).sum ≤ M.2.2.1)
    (body : ∀ (p : Program) (e : Env) (s : State) (m : MethodId) (below : List Frame) (meth : Method) (c : Code) (D : va_G) (cA : Nat → ClassId) (g : Nat → Nat → Nat) (args : Array Value), x_B M p s m args meth c D cA g st → x_C p e R s m args meth c D cA (x_A g st.2.2.2 s.heap.size) M.2.1 M.1 M.2.2.1 →
      x_V p l e R s m args below meth c D cA (x_A g st.2.2.2 s.heap.size) M.2.2.1 g st.2.2.2 (x_MQ D cA g st.2.2.2 below s mc ms r st') 0 (xargs 0 aL) [] st 0 0) : x_M l M R aL st r st' mc ms := by
  intro p e s m below meth c D cA g B hv
  rw [lg_entry_eq]
  have hl := lv_entry (aL.map (xv g)) (n := M.2.2.1) (by rw [x_sl]; exact hsz)
  rw [← xargs_v g 0 aL] at hl
  exact body p e s m below meth c D cA g _ B B.C g s.heap [] _ B.2.2.2.2.2.2.2.2.2.2.2 ⟨fun _ _ _ => rfl, fun _ => Nat.le_refl _⟩ va_S.rf hl (xargs_ok 0 aL hv) (fun v h => by cases h)
section XC
variable {p : Program} {l : Launch} {e : Env} {R : Room} {s : State} {m : MethodId} {args : Array Value} {below : List Frame} {meth : Method} {c : Code} {D : va_G} {cA : Nat → ClassId} {A : Nat → Prop} {nL : Nat} {g0 : Nat → Nat → Nat} {n0 : Nat → Nat} {Q : State → Prop} {cc : ByteArray} {own : String} {pc : Nat} {L : List (Nat × XV)} {K : List XV} {st : XS} {cells slots : Nat} {H : Heap} {locs : List Loc} {ls : Array Slot} {rest : List Value} {g : Nat → Nat → Nat} {mc ms : Nat}
theorem x_end {v : Option XV} {H : Heap} (hW : x_W D cA (x_A g0 n0 s.heap.size) g st H) (hg : x_E g0 n0 g st.2.2.2) (hS : va_S (x_A g0 n0 s.heap.size) s.heap H locs) (hv : ∀ w, v = some w → xok st.2.2.2 w) : ∀ t, MQ below (fun _ _ o t => o = .returned (v.map (xv g)) ∧ t.heap = H) args s mc ms (x_A g0 n0 s.heap.size) t → x_MQ D cA g0 n0 below s mc ms (.inl v) st t := by
  intro t ⟨o, h1, h2, ⟨h3, h4⟩, Lc, ⟨_, h5, h6⟩, h7⟩
  exact ⟨o, Lc, g, h1, h2, h5, h6, h7, hS.F h4, hg, by rw [h4]; exact hW, h3, hv⟩
theorem x_iret (C : x_C p e R s m args meth c D cA (x_A g0 n0 s.heap.size) cc own nL) {v : Int32} {ty : FieldType} (hr : meth.sig.returnType = some ty) (hn : narrow ty (.int v) = .int v) (hc : cells ≤ mc) (hs : slots ≤ ms) (hd : decode cc pc = .ok (.ireturn, 1)) : x_V p l e R s m args below meth c D cA (x_A g0 n0 s.heap.size) nL g0 n0 (x_MQ D cA g0 n0 below s mc ms (.inl (some (xI v))) st) pc L [xI v] st cells slots := by
  intro g H locs ls hW hg hS hl hL hK
  refine W.widen hc hs (x_post (x_end (args := args) hW hg hS (fun w hw => by cases hw; trivial)) ?_)
  exact W.zret C.1 C.2.1 hr hn (fun t ht _ => ⟨rfl, ht⟩) hS.2.2 hd (hlocks := C.2.2.2.2.2.2.1)
theorem x_lret (C : x_C p e R s m args meth c D cA (x_A g0 n0 s.heap.size) cc own nL) {v : Int64} (hr : meth.sig.returnType = some .long) (hc : cells ≤ mc) (hs : slots ≤ ms) (hd : decode cc pc = .ok (.lreturn, 1)) : x_V p l e R s m args below meth c D cA (x_A g0 n0 s.heap.size) nL g0 n0 (x_MQ D cA g0 n0 below s mc ms (.inl (some (xL v))) st) pc L [xL v] st cells slots := by
  intro g H locs ls hW hg hS hl hL hK
  refine W.widen hc hs (x_post (x_end (args := args) hW hg hS (fun w hw => by cases hw; trivial)) ?_)
  exact W.lret C.1 C.2.1 hr (fun t ht _ => ⟨rfl, ht⟩) hS.2.2 hd (hlocks := C.2.2.2.2.2.2.1)
theorem x_vret (C : x_C p e R s m args meth c D cA (x_A g0 n0 s.heap.size) cc own nL) (hr : meth.sig.returnType = none) (hc : cells ≤ mc) (hs : slots ≤ ms) (hd : decode cc pc = .ok (.return_, 1)) : x_V p l e R s m args below meth c D cA (x_A g0 n0 s.heap.size) nL g0 n0 (x_MQ D cA g0 n0 below s mc ms (.inl none) st) pc L [] st cells slots := by
  intro g H locs ls hW hg hS hl hL hK
  refine W.widen hc hs (x_post (x_end (args := args) hW hg hS (fun w hw => by cases hw)) ?_)
  exact W.vret C.1 C.2.1 hr (fun t ht _ => ⟨rfl, ht⟩) hS.2.2 hd (hlocks := C.2.2.2.2.2.2.1)
theorem x_aret (C : x_C p e R s m args meth c D cA (x_A g0 n0 s.heap.size) cc own nL) {q : Nat} {v : Option Nat} {rt : FieldType} (hr : meth.sig.returnType = some rt) (hrt : (∃ n, rt = .object n) ∨ ∃ t, rt = .array t) (hc : cells ≤ mc) (hs : slots ≤ ms) (hd : decode cc pc = .ok (.areturn, 1)) : x_V p l e R s m args below meth c D cA (x_A g0 n0 s.heap.size) nL g0 n0 (x_MQ D cA g0 n0 below s mc ms (.inl (some (xR q v))) st) pc L [xR q v] st cells slots := by
  intro g H locs ls hW hg hS hl hL hK
  refine W.widen hc hs (x_post (x_end (args := args) hW hg hS (fun w hw => by cases hw; exact xok_hd hK)) ?_)
  exact W.aret (v := xrf g q v) C.1 C.2.1 hr hrt (by cases v; exact Or.inl rfl; exact Or.inr ⟨_, rfl⟩) (fun t ht _ => ⟨rfl, ht⟩) hS.2.2 hd (hlocks := C.2.2.2.2.2.2.1)
end XC
end
section
/-! CALLS: the callee's contract, walked into and out of -/
/-- the words say that M is the method y -/
def x_CW (y : MethodName) (M : XM) : Prop := M.1 = y.cls ∧ M.2.2.2.2.2 = y.name ∧ ((M.2.2.2.2.1 = [] ∧ Cond.code y M.2.1 M.2.2.1 M.2.2.2.1 ∈ x_tb) ∨ Cond.codeWith y M.2.1 M.2.2.1 M.2.2.2.1 M.2.2.2.2.1 ∈ x_tb)
theorem x_cw {y : MethodName} {M : XM} {args : Array Value} {s : State} {mk : MethodId} (h : x_CW y M) (hts : ∀ w ∈ x_tb, w.before args s = true) (hn : s.methodNamed? y = some mk) : ∃ methM ck, s.vm.method? mk = some methM ∧ methM.code = some ck ∧ ck.code = M.2.1 ∧ ck.maxLocals = M.2.2.1 ∧ methM.sig.returnType = M.2.2.2.1 ∧ methM.locks = false ∧ ck.exceptionTable.toList.map (fun h => (h.startPc, h.endPc, h.handlerPc, h.catchType)) = M.2.2.2.2.1 ∧ parseMethodDescriptor y.desc = some methM.sig := by
  rcases h.2.2 with ⟨h0, h1⟩ | h1
  · obtain ⟨meth, c, q1, q2, q3, q4, q5, q6, q7, q8⟩ := Cond.code_spec hn (hts _ h1)
    refine ⟨meth, c, q1, q2, q3, q4, q5, q6, ?_, q8⟩
    rw [h0]
    have : c.exceptionTable = #[] := by simpa using q7
    rw [this]; rfl
  · obtain ⟨m9, meth, c, hn9, q1, q2, q3, q4, q5, q6, q7, q8⟩ := Cond.codeWith_spec (hts _ h1)
    cases hn.symm.trans hn9
    exact ⟨meth, c, q1, q2, q3, q4, q6, q7, q5, q8⟩
theorem x_good {w : Cond} (h : w ∈ x_tb) : (w.onTables && w.keeps) = true ∨ ∃ ty, w = .arrayClass ty := good_of_word (List.mem_filter.mp h).2
theorem x_E.trans {g0 g g' : Nat → Nat → Nat} {n0 n n' : Nat → Nat} (h : x_E g0 n0 g n) (h' : x_E g n g' n') : x_E g0 n0 g' n' := ⟨fun q i hi => (h'.1 q i (Nat.lt_of_lt_of_le hi (h.2 q))).trans (h.1 q i hi), fun q => Nat.le_trans (h.2 q) (h'.2 q)⟩
theorem xv_E {g g' : Nat → Nat → Nat} {n n' : Nat → Nat} {v : XV} (h : x_E g n g' n') (hv : xok n v) : xv g' v = xv g v := by
  rcases v with x | y | ⟨r, _ | i⟩ | b
  · rfl
  · rfl
  · rfl
  · show Value.ref (g' r i) = Value.ref (g r i)
    rw [h.1 r i hv]
  · rfl
theorem x_mapL2 {g g' : Nat → Nat → Nat} {n n' : Nat → Nat} {L : List (Nat × XV)} (h : x_E g n g' n') (hL : ∀ z ∈ L, xok n z.2) : (L.map fun z => (z.1, xv g' z.2)) = L.map fun z => (z.1, xv g z.2) := List.map_congr_left fun z hz => by rw [xv_E h (hL z hz)]
theorem x_mapK2 {g g' : Nat → Nat → Nat} {n n' : Nat → Nat} {K : List XV} (h : x_E g n g' n') (hK : ∀ v ∈ K, xok n v) : K.map (xv g') = K.map (xv g) := List.map_congr_left fun v hv => xv_E h (hK v hv)
theorem x_W.weak {D : va_G} {cA : Nat → ClassId} {A B : Nat → Prop} {g : Nat → Nat → Nat} {st : XS} {H : Heap} (h : x_W D cA A g st H) (hAB : ∀ a, A a → B a) : x_W D cA B g st H := ⟨fun q i hi => ⟨(h.1 q i hi).1, hAB _ (h.1 q i hi).2⟩, h.2⟩
section XD
variable {p : Program} {l : Launch} {e : Env} {R : Room} {s : State} {m : MethodId} {args : Array Value} {below : List Frame} {meth : Method} {c : Code} {D : va_G} {cA : Nat → ClassId} {A : Nat → Prop} {nL : Nat} {g0 : Nat → Nat → Nat} {n0 : Nat → Nat} {Q : State → Prop} {cc : ByteArray} {own : String} {pc : Nat} {L : List (Nat × XV)} {K : List XV} {st : XS} {cells slots : Nat} {H : Heap} {locs : List Loc} {ls : Array Slot} {rest : List Value} {g : Nat → Nat → Nat} {mc ms : Nat}
theorem x_core (C : x_C p e R s m args meth c D cA A cc own nL) {M : XM} {RY : Room} {aL : List XV} {st' : XS} {r : XR} {y : MethodName} (hM : x_M l M RY aL st r st' mc ms) (hy : x_CW y M) (hpl : plainFor y = true) (hfr : RY.frames + 1 ≤ R.frames) (hlo : 8 + (M.2.2.1 + 11) + RY.locals ≤ R.locals) (hcl : cells + RY.cells ≤ R.cells) (hsl : slots + RY.slots ≤ R.slots)
    (hW : x_W D cA A g st H) (hS : va_S A s.heap H locs) (hv : ∀ v ∈ aL, xok st.2.2.2 v) {gf : JFrame} (hgm : gf.method = m) (hsz : gf.locals.size = nL) {ig : Instr} {len : Nat} (hdg : decode cc gf.pc = .ok (ig, len)) (hst : 2 * gf.monitorRoom + (gf.stack.map fun v => v.category).sum ≤ 8)
    {T1 : State} (hT : T1.heap = H) (X : Stand p l e R s m args below meth c T1 locs cells slots) {mk : MethodId} (hn : s.methodNamed? y = some mk) :
    ∃ (t T2 : State) (Lc : List Loc) (g2 : Nat → Nat → Nat), Stand p l e R s m args below meth c T2 (locs ++ Lc) (cells + mc) (slots + ms) ∧ va_S A s.heap T2.heap (locs ++ Lc) ∧ x_E g st.2.2.2 g2 st'.2.2.2 ∧ x_W D cA A g2 st' T2.heap ∧ Steps p.tables e below (doInvoke e (T1.setTop gf) [] mk (aL.map (xv g)).toArray).1 t ∧
      (match r with
        | .inl v => t = T2.setTop { gf with pc := gf.pc + len, stack := (v.map (xv g2)).toList ++ gf.stack } ∧ ∀ w, v = some w → xok st'.2.2.2 w
        | .inr E => ∃ a, t = (T2.setTop gf).pushFrame (.throwing a) ∧ x_Ex E a T2) := by
  obtain ⟨hx, hb, hml, hown, hts, hKx, hlk, hA, hTh⟩ := C
  subst hT
  have hdg' : decode c.code gf.pc = .ok (ig, len) := by rw [hb]; exact hdg
  have hts1 : ∀ (a : Array Value) (w : Cond), w ∈ x_tb → w.before a T1 = true := fun a w hw => word_at X.warmed (x_good hw) (hts w hw)
  have hn1 := X.named hn
  obtain ⟨methM, ck, k1, k2, k3, k4, k5, k6, k7, k8⟩ := x_cw hy (hts1 #[]) hn1
  obtain ⟨Y, hin⟩ := X.into hgm (hsz.trans hml.symm) hdg' (aL.map (xv g)).toArray (R' := RY) k1 k2 k6 (State.plainMethod.of_named hpl hn1 k1) hfr (by rw [k4]; omega) hcl hsl
  have hAA : ∀ a, a < T1.heap.size → x_A g st.2.2.2 T1.heap.size a → A a := fun a ha h => by
    rcases h with ⟨q, i, hi, rfl⟩ | h
    · exact (hW.1 q i hi).2
    · omega
  have hAA2 : ∀ a, x_A g st.2.2.2 T1.heap.size a → A a := fun a h => by
    rcases h with ⟨q, i, hi, rfl⟩ | h
    · exact (hW.1 q i hi).2
    · exact hA a (Nat.le_trans hS.1 h)
  have B : x_B M p (T1.calling gf mk (aL.map (xv g)).toArray) mk (aL.map (xv g)).toArray methM ck D cA g st := by
    refine ⟨hx, k3, k4, ?_, fun w hw => word_at (U := T1.calling gf mk (aL.map (xv g)).toArray) X.warmed (x_good hw) (hts w hw), hKx.moved (U := T1.calling gf mk (aL.map (xv g)).toArray) X.warmed, k6, ?_, k5, k7, ?_, ⟨fun q i hi => ⟨(hW.1 q i hi).1, Or.inl ⟨q, i, hi, rfl⟩⟩, hW.2⟩⟩
    · rw [hy.1]; exact findClass_of_methodNamed hn1
    · rw [hy.2.1]; exact (name_of_methodNamed hn1 k1).1
    · exact ((hTh.moved (U := T1.calling gf mk (aL.map (xv g)).toArray) X.warmed).kept (fun a h1 h2 => hS.2.1 a h1 h2)).narrow hAA
  obtain ⟨t, hsteps, o, Lc, g2, h1, h2, h3, h4, h5, h6, h7, h8, h9⟩ := hM p e (T1.calling gf mk (aL.map (xv g)).toArray) mk (.java gf :: below) methM ck D cA g B hv ((T1.setTop gf).pushFrame (.java (entryFrame mk (aL.map (xv g)).toArray ck.maxLocals))) rfl Y
  rw [← k4, ← hin []] at hsteps
  have hsteps2 := x_weak (fun x h => by cases h) hsteps
  have fin : ∀ T2 : State, T2.heap = t.heap → va_S A s.heap T2.heap (locs ++ Lc) ∧ x_W D cA A g2 st' T2.heap := by
    intro T2 e2
    rw [e2]
    have hz : T1.heap.size ≤ t.heap.size := h6.1
    refine ⟨⟨Nat.le_trans hS.1 hz, fun a ha hna => ?_, fun q hq => ?_⟩, h8.weak hAA2⟩
    · have hlt := Nat.lt_of_lt_of_le ha hS.1
      exact (h6.2 a hlt (fun z => hna (hAA a hlt z))).trans (hS.2.1 a ha hna)
    · rcases List.mem_append.mp hq with h | h
      · exact hS.2.2 q h
      · exact hAA2 _ (h5 q h)
  cases r with
  | inl v =>
    obtain ⟨ho, hok⟩ := h9
    subst ho
    obtain ⟨T2, X2, -, -, ht⟩ := X.outOf hgm hdg' h2 h3 h4
    have e2 : T2.heap = t.heap := by rw [ht]; simp [State.setTop, State.modifyTopJava, State.setFrames]
    obtain ⟨f1, f2⟩ := fin T2 e2
    exact ⟨t, T2, Lc, g2, X2, f1, h7, f2, hsteps2, ht, hok⟩
  | inr E =>
    obtain ⟨a, ho, cell, c1, c2, c3⟩ := h9
    subst ho
    obtain ⟨T2, X2, -, -, ht⟩ := X.outOfThrown hgm h2 h3 h4
    have e2 : T2.heap = t.heap := by rw [ht]; exact (throwing_heap T2 gf a).symm
    have e3 : T2.vm = t.vm := by rw [ht]; exact (throwing_vm T2 gf a).symm
    obtain ⟨f1, f2⟩ := fin T2 e2
    exact ⟨t, T2, Lc, g2, X2, f1, h7, f2, hsteps2, a, ht, cell, by rw [e2]; exact c1, c2, by rw [e3]; exact c3⟩
end XD
end
section
/-! CALLS, the rows -/
/-- an E is being thrown at pc -/
def x_VT (p : Program) (l : Launch) (e : Env) (R : Room) (s : State) (m : MethodId) (args : Array Value) (below : List Frame) (meth : Method) (c : Code) (D : va_G) (cA : Nat → ClassId) (A : Nat → Prop) (nL : Nat) (g0 : Nat → Nat → Nat) (n0 : Nat → Nat) (Q : State → Prop) (E : String) (pc : Nat) (L : List (Nat × XV)) (K : List XV) (st : XS) (cells slots : Nat) : Prop :=
  ∀ (g : Nat → Nat → Nat) (H : Heap) (locs : List Loc) (ls : Array Slot) (a : Nat), x_W D cA A g st H → x_E g0 n0 g st.2.2.2 → va_S A s.heap H locs → lv_has ls nL (L.map fun z => (z.1, xv g z.2)) → (∀ z ∈ L, xok st.2.2.2 z.2) → (∀ v ∈ K, xok st.2.2.2 v) → ∀ T : State, T.heap = H → Stand p l e R s m args below meth c T locs cells slots → x_Ex E a T → ∃ t, Steps p.tables e below ((T.setTop (F0 m pc ls (K.map (xv g)))).pushFrame (.throwing a)) t ∧ Q t
theorem x_sum (g : Nat → Nat → Nat) (K : List XV) : ((K.map (xv g)).map fun v => v.category).sum = (K.map xcat).sum := by
  rw [List.map_map]; congr 1; exact List.map_congr_left fun v _ => xcat_v g v
section XH
variable {p : Program} {l : Launch} {e : Env} {R : Room} {s : State} {m : MethodId} {args : Array Value} {below : List Frame} {meth : Method} {c : Code} {D : va_G} {cA : Nat → ClassId} {A : Nat → Prop} {nL : Nat} {g0 : Nat → Nat → Nat} {n0 : Nat → Nat} {Q : State → Prop} {cc : ByteArray} {own : String} {pc : Nat} {L : List (Nat × XV)} {K S : List XV} {st st' : XS} {cells slots : Nat} {H : Heap} {locs : List Loc} {ls : Array Slot} {rest : List Value} {g : Nat → Nat → Nat} {mc ms : Nat}
/-- the step into the call -/
abbrev x_Go (p : Program) (l : Launch) (e : Env) (R : Room) (s : State) (m : MethodId) (args : Array Value) (below : List Frame) (meth : Method) (c : Code) (pc : Nat) (H : Heap) (locs : List Loc) (ls : Array Slot) (cells slots : Nat) (y : MethodName) (st0 st1 : List Value) (av : Array Value) : Prop :=
  ∀ T : State, T.heap = H → Stand p l e R s m args below meth c T locs cells slots → ∃ (vm₁ : Vm) (mk : MethodId), s.methodNamed? y = some mk ∧ Stand p l e R s m args below meth c (T.setVm vm₁) locs cells slots ∧ ∀ target, (∀ acts, Steps p.tables e below (doInvoke e ((T.setVm vm₁).setTop (F0 m pc ls st1)) acts mk av).1 target) → Steps p.tables e below (T.setTop (F0 m pc ls st0)) target
theorem x_retW (C : x_C p e R s m args meth c D cA A cc own nL) {M : XM} {RY : Room} {aL : List XV} {v : Option XV} {y : MethodName} (hM : x_M l M RY aL st (.inl v) st' mc ms) (hy : x_CW y M) (hpl : plainFor y = true) (hfr : RY.frames + 1 ≤ R.frames) (hlo : 8 + (M.2.2.1 + 11) + RY.locals ≤ R.locals) (hcl : cells + RY.cells ≤ R.cells) (hsl : slots + RY.slots ≤ R.slots)
    (hW : x_W D cA A g st H) (hg : x_E g0 n0 g st.2.2.2) (hS : va_S A s.heap H locs) (hl : lv_has ls nL (L.map fun z => (z.1, xv g z.2))) (hL : ∀ z ∈ L, xok st.2.2.2 z.2) (hK : ∀ v ∈ K, xok st.2.2.2 v) (hv : ∀ v ∈ aL, xok st.2.2.2 v) (hsum : (K.map xcat).sum ≤ 8) {ig : Instr} (hdg : decode cc pc = .ok (ig, 3)) {st0 : List Value} (hgo : x_Go p l e R s m args below meth c pc H locs ls cells slots y st0 (K.map (xv g)) (aL.map (xv g)).toArray)
    (kk : x_V p l e R s m args below meth c D cA A nL g0 n0 Q (pc + 3) L (v.toList ++ K) st' (cells + mc) (slots + ms)) : W p l e R s m args below meth c H locs cells slots Q (F0 m pc ls st0) := by
  intro T hT X
  obtain ⟨vm₁, mk, hn, X₁, hstep⟩ := hgo T hT X
  obtain ⟨t, T2, Lc, g2, X2, f1, f2, f3, st1, ht, hok⟩ := x_core C hM hy hpl hfr hlo hcl hsl hW hS hv (gf := F0 m pc ls (K.map (xv g))) rfl hl.1 hdg (by show 2 * 0 + _ ≤ 8; rw [x_sum]; omega) (T1 := T.setVm vm₁) hT X₁ hn
  obtain ⟨t3, a1, b1⟩ := kk g2 T2.heap (locs ++ Lc) ls f3 (hg.trans f2) f1 (by rw [x_mapL2 f2 hL]; exact hl) (fun z hz => xok_le f2.2 (hL z hz)) (fun w hw => by
    rcases List.mem_append.mp hw with h | h
    · exact hok w (Option.mem_toList.mp h)
    · exact xok_le f2.2 (hK w h)) T2 rfl X2
  refine ⟨t3, hstep t3 (fun acts => ?_), b1⟩
  rw [doInvoke_state]
  refine st1.trans ?_
  rw [ht]
  have e1 : (v.toList ++ K).map (xv g2) = (v.map (xv g2)).toList ++ K.map (xv g) := by
    rw [List.map_append, x_mapK2 f2 hK]; cases v <;> rfl
  rw [e1] at a1
  exact a1
theorem x_thrW (C : x_C p e R s m args meth c D cA A cc own nL) {M : XM} {RY : Room} {aL : List XV} {E : String} {y : MethodName} (hM : x_M l M RY aL st (.inr E) st' mc ms) (hy : x_CW y M) (hpl : plainFor y = true) (hfr : RY.frames + 1 ≤ R.frames) (hlo : 8 + (M.2.2.1 + 11) + RY.locals ≤ R.locals) (hcl : cells + RY.cells ≤ R.cells) (hsl : slots + RY.slots ≤ R.slots)
    (hW : x_W D cA A g st H) (hg : x_E g0 n0 g st.2.2.2) (hS : va_S A s.heap H locs) (hl : lv_has ls nL (L.map fun z => (z.1, xv g z.2))) (hL : ∀ z ∈ L, xok st.2.2.2 z.2) (hK : ∀ v ∈ K, xok st.2.2.2 v) (hv : ∀ v ∈ aL, xok st.2.2.2 v) (hsum : (K.map xcat).sum ≤ 8) {ig : Instr} (hdg : decode cc pc = .ok (ig, 3)) {st0 : List Value} (hgo : x_Go p l e R s m args below meth c pc H locs ls cells slots y st0 (K.map (xv g)) (aL.map (xv g)).toArray)
    (kk : x_VT p l e R s m args below meth c D cA A nL g0 n0 Q E pc L K st' (cells + mc) (slots + ms)) : W p l e R s m args below meth c H locs cells slots Q (F0 m pc ls st0) := by
  intro T hT X
  obtain ⟨vm₁, mk, hn, X₁, hstep⟩ := hgo T hT X
  obtain ⟨t, T2, Lc, g2, X2, f1, f2, f3, st1, a, ht, hex⟩ := x_core C hM hy hpl hfr hlo hcl hsl hW hS hv (gf := F0 m pc ls (K.map (xv g))) rfl hl.1 hdg (by show 2 * 0 + _ ≤ 8; rw [x_sum]; omega) (T1 := T.setVm vm₁) hT X₁ hn
  obtain ⟨t3, a1, b1⟩ := kk g2 T2.heap (locs ++ Lc) ls a f3 (hg.trans f2) f1 (by rw [x_mapL2 f2 hL]; exact hl) (fun z hz => xok_le f2.2 (hL z hz)) (fun w hw => xok_le f2.2 (hK w hw)) T2 rfl X2 hex
  refine ⟨t3, hstep t3 (fun acts => ?_), b1⟩
  rw [doInvoke_state]
  refine st1.trans ?_
  rw [ht]
  rw [x_mapK2 f2 hK] at a1
  exact a1
theorem x_goS (C : x_C p e R s m args meth c D cA A cc own nL) {M : XM} {y : MethodName} {index : Nat} {av st1 : List Value} (hy : x_CW y M) (hlk : Cond.methodLink own index y ∈ x_tb) (hst : Cond.static y ∈ x_tb) (hin : Cond.initialized y.cls ∈ x_tb) (hmh : y.cls ≠ "java/lang/invoke/MethodHandle" ∧ y.cls ≠ "java/lang/invoke/VarHandle") (hlen : (parseMethodDescriptor y.desc).map (fun d => d.parameters.length) = some av.length) (hd : decode cc pc = .ok (.invokestatic index, 3)) : x_Go p l e R s m args below meth c pc H locs ls cells slots y (av.reverse ++ st1) st1 av.toArray := by
  intro T hT X
  obtain ⟨hx, hb, hml, hown, hts, hKx, -⟩ := C
  obtain ⟨mk, hn⟩ : ∃ mk, s.methodNamed? y = some mk := by
    rcases hy.2.2 with ⟨-, h⟩ | h
    · exact Cond.code_named (hts _ h)
    · obtain ⟨m9, _, _, hn9, -⟩ := Cond.codeWith_spec (hts _ h)
      exact ⟨m9, hn9⟩
  obtain ⟨methM, ck, k1, k2, k3, k4, k5, k6, k7, k8⟩ := x_cw hy hts hn
  have hstatic : methM.isStatic = true := Cond.static_spec hn k1 (hts _ hst)
  obtain ⟨kP, hkP, -⟩ := className_of_methodNamed hn
  have hinitP : kP.init = .initialized := Cond.initialized_spec (findClass_of_methodNamed hn) hkP (hts _ hin)
  have hl2 : av.length = methM.sig.parameters.length := by rw [k8] at hlen; exact (Option.some.inj hlen).symm
  obtain ⟨vm₁, X₁, hstep₁⟩ := X.invokestatic hx hown (hts _ hlk) hn k1 hstatic hkP hinitP hmh (g := F0 m pc ls (av.reverse ++ st1)) rfl (argsL := av) (rest := st1) hl2 rfl (by rw [hb]; exact hd)
  exact ⟨vm₁, mk, hn, X₁, hstep₁⟩
theorem x_goV (C : x_C p e R s m args meth c D cA A cc own nL) {M : XM} {y : MethodName} {index q i ci : Nat} {rw_ : vw_C} {av st1 : List Value} (hy : x_CW y M) (hlk : Cond.methodLink own index y ∈ x_tb) (hst : Cond.instanceMethod y ∈ x_tb) (hc : xk_c q = some ci) (hr : xk_cl[ci]? = some rw_) (hsel : Cond.selects rw_.1 y y ∈ x_tb) (hmh : y.cls ≠ "java/lang/invoke/MethodHandle" ∧ y.cls ≠ "java/lang/invoke/VarHandle") (hlen : (parseMethodDescriptor y.desc).map (fun d => d.parameters.length) = some av.length) (hW : x_W D cA A g st H) (hi : i < st.2.2.2 q) (hd : decode cc pc = .ok (.invokevirtual index, 3)) : x_Go p l e R s m args below meth c pc H locs ls cells slots y (av.reverse ++ .ref (g q i) :: st1) st1 (.ref (g q i) :: av).toArray := by
  intro T hT X
  obtain ⟨hx, hb, hml, hown, hts, hKx, -⟩ := C
  obtain ⟨mk, methM, hn, k0, hstM, habM⟩ := Cond.instanceMethod_spec (hts _ hst)
  obtain ⟨methM', ck, k1, k2, k3, k4, k5, k6, k7, k8⟩ := x_cw hy hts hn
  cases k0.symm.trans k1
  have he := (hW.1 q i hi).1
  rw [xent_obj hc] at he
  obtain ⟨r2, h1, cell, q1, q2, q3, q4⟩ := he
  cases hr.symm.trans h1
  have hcls : s.vm.findClass rw_.1 = some cell.cls := by rw [q2]; exact (hKx.1 ci _ hr).2.1
  obtain ⟨c2, r3, m2, z1, z2, z3, z4, kP, hkP, hkPi⟩ := Cond.selects_spec (hts _ hsel)
  cases hcls.symm.trans z1
  cases (State.methodFound?_of_named hn hmh).symm.trans z2
  cases hn.symm.trans z3
  have hselP : selectMethod e.platform s.vm cell.cls mk = .method mk := by rw [Launch.admits_selectMethod X.admits]; exact z4
  have hl2 : av.length = methM.sig.parameters.length := by rw [k8] at hlen; exact (Option.some.inj hlen).symm
  obtain ⟨vm₁, X₁, hstep₁⟩ := X.invokevirtual hx hown (hts _ hlk) hn k1 hstM hkP hkPi hmh (a := g q i) (cell := cell) (by rw [hT]; exact q1) (fun z h => by rw [q3] at h; cases h) hselP k1 habM hkP hkPi (g := F0 m pc ls (av.reverse ++ .ref (g q i) :: st1)) rfl (argsL := av) (rest := st1) hl2 rfl (by rw [hb]; exact hd)
  exact ⟨vm₁, mk, hn, X₁, hstep₁⟩
theorem x_goI (C : x_C p e R s m args meth c D cA A cc own nL) {M : XM} {y : MethodName} {index a : Nat} {av st1 : List Value} (hy : x_CW y M) (hh : M.2.2.2.2.1 = []) (hret : M.2.2.2.1 = none) (hcode : Cond.code y M.2.1 M.2.2.1 none ∈ x_tb) (hnm : y.name = "<init>") (hlk : Cond.methodLink own index y ∈ x_tb ∨ ∃ host, Cond.methodLinkNest own index y host ∈ xk_nest) (hst : Cond.instanceMethod y ∈ x_tb) (hmh : y.cls ≠ "java/lang/invoke/MethodHandle" ∧ y.cls ≠ "java/lang/invoke/VarHandle") (hlen : (parseMethodDescriptor y.desc).map (fun d => d.parameters.length) = some av.length) (hd : decode cc pc = .ok (.invokespecial index, 3)) : x_Go p l e R s m args below meth c pc H locs ls cells slots y (av.reverse ++ .ref a :: st1) st1 (.ref a :: av).toArray := by
  intro T hT X
  obtain ⟨hx, hb, hml, hown, hts, hKx, -⟩ := C
  have hpl : e.platform.magicAccessors = ({} : Platform).magicAccessors := by rw [X.admits.platform]
  have hl2 : ∀ sig, parseMethodDescriptor y.desc = some sig → av.length = sig.parameters.length := fun sig h => by rw [h] at hlen; exact (Option.some.inj hlen).symm
  rcases hlk with h | ⟨host, h⟩
  · obtain ⟨mk, methM, cM, kP, vm₁, hnamed, hmethM, hcodeM, -, hlocalsM, -, hkP, -, hW₁, hstep₁⟩ := Steps.initColdArgs (e := e) X.here hx X.warmed hpl hown hnm hmh (hts _ h) (hts _ hst) (hts _ hcode) (f := F0 m pc ls (av.reverse ++ .ref a :: st1)) rfl hl2 rfl (by rw [hb]; exact hd)
    exact ⟨vm₁, mk, hnamed, X.noted hW₁, hstep₁⟩
  · obtain ⟨mk, methM, cM, kP, vm₁, hnamed, hmethM, hcodeM, -, hlocalsM, -, hkP, -, hW₁, hstep₁⟩ := Steps.initColdArgsNest (e := e) X.here hx X.warmed hpl hown hnm hmh (va_Nw.use rfl (hKx.2.2 _ h)) (hts _ hst) (hts _ hcode) (f := F0 m pc ls (av.reverse ++ .ref a :: st1)) rfl hl2 rfl (by rw [hb]; exact hd)
    exact ⟨vm₁, mk, hnamed, X.noted hW₁, hstep₁⟩
end XH
end
section
/-! CALLS over pools, thrown exceptions -/
/-- what the tables say of a static call -/
def x_SS (own : String) (index : Nat) (y : MethodName) (M : XM) (n : Nat) : Prop := x_CW y M ∧ plainFor y = true ∧ Cond.methodLink own index y ∈ x_tb ∧ Cond.static y ∈ x_tb ∧ Cond.initialized y.cls ∈ x_tb ∧ (y.cls ≠ "java/lang/invoke/MethodHandle" ∧ y.cls ≠ "java/lang/invoke/VarHandle") ∧ (parseMethodDescriptor y.desc).map (fun d => d.parameters.length) = some n
/-- .. of a virtual one, on an object of the pool q -/
def x_SV (own : String) (index : Nat) (y : MethodName) (M : XM) (q n : Nat) : Prop := x_CW y M ∧ plainFor y = true ∧ Cond.methodLink own index y ∈ x_tb ∧ Cond.instanceMethod y ∈ x_tb ∧ (∃ ci r, xk_c q = some ci ∧ xk_cl[ci]? = some r ∧ Cond.selects r.1 y y ∈ x_tb) ∧ (y.cls ≠ "java/lang/invoke/MethodHandle" ∧ y.cls ≠ "java/lang/invoke/VarHandle") ∧ (parseMethodDescriptor y.desc).map (fun d => d.parameters.length) = some n
/-- .. of a constructor's -/
def x_SI (own : String) (index : Nat) (y : MethodName) (M : XM) (n : Nat) : Prop := x_CW y M ∧ plainFor y = true ∧ (M.2.2.2.2.1 = [] ∧ M.2.2.2.1 = none ∧ Cond.code y M.2.1 M.2.2.1 none ∈ x_tb ∧ y.name = "<init>") ∧ (Cond.methodLink own index y ∈ x_tb ∨ ∃ host, Cond.methodLinkNest own index y host ∈ xk_nest) ∧ Cond.instanceMethod y ∈ x_tb ∧ (y.cls ≠ "java/lang/invoke/MethodHandle" ∧ y.cls ≠ "java/lang/invoke/VarHandle") ∧ (parseMethodDescriptor y.desc).map (fun d => d.parameters.length) = some n
/-- the callee's room is in the caller's -/
abbrev x_RM (R RY : Room) (n cells slots : Nat) : Prop := RY.frames + 1 ≤ R.frames ∧ 8 + (n + 11) + RY.locals ≤ R.locals ∧ cells + RY.cells ≤ R.cells ∧ slots + RY.slots ≤ R.slots
theorem x_okA {cnt : Nat → Nat} {aL K : List XV} (h : ∀ v ∈ aL.reverse ++ K, xok cnt v) : (∀ v ∈ aL, xok cnt v) ∧ ∀ v ∈ K, xok cnt v := ⟨fun v hv => h v (List.mem_append_left _ (List.mem_reverse.mpr hv)), fun v hv => h v (List.mem_append_right _ hv)⟩
section XI
variable {p : Program} {l : Launch} {e : Env} {R : Room} {s : State} {m : MethodId} {args : Array Value} {below : List Frame} {meth : Method} {c : Code} {D : va_G} {cA : Nat → ClassId} {A : Nat → Prop} {nL : Nat} {g0 : Nat → Nat → Nat} {n0 : Nat → Nat} {Q : State → Prop} {cc : ByteArray} {own : String} {pc : Nat} {L : List (Nat × XV)} {K S : List XV} {st st' : XS} {cells slots : Nat} {H : Heap} {locs : List Loc} {ls : Array Slot} {rest : List Value} {g : Nat → Nat → Nat} {mc ms : Nat}
theorem x_callS (C : x_C p e R s m args meth c D cA A cc own nL) {M : XM} {RY : Room} {aL : List XV} {v : Option XV} {y : MethodName} {index : Nat} (hs : x_SS own index y M aL.length) (hM : x_M l M RY (aL) st (.inl v) st' mc ms) (hr : x_RM R RY M.2.2.1 cells slots) (hS0 : S = aL.reverse ++ K) (hsum : (K.map xcat).sum ≤ 8) (hd : decode cc pc = .ok (.invokestatic index, 3)) (kk : x_V p l e R s m args below meth c D cA A nL g0 n0 Q (pc + 3) L (v.toList ++ K) st' (cells + mc) (slots + ms)) : x_V p l e R s m args below meth c D cA A nL g0 n0 Q pc L S st cells slots := by
  intro g H locs ls hW hg hS hl hL hK
  subst hS0
  obtain ⟨h1, h2⟩ := x_okA hK
  have hgo := x_goS (p := p) (l := l) (e := e) (R := R) (below := below) (H := H) (locs := locs) (ls := ls) (cells := cells) (slots := slots) (av := aL.map (xv g)) (st1 := K.map (xv g)) C hs.1 hs.2.2.1 hs.2.2.2.1 hs.2.2.2.2.1 hs.2.2.2.2.2.1 (by rw [List.length_map]; exact hs.2.2.2.2.2.2) hd
  have e1 : (aL.reverse ++ K).map (xv g) = (aL.map (xv g)).reverse ++ K.map (xv g) := by rw [List.map_append, List.map_reverse]
  rw [e1]
  exact x_retW C hM hs.1 hs.2.1 hr.1 hr.2.1 hr.2.2.1 hr.2.2.2 hW hg hS hl hL h2 h1 hsum hd hgo kk
theorem x_callSt (C : x_C p e R s m args meth c D cA A cc own nL) {M : XM} {RY : Room} {aL : List XV} {E : String} {y : MethodName} {index : Nat} (hs : x_SS own index y M aL.length) (hM : x_M l M RY (aL) st (.inr E) st' mc ms) (hr : x_RM R RY M.2.2.1 cells slots) (hS0 : S = aL.reverse ++ K) (hsum : (K.map xcat).sum ≤ 8) (hd : decode cc pc = .ok (.invokestatic index, 3)) (kk : x_VT p l e R s m args below meth c D cA A nL g0 n0 Q E pc L K st' (cells + mc) (slots + ms)) : x_V p l e R s m args below meth c D cA A nL g0 n0 Q pc L S st cells slots := by
  intro g H locs ls hW hg hS hl hL hK
  subst hS0
  obtain ⟨h1, h2⟩ := x_okA hK
  have hgo := x_goS (p := p) (l := l) (e := e) (R := R) (below := below) (H := H) (locs := locs) (ls := ls) (cells := cells) (slots := slots) (av := aL.map (xv g)) (st1 := K.map (xv g)) C hs.1 hs.2.2.1 hs.2.2.2.1 hs.2.2.2.2.1 hs.2.2.2.2.2.1 (by rw [List.length_map]; exact hs.2.2.2.2.2.2) hd
  have e1 : (aL.reverse ++ K).map (xv g) = (aL.map (xv g)).reverse ++ K.map (xv g) := by rw [List.map_append, List.map_reverse]
  rw [e1]
  exact x_thrW C hM hs.1 hs.2.1 hr.1 hr.2.1 hr.2.2.1 hr.2.2.2 hW hg hS hl hL h2 h1 hsum hd hgo kk
theorem x_callV (C : x_C p e R s m args meth c D cA A cc own nL) {M : XM} {RY : Room} {bL : List XV} {q i : Nat} {v : Option XV} {y : MethodName} {index : Nat} (hs : x_SV own index y M q bL.length) (hM : x_M l M RY (xR q (some i) :: bL) st (.inl v) st' mc ms) (hr : x_RM R RY M.2.2.1 cells slots) (hS0 : S = bL.reverse ++ xR q (some i) :: K) (hsum : (K.map xcat).sum ≤ 8) (hd : decode cc pc = .ok (.invokevirtual index, 3)) (kk : x_V p l e R s m args below meth c D cA A nL g0 n0 Q (pc + 3) L (v.toList ++ K) st' (cells + mc) (slots + ms)) : x_V p l e R s m args below meth c D cA A nL g0 n0 Q pc L S st cells slots := by
  intro g H locs ls hW hg hS hl hL hK
  subst hS0
  obtain ⟨h1, h2⟩ := x_okA hK
  obtain ⟨ci, r, hc, hrr, hsel⟩ := hs.2.2.2.2.1
  have hgo := x_goV (p := p) (l := l) (e := e) (R := R) (below := below) (H := H) (locs := locs) (ls := ls) (cells := cells) (slots := slots) (av := bL.map (xv g)) (st1 := K.map (xv g)) C hs.1 hs.2.2.1 hs.2.2.2.1 hc hrr hsel hs.2.2.2.2.2.1 (by rw [List.length_map]; exact hs.2.2.2.2.2.2) hW (xok_hd h2) hd
  have e1 : (bL.reverse ++ xR q (some i) :: K).map (xv g) = (bL.map (xv g)).reverse ++ .ref (g q i) :: K.map (xv g) := by rw [List.map_append, List.map_reverse]; rfl
  rw [e1]
  exact x_retW C hM hs.1 hs.2.1 hr.1 hr.2.1 hr.2.2.1 hr.2.2.2 hW hg hS hl hL (xok_tl h2) (xok_cs (xok_hd h2) h1) hsum hd hgo kk
theorem x_callVt (C : x_C p e R s m args meth c D cA A cc own nL) {M : XM} {RY : Room} {bL : List XV} {q i : Nat} {E : String} {y : MethodName} {index : Nat} (hs : x_SV own index y M q bL.length) (hM : x_M l M RY (xR q (some i) :: bL) st (.inr E) st' mc ms) (hr : x_RM R RY M.2.2.1 cells slots) (hS0 : S = bL.reverse ++ xR q (some i) :: K) (hsum : (K.map xcat).sum ≤ 8) (hd : decode cc pc = .ok (.invokevirtual index, 3)) (kk : x_VT p l e R s m args below meth c D cA A nL g0 n0 Q E pc L K st' (cells + mc) (slots + ms)) : x_V p l e R s m args below meth c D cA A nL g0 n0 Q pc L S st cells slots := by
  intro g H locs ls hW hg hS hl hL hK
  subst hS0
  obtain ⟨h1, h2⟩ := x_okA hK
  obtain ⟨ci, r, hc, hrr, hsel⟩ := hs.2.2.2.2.1
  have hgo := x_goV (p := p) (l := l) (e := e) (R := R) (below := below) (H := H) (locs := locs) (ls := ls) (cells := cells) (slots := slots) (av := bL.map (xv g)) (st1 := K.map (xv g)) C hs.1 hs.2.2.1 hs.2.2.2.1 hc hrr hsel hs.2.2.2.2.2.1 (by rw [List.length_map]; exact hs.2.2.2.2.2.2) hW (xok_hd h2) hd
  have e1 : (bL.reverse ++ xR q (some i) :: K).map (xv g) = (bL.map (xv g)).reverse ++ .ref (g q i) :: K.map (xv g) := by rw [List.map_append, List.map_reverse]; rfl
  rw [e1]
  exact x_thrW C hM hs.1 hs.2.1 hr.1 hr.2.1 hr.2.2.1 hr.2.2.2 hW hg hS hl hL (xok_tl h2) (xok_cs (xok_hd h2) h1) hsum hd hgo kk
theorem x_callI (C : x_C p e R s m args meth c D cA A cc own nL) {M : XM} {RY : Room} {bL : List XV} {q i : Nat} {v : Option XV} {y : MethodName} {index : Nat} (hs : x_SI own index y M bL.length) (hM : x_M l M RY (xR q (some i) :: bL) st (.inl v) st' mc ms) (hr : x_RM R RY M.2.2.1 cells slots) (hS0 : S = bL.reverse ++ xR q (some i) :: K) (hsum : (K.map xcat).sum ≤ 8) (hd : decode cc pc = .ok (.invokespecial index, 3)) (kk : x_V p l e R s m args below meth c D cA A nL g0 n0 Q (pc + 3) L (v.toList ++ K) st' (cells + mc) (slots + ms)) : x_V p l e R s m args below meth c D cA A nL g0 n0 Q pc L S st cells slots := by
  intro g H locs ls hW hg hS hl hL hK
  subst hS0
  obtain ⟨h1, h2⟩ := x_okA hK
  have hgo := x_goI (p := p) (l := l) (e := e) (R := R) (below := below) (H := H) (locs := locs) (ls := ls) (cells := cells) (slots := slots) (a := g q i) (av := bL.map (xv g)) (st1 := K.map (xv g)) C hs.1 hs.2.2.1.1 hs.2.2.1.2.1 hs.2.2.1.2.2.1 hs.2.2.1.2.2.2 hs.2.2.2.1 hs.2.2.2.2.1 hs.2.2.2.2.2.1 (by rw [List.length_map]; exact hs.2.2.2.2.2.2) hd
  have e1 : (bL.reverse ++ xR q (some i) :: K).map (xv g) = (bL.map (xv g)).reverse ++ .ref (g q i) :: K.map (xv g) := by rw [List.map_append, List.map_reverse]; rfl
  rw [e1]
  exact x_retW C hM hs.1 hs.2.1 hr.1 hr.2.1 hr.2.2.1 hr.2.2.2 hW hg hS hl hL (xok_tl h2) (xok_cs (xok_hd h2) h1) hsum hd hgo kk
theorem x_oinit (C : x_C p e R s m args meth c D cA A cc own nL) {q i index : Nat} (h1 : Cond.methodLink own index objectInit ∈ x_tb) (h2 : Cond.instanceMethod objectInit ∈ x_tb) (h3 : Cond.code objectInit ⟨#[0xb1]⟩ 1 none ∈ x_tb) (hf : 1 ≤ R.frames) (hlo : (K.map xcat).sum + 12 ≤ R.locals) (hd : decode cc pc = .ok (.invokespecial index, 3)) (kk : x_V p l e R s m args below meth c D cA A nL g0 n0 Q (pc + 3) L K st cells slots) : x_V p l e R s m args below meth c D cA A nL g0 n0 Q pc L (xR q (some i) :: K) st cells slots := by
  intro g H locs ls hW hg hS hl hL hK
  obtain ⟨hx, hb, hml, hown, hts, hKx, -⟩ := C
  refine W.objInit hx hb hown (hts _ h1) (hts _ h2) (hts _ h3) rfl (by rw [hml]; exact hl.1) rfl hd hf (by show 2 * 0 + _ + 12 ≤ _; rw [x_sum]; omega) ?_
  exact kk g H locs ls hW hg hS hl hL (xok_tl hK)
/-- the method throws on what a callee threw -/
theorem x_out (C : x_C p e R s m args meth c D cA (x_A g0 n0 s.heap.size) cc own nL) {E : String} (ho : ∀ x ∈ c.exceptionTable.toList, covers x pc = false) (hc : cells ≤ mc) (hs : slots ≤ ms) : x_VT p l e R s m args below meth c D cA (x_A g0 n0 s.heap.size) nL g0 n0 (x_MQ D cA g0 n0 below s mc ms (.inr E) st) E pc L K st cells slots := by
  intro g H locs ls a hW hg hS hl hL hK T hT X hex
  have X' := stand_widen X hc hs
  obtain ⟨h1, h2, h3, h4, h5⟩ := X'.leaveThrown a (g := F0 m pc ls (K.map (xv g))) rfl rfl rfl ho (hlocks := C.2.2.2.2.2.2.1)
  have eh : (T.setFrames (.throwing a :: below)).heap = H := hT
  refine ⟨_, h1, .threw a, locs, g, h2, h3, h4, h5, hS.2.2, hS.F eh, hg, by rw [eh]; exact hW, a, rfl, ?_⟩
  exact hex
end XI
end
section
/-! THROWS: an exception is made and thrown -/
theorem x_rebase {p : Program} {l : Launch} {e : Env} {R : Room} {s : State} {m : MethodId} {args : Array Value} {below : List Frame} {meth : Method} {c : Code} {T : State} {locs : List Loc} {cells slots : Nat} (X : Stand p l e R s m args below meth c T locs cells slots) (R2 : Room) (hf : R2.frames ≤ R.frames) (hlo : R2.locals ≤ R.locals) (hc : cells + R2.cells ≤ R.cells) (hs : slots + R2.slots ≤ R.slots) : Stand p l e R2 (T.setFrames (.invoking m args :: below)) m args below meth c T [] 0 0 := by
  obtain ⟨g₀, hfr⟩ := X.frames_eq
  have hcur : T.cur < T.threads.size := State.cur_lt_of_frames hfr
  have hfr2 : (T.setFrames (.invoking m args :: below)).frames = .invoking m args :: below := State.frames_setFrames _ hcur
  obtain ⟨th, hth, -⟩ := State.frames_cons hfr
  obtain ⟨th2, hth2, -⟩ := State.frames_cons hfr2
  have hm2 : (T.setFrames (.invoking m args :: below)).vm.method? m = some meth := X.method'
  have e1 : T = (T.setFrames (.invoking m args :: below)).setFrames T.frames := by
    rw [State.setFrames_setFrames, State.setFrames_self hth]
  have elim : e.platform.stackLimits (T.setFrames (.invoking m args :: below)).me = e.platform.stackLimits T.me := State.stackLimits_setFrames ..
  have ebyt : (T.setFrames (.invoking m args :: below)).me.stackBytes = T.me.stackBytes := State.stackBytes_setFrames ..
  have hlocs : s.localsInUse = (T.setFrames (.invoking m args :: below)).localsInUse := by
    rw [State.localsInUse_invoking X.frames X.method X.code, State.localsInUse_invoking hfr2 hm2 X.code]
  refine ⟨X.admits, X.cas, X.clock, hfr2, ?_, ?_, hm2, X.code, X.here, X.tail, State.WarmedH.refl _, elim.symm, ebyt.symm, ?_⟩
  · have h := X.room
    have hb := X.book
    have h1 := X.heapSize
    have h2 := X.used
    simp only [State.hasRoom, Bool.and_eq_true, decide_eq_true_eq] at h ⊢
    obtain ⟨⟨⟨⟨a1, a2, a3, a4, a5, a6⟩, a7⟩, a8⟩, a9⟩ := h
    rw [hfr2, elim, ebyt, ← hlocs, X.limits, X.bytes]
    rw [X.frames] at a2 a3
    have hsz : (T.setFrames (.invoking m args :: below)).heap.size = T.heap.size := rfl
    have hsu : (T.setFrames (.invoking m args :: below)).slotsUsed = T.slotsUsed := rfl
    refine ⟨⟨⟨⟨by omega, by omega, by omega, by omega, by omega, a6⟩, by omega⟩, by omega⟩, hb⟩
  · have h := X.hears
    have hal := X.warmed.alike
    cases below with
    | nil =>
      simp only [State.hears] at h ⊢
      rw [hm2]; rw [X.method] at h; exact h
    | cons f r =>
      cases f with
      | java g =>
        simp only [State.hears] at h ⊢
        have e2 : (T.setFrames (.invoking m args :: .java g :: r)).code? g.method = s.code? g.method := by
          rw [State.code?_eq, State.code?_eq]
          show (T.vm.method? g.method).bind _ = _
          rw [hal.method?]
        rw [e2]; exact h
      | native g => rfl
      | proc g => rfl
      | _ =>
        simp only [State.hears] at h ⊢
        rw [hm2]; rw [X.method] at h; exact h
  · have h := (State.sameButNew.refl (T.setFrames (.invoking m args :: below)) hth2).setFrames T.frames (State.cur_lt_of_frames hfr2)
    rw [← e1] at h
    exact h
theorem x_vmnone {D : va_G} {cA : Nat → ClassId} {g : Nat → Nat → Nat} {st : XS} {q i a : Nat} {H : Heap} (h : va_at D xk_cl (a, xent cA g st q i) H) : ∀ cell, H[a]? = some cell → cell.vm.isStatics = false := by
  intro cell hc
  cases hx : xk_c q with
  | some ci =>
    rw [xent_obj hx] at h
    obtain ⟨r, h1, cell2, q1, q2, q3, q4⟩ := h
    cases hc.symm.trans q1
    rw [q3]; rfl
  | none =>
    rw [xent_arr hx] at h
    have h : H[a]? = some (vp_cell (cA q) (xarr g st q i)) := h
    cases hc.symm.trans h
    obtain ⟨n, f | f | f | f | f⟩ := xarr g st q i <;> rfl
theorem x_W.kept {D : va_G} {cA : Nat → ClassId} {A : Nat → Prop} {g : Nat → Nat → Nat} {st : XS} {H H1 : Heap} (hW : x_W D cA A g st H) (ho : ∀ b : Nat, b < H.size → H1[b]? = H[b]?) : x_W D cA A g st H1 := ⟨fun q i hi => ⟨((hW.1 q i hi).1).kept (ho _ (hW.1 q i hi).1.lt), (hW.1 q i hi).2⟩, hW.2⟩
theorem x_same0 {s t : State} {k n : Nat} (h : s.sameButNew t [] k n) : ∀ b : Nat, b < s.heap.size → t.heap[b]? = s.heap[b]? := by
  intro b hb
  obtain ⟨cc, hcc⟩ : ∃ cc, s.heap[b]? = some cc := ⟨s.heap[b], Array.getElem?_eq_getElem hb⟩
  obtain ⟨c', h1, h2, h3, h4⟩ := h.2.2.2.2.2 b cc hcc
  have hs : c'.slots = cc.slots := Array.ext_getElem? (fun i => h4 i (by simp))
  rw [h1, hcc, h2, hs]
/-- the words of Bundle.ownAtoms that the tables hold and that keep; the others are x_Th's -/
def x_OA (own : String) (ic : Nat) (E : String) (names : List String) : Prop := ∀ w ∈ Bundle.ownAtoms own ic E names, w ∈ x_tb ∨ w = .castable "java/lang/IllegalStateException" "java/lang/IllegalStateException" ∨ w = .castable "java/lang/IllegalArgumentException" "java/lang/IllegalArgumentException" ∨ w = .laysStatic Bundle.tN "UNASSIGNED_STACK" Bundle.steD ∨ w = .laysStatic Bundle.tN "SUPPRESSED_SENTINEL" Bundle.listD ∨ w = .isRef (.static Bundle.tN "UNASSIGNED_STACK" Bundle.steD) ∨ w = .isRef (.static Bundle.tN "SUPPRESSED_SENTINEL" Bundle.listD) ∨ ∃ x ∈ xk_dec, w = .declares x
theorem x_St.lays {n d : String} {A : Nat → Prop} {U : State} {a : Array Value} (h : x_St n d A U U.heap) : (Cond.laysStatic Bundle.tN n d).before a U = true := by
  obtain ⟨c, k, i, f, b, cell, v, h0, h1, h2, h3, h4, h5, h6, h7, h8, h9, h10, h11⟩ := h
  exact Cond.laysStatic_of h0 h1 h2 h3 h4 h5 h6 h7 h8
theorem x_St.isr {n d : String} {A : Nat → Prop} {U : State} {a : Array Value} (h : x_St n d A U U.heap) : (Cond.isRef (.static Bundle.tN n d)).before a U = true := by
  obtain ⟨c, k, i, f, b, cell, v, h0, h1, h2, h3, h4, h5, h6, h7, h8, h9, h10, h11⟩ := h
  have he : (Term.static Bundle.tN n d).eval a U none [] U = some v := by
    simp [Term.eval, State.fieldNamed?, h1, h2, h3, h4, h5, h9]
  rcases h10 with rfl | ⟨b2, rfl⟩ <;> simp [Cond.before, Cond.holds, Cond.value, he]
section XT
variable {p : Program} {l : Launch} {e : Env} {R : Room} {s : State} {m : MethodId} {args : Array Value} {below : List Frame} {meth : Method} {c : Code} {D : va_G} {cA : Nat → ClassId} {nL : Nat} {g0 : Nat → Nat → Nat} {n0 : Nat → Nat} {cc : ByteArray} {own : String} {pc : Nat} {L : List (Nat × XV)} {K : List XV} {st : XS} {cells slots : Nat} {mc ms : Nat}
set_option maxHeartbeats 1000000 in
theorem x_throw (C : x_C p e R s m args meth c D cA (x_A g0 n0 s.heap.size) cc own nL) (hfl : l.flags = flags0) {E tx : String} {names : List String} {ixn ixs ixc : Nat} (hcl : Cond.classLink own ixn E ∈ x_tb) (hins : Cond.instantiable E 6 ∈ x_tb) (hini : Cond.initialized E ∈ x_tb) (hstr : (own, ixs, tx) ∈ xk_str) (hat : x_OA own ixc E names) (hfit : Bundle.fit E = true ∧ ∀ n ∈ names, Bundle.fit n = true) (ho : c.exceptionTable.toList.map (fun h => (h.startPc, h.endPc, h.handlerPc, h.catchType)) = []) (hK8 : (K.map xcat).sum ≤ 8) (hc1 : cells + 1 ≤ R.cells) (hs1 : slots + 6 ≤ R.slots) (hc : cells + 1 ≤ mc) (hs : slots + 6 ≤ ms) (hRf : names.length + 3 < R.frames) (hRl : 8 + 1 + (13 * (names.length + 1) + 42) ≤ R.locals)
    (hd0 : decode cc pc = .ok (.new ixn, 3)) (hd3 : decode cc (pc + 3) = .ok (.dup, 1)) (hd4 : decode cc (pc + 4) = .ok (.ldc ixs, 2)) (hd6 : decode cc (pc + 6) = .ok (.invokespecial ixc, 3)) (hd9 : decode cc (pc + 9) = .ok (.athrow, 1)) : x_V p l e R s m args below meth c D cA (x_A g0 n0 s.heap.size) nL g0 n0 (x_MQ D cA g0 n0 below s mc ms (.inr E) st) pc L K st cells slots := by
  intro g H locs ls hW hg hS hl hL hK T hT X
  obtain ⟨hx, hb, hml, hown, hts, hKx, hlk, hA, hTh⟩ := C
  subst hT
  have XB := x_rebase X { frames := R.frames, cells := 1, slots := 6, locals := R.locals } (Nat.le_refl _) (Nat.le_refl _) hc1 hs1
  generalize hs2 : T.setFrames (.invoking m args :: below) = s2 at XB
  have hv2 : s2.vm = T.vm := by rw [← hs2]; rfl
  have hh2 : s2.heap = T.heap := by rw [← hs2]; rfl
  have hw2 : s.WarmedH s2.vm := by rw [hv2]; exact X.warmed
  have hown2 : s2.vm.findClass own = some m.cls := by rw [hw2.alike.findClass]; exact hown
  have hts2 : ∀ w ∈ x_tb, w.before args s2 = true := fun w hw => word_at hw2 (x_good hw) (hts w hw)
  have hTh2 : x_Th (x_A g0 n0 s.heap.size) s2 s2.heap := by rw [hh2]; exact (hTh.moved hw2).kept (fun a h1 h2 => hS.2.1 a h1 h2)
  have hatoms : ∀ w ∈ Bundle.ownAtoms own ixc E names, w.before args s2 = true := by
    intro w hw
    rcases hat w hw with h | rfl | rfl | rfl | rfl | rfl | rfl | ⟨x, hx', rfl⟩
    · exact hts2 w h
    · exact va_Nw.use rfl hTh2.1.1
    · exact va_Nw.use rfl hTh2.1.2
    · exact hTh2.2.1.lays
    · exact hTh2.2.2.1.lays
    · exact hTh2.2.1.isr
    · exact hTh2.2.2.1.isr
    · exact va_Nw.use rfl (hTh2.2.2.2.2.2.2 x hx')
  obtain ⟨cX, kX, hcX, hkX, -⟩ := Cond.instantiable_spec (hts2 _ hins)
  obtain ⟨sa, hsa⟩ := hTh2.2.2.2.1 _ hstr
  have htr : e.platform.stackTraces = false := Launch.traces_off hfl X.admits
  have hz : c.exceptionTable.toList = [] := List.map_eq_nil_iff.mp ho
  have w : W p l e { frames := R.frames, cells := 1, slots := 6, locals := R.locals } s2 m args below meth c T.heap [] 0 0 (fun U => ∃ a, U.status = .running ∧ Ended U below (.threw a) ∧ s2.WarmedH U.vm ∧ s2.sameButNew ({ U with vm := s2.vm } : State) [] 1 6 ∧ x_Ex E a U) (F0 m pc ls (K.map (xv g))) := by
    refine W.newcK hx hb hown2 (hts2 _ hcl) (hts2 _ hins) (hts2 _ hini) rfl hd0 (Nat.le_refl _) (Nat.le_refl _) hcX rfl fun H1 kC hkC e1 z1 o1 => ?_
    cases hkX.symm.trans hkC
    refine lv_dup hx hb hd3 rfl ?_
    refine va_ldcS hx hb hown2 hsa hd4 ?_
    intro T1 hT1 X1
    obtain ⟨U, u1, u2, u3, u4, u5, ce, u6, u7⟩ := X1.ctorThrowS hx htr (own := own) (cls := E) (names := names) (ic := ixc) hown2 hfit.1 hfit.2 hatoms (fun x h => by cases h) (a := T.heap.size) hcX hkX (by rw [hT1]; exact e1) (by rw [hh2]; exact Nat.le_refl _) (msg := .ref sa) rfl (g := F0 m (pc + 6) ls (.ref sa :: .ref T.heap.size :: .ref T.heap.size :: K.map (xv g))) rfl (by rw [hml]; exact hl.1) rfl rfl (rest := K.map (xv g)) rfl (by rw [hb]; exact hd6) (by rw [hb]; exact hd9) (by rw [hz]; intro x h; cases h) hRf (by
      show 2 * 0 + ((Value.ref T.heap.size :: K.map (xv g)).map fun v => v.category).sum + _ ≤ _
      rw [List.map_cons, List.sum_cons, x_sum]
      show 2 * 0 + (1 + _) + _ ≤ R.locals
      omega) (hlocks := hlk)
    refine ⟨U, u1, T.heap.size, u2, u3, u4, u5, ce, u6, fun k h => ?_, ?_⟩
    · rw [u7.vm] at h; cases h
    · rw [u4.alike.findClass]; exact u7.cls
  obtain ⟨U, a1, a, b1, b2, b3, b4, b5⟩ := w T rfl XB
  have hu0 : ∀ b : Nat, b < T.heap.size → U.heap[b]? = T.heap[b]? := by
    intro b hb
    have h1 := x_same0 b4 b (by rw [hh2]; exact hb)
    rw [hh2] at h1
    exact h1
  have hsz : T.heap.size ≤ U.heap.size := by have h1 := b4.2.1; rw [hh2] at h1; exact h1
  have hsame : s.sameButNew ({ U with vm := s.vm } : State) locs mc ms := by
    have h1 := X.same
    have h2 : (T.setVm s.vm).sameButNew ({ U with vm := s.vm } : State) [] 1 6 := by
      obtain ⟨c1, c2, c3, c4, c5, c6⟩ := b4
      rw [← hs2] at c1 c2 c3 c4 c5 c6
      refine ⟨?_, c2, c3, c4, c5, c6⟩
      have c1 : ({ U with vm := T.vm } : State) = { (T.setFrames (.invoking m args :: below)).setFrames U.frames with heap := U.heap, slotsUsed := U.slotsUsed } := c1
      rw [State.setFrames_setFrames] at c1
      exact congrArg (fun z : State => z.setVm s.vm) c1
    have h3 := h1.trans h2
    rw [List.append_nil] at h3
    exact h3.mono hc hs
  refine ⟨U, a1, .threw a, locs, g, b1, b2, State.WarmedH.trans hw2 b3, hsame, hS.2.2, ⟨Nat.le_trans hS.1 hsz, fun q h1 h2 => ?_⟩, hg, hW.kept hu0, a, rfl, b5⟩
  rw [hu0 q (Nat.lt_of_lt_of_le h1 hS.1)]
  exact hS.2.1 q h1 h2
end XT
end
section
/-! more rows: fewer locals, null of any pool, pop, switches; thrown or returned -/
def xth {α : Type} (f : α → Option XV) (r : α ⊕ String) : XR := match r with
  | .inl v => .inl (f v)
  | .inr E => .inr E
def xmc {α : Type} (r : α ⊕ String) : Nat := match r with
  | .inl _ => 0
  | .inr _ => 1
def xms {α : Type} (r : α ⊕ String) : Nat := match r with
  | .inl _ => 0
  | .inr _ => 6
theorem x_swo {x : Int32} {lo hi : Int} (h : ∀ k : Int, lo ≤ k → k ≤ hi → ¬ x = Int32.ofInt k) : x.toInt < lo ∨ hi < x.toInt := by
  by_cases h1 : x.toInt < lo
  · exact Or.inl h1
  · by_cases h2 : hi < x.toInt
    · exact Or.inr h2
    · exact absurd (Int32.ofInt_toInt x).symm (h x.toInt (by omega) (by omega))
section XO
variable {p : Program} {l : Launch} {e : Env} {R : Room} {s : State} {m : MethodId} {args : Array Value} {below : List Frame} {meth : Method} {c : Code} {D : va_G} {cA : Nat → ClassId} {A : Nat → Prop} {nL : Nat} {g0 : Nat → Nat → Nat} {n0 : Nat → Nat} {Q : State → Prop} {cc : ByteArray} {own : String} {pc : Nat} {L L2 : List (Nat × XV)} {K : List XV} {st : XS} {cells slots : Nat}
theorem x_sub (ks : List Nat) (h : ks.filterMap (fun k => L[k]?) = L2) (k : x_V p l e R s m args below meth c D cA A nL g0 n0 Q pc L2 K st cells slots) : x_V p l e R s m args below meth c D cA A nL g0 n0 Q pc L K st cells slots := by
  intro g H locs ls hW hg hS hl hL hK
  have hm : ∀ z ∈ L2, z ∈ L := fun z hz => by
    rw [← h] at hz
    obtain ⟨w, -, hw⟩ := List.mem_filterMap.mp hz
    exact List.mem_of_getElem? hw
  refine k g H locs ls hW hg hS ⟨hl.1, hl.2.1, fun q hq => ?_⟩ (fun z hz => hL z (hm z hz)) hK
  obtain ⟨z, hz, rfl⟩ := List.mem_map.mp hq
  exact hl.2.2 _ (List.mem_map.mpr ⟨z, hm z hz, rfl⟩)
theorem x_nullq (C : x_C p e R s m args meth c D cA A cc own nL) {q : Nat} (hd : decode cc pc = .ok (.aconst_null, 1)) (k : x_V p l e R s m args below meth c D cA A nL g0 n0 Q (pc + 1) L (xR q none :: K) st cells slots) : x_V p l e R s m args below meth c D cA A nL g0 n0 Q pc L K st cells slots := by
  intro g H locs ls hW hg hS hl hL hK
  exact lv_null C.1 C.2.1 hd (k g H locs ls hW hg hS hl hL (xok_cs trivial hK))
theorem x_popv (C : x_C p e R s m args meth c D cA A cc own nL) {v : XV} (hv : xcat v = 1) (hd : decode cc pc = .ok (.pop, 1)) (k : x_V p l e R s m args below meth c D cA A nL g0 n0 Q (pc + 1) L K st cells slots) : x_V p l e R s m args below meth c D cA A nL g0 n0 Q pc L (v :: K) st cells slots := by
  intro g H locs ls hW hg hS hl hL hK
  exact lv_pop C.1 C.2.1 hd ((xcat_v g v).trans hv) (k g H locs ls hW hg hS hl hL (xok_tl hK))
theorem x_tsw (C : x_C p e R s m args meth c D cA A cc own nL) {dflt lo hi : Int} {offs : Array Int} {len : Nat} {x v : Int32} {off : Int} {tgt : Nat} (hd : decode cc pc = .ok (.tableswitch dflt lo hi offs, len)) (hx : x = v) (h1 : ¬ v.toInt < lo) (h2 : ¬ hi < v.toInt) (ho : offs[(v.toInt - lo).toNat]? = some off) (ht : (pc : Int) + off = (tgt : Int)) (k : x_V p l e R s m args below meth c D cA A nL g0 n0 Q tgt L K st cells slots) : x_V p l e R s m args below meth c D cA A nL g0 n0 Q pc L (xI x :: K) st cells slots := by
  subst hx
  exact x_tin C hd h1 h2 ho ht k
end XO
end
section
/-! new objects, their numbers named -/
section XW
variable {p : Program} {l : Launch} {e : Env} {R : Room} {s : State} {m : MethodId} {args : Array Value} {below : List Frame} {meth : Method} {c : Code} {D : va_G} {cA : Nat → ClassId} {A : Nat → Prop} {nL : Nat} {g0 : Nat → Nat → Nat} {n0 : Nat → Nat} {Q : State → Prop} {cc : ByteArray} {own : String} {pc : Nat} {L : List (Nat × XV)} {K : List XV} {st : XS} {cells slots : Nat}
theorem x_newn {n q : Nat} (hz : st.2.2.2 q = n) (C : x_C p e R s m args meth c D cA A cc own nL) {index ci N : Nat} {Cn : String} {T : u_T} (hc : xk_c q = some ci) (hr : xk_cl[ci]? = some (Cn, T, N)) (hcl : Cond.classLink own index Cn ∈ x_tb) (hins : Cond.instantiable Cn N ∈ x_tb) (hini : Cond.initialized Cn ∈ x_tb) (hdf : ∀ k, k < N → defaultValue (xk_ty ci k) = xdf (xk_s q k)) (hc1 : cells + 1 ≤ R.cells) (hs1 : slots + N ≤ R.slots) (hd : decode cc pc = .ok (.new index, 3)) (kk : x_V p l e R s m args below meth c D cA A nL g0 n0 Q (pc + 3) L (xR q (some n) :: K) (xsN st q) (cells + 1) (slots + N)) : x_V p l e R s m args below meth c D cA A nL g0 n0 Q pc L K st cells slots := by
  subst hz; exact x_new C hc hr hcl hins hini hdf hc1 hs1 hd kk
theorem x_newan {n q : Nat} (hz : st.2.2.2 q = n) (C : x_C p e R s m args meth c D cA A cc own nL) {so t : Nat} {k : Int32} {atype : ArrayType} {ty : FieldType} (ha : x_ar q so t ty) (hty : newarray.typeOf atype = ty) (hdf : defaultValue ty = xdf so) (hra : ∀ cl, va_RA s cl ty → s.vm.findClass ("[" ++ ty.toString) = some cl) (hcl : Cond.arrayClass ty ∈ x_tb) (hn : ¬ k < 0) (hN : k.toNatClampNeg = xk_n q) (hby : xk_n q * componentBytes ty ≤ 536870912) (hc1 : cells + 1 ≤ R.cells) (hs1 : slots + xk_n q ≤ R.slots) (hd : decode cc pc = .ok (.newarray atype, 2)) (kk : x_V p l e R s m args below meth c D cA A nL g0 n0 Q (pc + 2) L (xR q (some n) :: K) (xsN st q) (cells + 1) (slots + xk_n q)) : x_V p l e R s m args below meth c D cA A nL g0 n0 Q pc L (xI k :: K) st cells slots := by
  subst hz; exact x_newa C ha hty hdf hra hcl hn hN hby hc1 hs1 hd kk
theorem x_anewn {n q : Nat} (hz : st.2.2.2 q = n) (C : x_C p e R s m args meth c D cA A cc own nL) {t index : Nat} {k : Int32} {nm : String} (ha : x_ar q 2 t (.object nm)) (hcl : Cond.classLink own index nm ∈ x_tb) (hov : va_AO nm s) (hn : ¬ k < 0) (hN : k.toNatClampNeg = xk_n q) (hby : xk_n q * 4 ≤ 536870912) (hc1 : cells + 1 ≤ R.cells) (hs1 : slots + xk_n q ≤ R.slots) (hd : decode cc pc = .ok (.anewarray index, 3)) (kk : x_V p l e R s m args below meth c D cA A nL g0 n0 Q (pc + 3) L (xR q (some n) :: K) (xsN st q) (cells + 1) (slots + xk_n q)) : x_V p l e R s m args below meth c D cA A nL g0 n0 Q pc L (xI k :: K) st cells slots := by
  subst hz; exact x_anew C ha hcl hov hn hN hby hc1 hs1 hd kk
end XW
end
section
/-! CATCHES: the handlers of a method, their classes linked or not yet -/
/-- one row of the table that covers the pc: its class is looked up; it takes the object, or the search goes on -/
theorem x_row {Q : Handler → Pre} {E : CtlPost} {e : Env} {d : Bool} {acts : List Action} {S : State} {f : JFrame} {a : Addr} {x : ExceptionTableEntry} {t : List ExceptionTableEntry} {k : ClassId} {cell : Cell} (hx : covers x f.pc = true) (h0 : x.catchType ≠ 0) (hl : S.vm.ClassLinks e.platform f.method.cls x.catchType k) (hcell : S.heap[a]? = some cell) (hobj : ∀ z, cell.vm ≠ .statics z) (hk : ∃ z, S.vm.classes[cell.cls]? = some z) (hc : ∃ z, S.vm.classes[k]? = some z) :
    wp (findHandler.go f a (x :: t)) Q E e d acts S ↔ (if S.vm.assignable cell.cls k = true then Q (.found x.handlerPc) d acts (S.setVm (S.vm.noted f.method.cls x.catchType (.cls k))) else wp (findHandler.go f a t) Q E e d acts (S.setVm (S.vm.noted f.method.cls x.catchType (.cls k)))) := by
  have hal : S.vm.Alike (S.vm.noted f.method.cls x.catchType (.cls k)) := (Vm.Alike.refl S.vm).noted _ _ _
  obtain ⟨r1, r2⟩ := (resolveClass_links e.toSetting hl).op (op := VmOp.resolveClass f.method.cls x.catchType) rfl
  obtain ⟨z1, hz1⟩ := hk
  obtain ⟨z2, hz2⟩ := hc
  obtain ⟨y1, hy1, -⟩ := hal.2.2 _ _ hz1
  obtain ⟨y2, hy2, -⟩ := hal.2.2 _ _ hz2
  have hasg := hal.assignable cell.cls k
  cases hfit : S.vm.assignable cell.cls k <;> rw [hfit] at hasg <;> simp only [covers] at hx <;> simp [findHandler.go, hx, h0, r1, r2, hcell, hobj, hy1, hy2, hasg, VmOp.dirties, VmOp.acts]

/-- the search comes to the handler at pc, and leaves the tables vm2 -/
def x_Fd (e : Env) (S : State) (f : JFrame) (a : Addr) (pc : Nat) (vm2 : Vm) : Prop := ∀ (Q : Handler → Pre) (E : CtlPost) (d : Bool) (acts : List Action), wp (findHandler f a) Q E e d acts S ↔ Q (.found pc) d acts (S.setVm vm2)
theorem x_caught {tb : Tables} {e : Env} {T target : State} {f : JFrame} {c : Code} {below : List Frame} {a : Addr} (h : At T f.method c below) {pc : Nat} {vm2 : Vm} (hf : x_Fd e ((T.setTop f).pushFrame (.throwing a)) f a pc vm2) (hrest : Steps tb e below ((T.setVm vm2).setTop { f with pc := pc, stack := [.ref a] }) target) : Steps tb e below ((T.setTop f).pushFrame (.throwing a)) target := by
  obtain ⟨hgo, hw⟩ := h.throwing a
  refine Steps.head hgo hw ?_
  have hst : (stepThrowing e ((T.setTop f).pushFrame (.throwing a)) a (.java f :: T.frames.tail)).Is ((((T.setTop f).pushFrame (.throwing a)).setVm vm2).setFrames (.java { f with pc := pc, stack := [.ref a] } :: T.frames.tail)) [] := by
    simp only [stepThrowing, searchFrame, vmDo]
    generalize hr : Sem.go _ e false [] ((T.setTop f).pushFrame (.throwing a)) = res
    obtain ⟨as, rfl, ha⟩ := Sem.eq_ok_of hr (a := Handler.found pc) (s' := ((T.setTop f).pushFrame (.throwing a)).setVm vm2) (acts' := []) (by simp [hf _ _ _ _])
    exact ⟨rfl, ha⟩
  rw [stepThread_throwing (frames_entered h.top _), hst.1]
  obtain ⟨f0, hf0⟩ := Option.isSome_iff_exists.mp h.top
  obtain ⟨r, hr⟩ := State.topJava?_eq_some.mp hf0
  have hr2 : (T.setVm vm2).frames = .java f0 :: r := hr
  rw [State.setTop_of_frames _ hr2] at hrest
  have e1 : (((T.setTop f).pushFrame (.throwing a)).setVm vm2).setFrames (.java { f with pc := pc, stack := [.ref a] } :: T.frames.tail) = (T.setVm vm2).setFrames (.java { f with pc := pc, stack := [.ref a] } :: r) := by
    rw [hr, List.tail_cons, State.pushFrame, State.setTop_of_frames _ hr]
    have e2 : ∀ (u : State) (F G : List Frame), ((u.setFrames F).setVm vm2).setFrames G = (u.setVm vm2).setFrames G := fun u F G => by
      have e3 : (u.setFrames F).setVm vm2 = (u.setVm vm2).setFrames F := rfl
      rw [e3, State.setFrames_setFrames]
    rw [e2, e2]
  rw [e1]
  exact hrest
section XJ
variable {p : Program} {l : Launch} {e : Env} {R : Room} {s : State} {m : MethodId} {args : Array Value} {below : List Frame} {meth : Method} {c : Code} {D : va_G} {cA : Nat → ClassId} {A : Nat → Prop} {nL : Nat} {g0 : Nat → Nat → Nat} {n0 : Nat → Nat} {Q : State → Prop} {cc : ByteArray} {own : String} {pc : Nat} {L : List (Nat × XV)} {K : List XV} {st : XS} {cells slots : Nat}
/-- caught by the first row, or by the second behind a first of another class -/
theorem x_catch (C : x_C p e R s m args meth c D cA A cc own nL) {E : String} {pre : List (Nat × Nat × Nat × Nat)} {r : Nat × Nat × Nat × Nat} {rest : List (Nat × Nat × Nat × Nat)} (hex : c.exceptionTable.toList.map (fun h => (h.startPc, h.endPc, h.handlerPc, h.catchType)) = pre ++ r :: rest) (hp : pre = [] ∨ ∃ (r1 : Nat × Nat × Nat × Nat) (E1 : String), pre = [r1] ∧ (r1.1 ≤ pc ∧ pc < r1.2.1) ∧ r1.2.2.2 ≠ 0 ∧ Cond.classLink own r1.2.2.2 E1 ∈ x_tb ∧ va_Nc E E1 s) (hcov : r.1 ≤ pc ∧ pc < r.2.1) (hi : r.2.2.2 ≠ 0) (hlk : Cond.classLink own r.2.2.2 E ∈ x_tb) (hca : va_Nw (.castable E E) s) (kk : ∀ a, x_V p l e R s m args below meth c D cA A nL g0 n0 Q r.2.2.1 L [xA a] st cells slots) : x_VT p l e R s m args below meth c D cA A nL g0 n0 Q E pc L K st cells slots := by
  intro g H locs ls a hW hg hS hl hL hK T hT X hexc
  obtain ⟨hx, hb, hml, hown, hts, hKx, hlk0, hA, hTh⟩ := C
  obtain ⟨cell, q1, q2, q3⟩ := hexc
  have hpl : e.platform.magicAccessors = ({} : Platform).magicAccessors := by rw [X.admits.platform]
  have hal := X.warmed.alike
  have hq3 : s.vm.findClass E = some cell.cls := by rw [← hal.findClass]; exact q3
  obtain ⟨c1, c2, hc1, hc2, hasg⟩ := Cond.castable_spec (va_Nw.use (A := args) rfl hca)
  cases hq3.symm.trans hc1
  cases hq3.symm.trans hc2
  obtain ⟨k1, hk1, hcl1⟩ := Cond.classLink_spec hown (hts _ hlk) e.platform hpl
  cases hq3.symm.trans hk1
  obtain ⟨dk, _, _, kt, hd, _, _, _, _, hkt, _, hopen⟩ := hcl1.here
  have key : ∀ S : State, s.WarmedH S.vm → S.heap[a]? = some cell → ∀ (x : ExceptionTableEntry) (t : List ExceptionTableEntry), (x.startPc, x.endPc, x.handlerPc, x.catchType) = r → ∃ vm2, s.WarmedH vm2 ∧ ∀ (Q : Handler → Pre) (E : CtlPost) (d : Bool) (acts : List Action), wp (findHandler.go (F0 m pc ls (K.map (xv g))) a (x :: t)) Q E e d acts S ↔ Q (.found r.2.2.1) d acts (S.setVm vm2) := by
    intro S hw hcell x t hxr
    subst hxr
    obtain ⟨kt2, hkt2, -⟩ := hw.alike.2.2 _ _ hkt
    refine ⟨_, hw.noted hd hopen (State.rightAt_cls hcl1), fun Q E d acts => ?_⟩
    rw [x_row (by simp [covers, hcov.1, hcov.2]) hi (hw.classLinks hcl1) hcell q2 ⟨kt2, hkt2⟩ ⟨kt2, hkt2⟩, if_pos (by rw [hw.alike.assignable]; exact hasg)]
  have hfd : ∃ vm2, s.WarmedH vm2 ∧ x_Fd e ((T.setTop (F0 m pc ls (K.map (xv g)))).pushFrame (.throwing a)) (F0 m pc ls (K.map (xv g))) a r.2.2.1 vm2 := by
    have hcell : ((T.setTop (F0 m pc ls (K.map (xv g)))).pushFrame (.throwing a)).heap[a]? = some cell := by rw [throwing_heap]; exact q1
    have hwS : s.WarmedH ((T.setTop (F0 m pc ls (K.map (xv g)))).pushFrame (.throwing a)).vm := by rw [throwing_vm]; exact X.warmed
    have hmS : ((T.setTop (F0 m pc ls (K.map (xv g)))).pushFrame (.throwing a)).vm.method? m = some meth := by rw [throwing_vm]; exact X.method'
    generalize (T.setTop (F0 m pc ls (K.map (xv g)))).pushFrame (.throwing a) = S at hcell hwS hmS
    rcases hp with rfl | ⟨r1, E1, rfl, hcv1, hi1, hlk1, hnc⟩
    · obtain ⟨x, t, hxt, hxr, -⟩ := List.map_eq_cons_iff.mp hex
      obtain ⟨vm2, w1, w2⟩ := key S hwS hcell x t hxr
      exact ⟨vm2, w1, fun Q E d acts => by rw [W.findHandler_eq hmS X.code, hxt]; exact w2 Q E d acts⟩
    · obtain ⟨x1, t1, hxt, hx1r, ht1⟩ := List.map_eq_cons_iff.mp hex
      obtain ⟨x, t, rfl, hxr, -⟩ := List.map_eq_cons_iff.mp ht1
      subst hx1r
      obtain ⟨k2, hk2, hcl2⟩ := Cond.classLink_spec hown (hts _ hlk1) e.platform hpl
      obtain ⟨dk2, _, _, kt2, hd2, _, _, _, _, hkt2, _, hopen2⟩ := hcl2.here
      obtain ⟨n1, n2, hn1, hn2, hno⟩ := hnc
      cases hq3.symm.trans hn1
      cases hk2.symm.trans hn2
      obtain ⟨ka, hka, -⟩ := hwS.alike.2.2 _ _ hkt
      obtain ⟨kb, hkb, -⟩ := hwS.alike.2.2 _ _ hkt2
      have hwS2 : s.WarmedH (S.setVm (S.vm.noted m.cls x1.catchType (.cls k2))).vm := hwS.noted hd2 hopen2 (State.rightAt_cls hcl2)
      obtain ⟨vm2, w1, w2⟩ := key (S.setVm (S.vm.noted m.cls x1.catchType (.cls k2))) hwS2 hcell x t hxr
      refine ⟨vm2, w1, fun Q E d acts => ?_⟩
      rw [W.findHandler_eq hmS X.code, hxt, x_row (by simp [covers, hcv1.1, hcv1.2]) hi1 (hwS.classLinks hcl2) hcell q2 ⟨ka, hka⟩ ⟨kb, hkb⟩, if_neg (by rw [hwS.alike.assignable, hno]; decide)]
      exact w2 Q E d acts
  obtain ⟨vm2, hw2, hfd⟩ := hfd
  obtain ⟨t, a1, b1⟩ := kk a g H locs ls hW hg hS hl hL (xok_cs trivial (fun v h => by cases h)) (T.setVm vm2) hT (X.noted hw2)
  exact ⟨t, x_caught (f := F0 m pc ls (K.map (xv g))) X.here hfd a1, b1⟩
end XJ
end
