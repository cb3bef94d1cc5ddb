section
-- ===== PART A: goes FIRST, ahead of the names: the tables' words, and 'selects' of the private methods out of them =====
/-- a private method of a class that the tables say can be made, by its rows of tables_1 -/
def lw_okq (q : MethodName × Nat) : Prop := (q.1.cls ≠ "java/lang/invoke/MethodHandle" ∧ q.1.cls ≠ "java/lang/invoke/VarHandle") ∧ Cond.instantiable q.1.cls q.2 ∈ tables_1 ∧ Cond.privateMethod q.1 ∈ tables_1 ∧ Cond.instanceMethod q.1 ∈ tables_1
theorem lw_p0 : lw_okq (⟨"TugLines", "found", "(I)I"⟩, 8) := ⟨⟨by decide +kernel, by decide +kernel⟩, List.mem_of_getElem? (i := 12) (by decide +kernel), List.mem_of_getElem? (i := 201) (by decide +kernel), List.mem_of_getElem? (i := 202) (by decide +kernel)⟩
theorem lw_p1 : lw_okq (⟨"TugLines", "well", "(I)I"⟩, 8) := ⟨⟨by decide +kernel, by decide +kernel⟩, List.mem_of_getElem? (i := 12) (by decide +kernel), List.mem_of_getElem? (i := 210) (by decide +kernel), List.mem_of_getElem? (i := 211) (by decide +kernel)⟩
theorem lw_p2 : lw_okq (⟨"TugLines$Tape", "readLaw", "(LTugLines$Estuary;)Z"⟩, 5) := ⟨⟨by decide +kernel, by decide +kernel⟩, List.mem_of_getElem? (i := 40) (by decide +kernel), List.mem_of_getElem? (i := 266) (by decide +kernel), List.mem_of_getElem? (i := 267) (by decide +kernel)⟩
theorem lw_p3 : lw_okq (⟨"TugLines$Tape", "readSign", "(I)Z"⟩, 5) := ⟨⟨by decide +kernel, by decide +kernel⟩, List.mem_of_getElem? (i := 40) (by decide +kernel), List.mem_of_getElem? (i := 270) (by decide +kernel), List.mem_of_getElem? (i := 271) (by decide +kernel)⟩
theorem lw_p4 : lw_okq (⟨"TugLines$Tape", "here", "()I"⟩, 5) := ⟨⟨by decide +kernel, by decide +kernel⟩, List.mem_of_getElem? (i := 40) (by decide +kernel), List.mem_of_getElem? (i := 274) (by decide +kernel), List.mem_of_getElem? (i := 275) (by decide +kernel)⟩
theorem lw_p5 : lw_okq (⟨"TugLines$Tape", "byteAt", "(I)I"⟩, 5) := ⟨⟨by decide +kernel, by decide +kernel⟩, List.mem_of_getElem? (i := 40) (by decide +kernel), List.mem_of_getElem? (i := 278) (by decide +kernel), List.mem_of_getElem? (i := 279) (by decide +kernel)⟩
theorem lw_p6 : lw_okq (⟨"TugLines$Tape", "faulty", "(I)Z"⟩, 5) := ⟨⟨by decide +kernel, by decide +kernel⟩, List.mem_of_getElem? (i := 40) (by decide +kernel), List.mem_of_getElem? (i := 282) (by decide +kernel), List.mem_of_getElem? (i := 283) (by decide +kernel)⟩
theorem lw_p7 : lw_okq (⟨"TugLines$Tape", "readNumber", "(II)Z"⟩, 5) := ⟨⟨by decide +kernel, by decide +kernel⟩, List.mem_of_getElem? (i := 40) (by decide +kernel), List.mem_of_getElem? (i := 286) (by decide +kernel), List.mem_of_getElem? (i := 287) (by decide +kernel)⟩
theorem lw_p8 : lw_okq (⟨"TugLines$Tape", "readTugs", "(LTugLines$Estuary;)Z"⟩, 5) := ⟨⟨by decide +kernel, by decide +kernel⟩, List.mem_of_getElem? (i := 40) (by decide +kernel), List.mem_of_getElem? (i := 293) (by decide +kernel), List.mem_of_getElem? (i := 294) (by decide +kernel)⟩
theorem lw_p9 : lw_okq (⟨"TugLines$Tape", "sortHere", "()I"⟩, 5) := ⟨⟨by decide +kernel, by decide +kernel⟩, List.mem_of_getElem? (i := 40) (by decide +kernel), List.mem_of_getElem? (i := 297) (by decide +kernel), List.mem_of_getElem? (i := 298) (by decide +kernel)⟩
theorem lw_p10 : lw_okq (⟨"TugLines$Tape", "readTug", "(LTugLines$Estuary;I)Z"⟩, 5) := ⟨⟨by decide +kernel, by decide +kernel⟩, List.mem_of_getElem? (i := 40) (by decide +kernel), List.mem_of_getElem? (i := 301) (by decide +kernel), List.mem_of_getElem? (i := 302) (by decide +kernel)⟩
theorem lw_p11 : lw_okq (⟨"TugLines$Tape", "readPiers", "(LTugLines$Estuary;)Z"⟩, 5) := ⟨⟨by decide +kernel, by decide +kernel⟩, List.mem_of_getElem? (i := 40) (by decide +kernel), List.mem_of_getElem? (i := 305) (by decide +kernel), List.mem_of_getElem? (i := 306) (by decide +kernel)⟩
theorem lw_p12 : lw_okq (⟨"TugLines$Tape", "readPier", "(LTugLines$Estuary;I)Z"⟩, 5) := ⟨⟨by decide +kernel, by decide +kernel⟩, List.mem_of_getElem? (i := 40) (by decide +kernel), List.mem_of_getElem? (i := 309) (by decide +kernel), List.mem_of_getElem? (i := 310) (by decide +kernel)⟩
theorem lw_p13 : lw_okq (⟨"TugLines$Tape", "readEnd", "()Z"⟩, 5) := ⟨⟨by decide +kernel, by decide +kernel⟩, List.mem_of_getElem? (i := 40) (by decide +kernel), List.mem_of_getElem? (i := 313) (by decide +kernel), List.mem_of_getElem? (i := 314) (by decide +kernel)⟩
theorem lw_p14 : lw_okq (⟨"TugLines", "noEstuary", "()Z"⟩, 8) := ⟨⟨by decide +kernel, by decide +kernel⟩, List.mem_of_getElem? (i := 12) (by decide +kernel), List.mem_of_getElem? (i := 335) (by decide +kernel), List.mem_of_getElem? (i := 336) (by decide +kernel)⟩
theorem lw_p15 : lw_okq (⟨"TugLines$Estuary", "ropeIsThrough", "(I)Z"⟩, 12) := ⟨⟨by decide +kernel, by decide +kernel⟩, List.mem_of_getElem? (i := 65) (by decide +kernel), List.mem_of_getElem? (i := 360) (by decide +kernel), List.mem_of_getElem? (i := 361) (by decide +kernel)⟩
def lw_privs_1 : List (MethodName × Nat) := [(⟨"TugLines", "found", "(I)I"⟩, 8), (⟨"TugLines", "well", "(I)I"⟩, 8), (⟨"TugLines$Tape", "readLaw", "(LTugLines$Estuary;)Z"⟩, 5), (⟨"TugLines$Tape", "readSign", "(I)Z"⟩, 5), (⟨"TugLines$Tape", "here", "()I"⟩, 5), (⟨"TugLines$Tape", "byteAt", "(I)I"⟩, 5), (⟨"TugLines$Tape", "faulty", "(I)Z"⟩, 5), (⟨"TugLines$Tape", "readNumber", "(II)Z"⟩, 5), (⟨"TugLines$Tape", "readTugs", "(LTugLines$Estuary;)Z"⟩, 5), (⟨"TugLines$Tape", "sortHere", "()I"⟩, 5), (⟨"TugLines$Tape", "readTug", "(LTugLines$Estuary;I)Z"⟩, 5), (⟨"TugLines$Tape", "readPiers", "(LTugLines$Estuary;)Z"⟩, 5), (⟨"TugLines$Tape", "readPier", "(LTugLines$Estuary;I)Z"⟩, 5), (⟨"TugLines$Tape", "readEnd", "()Z"⟩, 5), (⟨"TugLines", "noEstuary", "()Z"⟩, 8), (⟨"TugLines$Estuary", "ropeIsThrough", "(I)Z"⟩, 12)]
theorem lw_r1 : ∀ q ∈ lw_privs_1, lw_okq q := List.forall_mem_cons.mpr ⟨lw_p0, List.forall_mem_cons.mpr ⟨lw_p1, List.forall_mem_cons.mpr ⟨lw_p2, List.forall_mem_cons.mpr ⟨lw_p3, List.forall_mem_cons.mpr ⟨lw_p4, List.forall_mem_cons.mpr ⟨lw_p5, List.forall_mem_cons.mpr ⟨lw_p6, List.forall_mem_cons.mpr ⟨lw_p7, List.forall_mem_cons.mpr ⟨lw_p8, List.forall_mem_cons.mpr ⟨lw_p9, List.forall_mem_cons.mpr ⟨lw_p10, List.forall_mem_cons.mpr ⟨lw_p11, List.forall_mem_cons.mpr ⟨lw_p12, List.forall_mem_cons.mpr ⟨lw_p13, List.forall_mem_cons.mpr ⟨lw_p14, List.forall_mem_cons.mpr ⟨lw_p15, fun _ h => absurd h List.not_mem_nil⟩⟩⟩⟩⟩⟩⟩⟩⟩⟩⟩⟩⟩⟩⟩⟩
theorem lw_p16 : lw_okq (⟨"TugLines$Estuary", "partBoys", "()V"⟩, 12) := ⟨⟨by decide +kernel, by decide +kernel⟩, List.mem_of_getElem? (i := 65) (by decide +kernel), List.mem_of_getElem? (i := 372) (by decide +kernel), List.mem_of_getElem? (i := 373) (by decide +kernel)⟩
theorem lw_p17 : lw_okq (⟨"TugLines$Estuary", "comeNearer", "(I)V"⟩, 12) := ⟨⟨by decide +kernel, by decide +kernel⟩, List.mem_of_getElem? (i := 65) (by decide +kernel), List.mem_of_getElem? (i := 376) (by decide +kernel), List.mem_of_getElem? (i := 377) (by decide +kernel)⟩
theorem lw_p18 : lw_okq (⟨"TugLines$Estuary", "pierOnTheWay", "(I)I"⟩, 12) := ⟨⟨by decide +kernel, by decide +kernel⟩, List.mem_of_getElem? (i := 65) (by decide +kernel), List.mem_of_getElem? (i := 380) (by decide +kernel), List.mem_of_getElem? (i := 381) (by decide +kernel)⟩
theorem lw_p19 : lw_okq (⟨"TugLines", "noTug", "(I)Z"⟩, 8) := ⟨⟨by decide +kernel, by decide +kernel⟩, List.mem_of_getElem? (i := 12) (by decide +kernel), List.mem_of_getElem? (i := 391) (by decide +kernel), List.mem_of_getElem? (i := 392) (by decide +kernel)⟩
theorem lw_p20 : lw_okq (⟨"TugLines", "noPier", "(I)Z"⟩, 8) := ⟨⟨by decide +kernel, by decide +kernel⟩, List.mem_of_getElem? (i := 12) (by decide +kernel), List.mem_of_getElem? (i := 413) (by decide +kernel), List.mem_of_getElem? (i := 414) (by decide +kernel)⟩
theorem lw_p21 : lw_okq (⟨"TugLines", "fromNow", "()LTugLines$Estuary;"⟩, 8) := ⟨⟨by decide +kernel, by decide +kernel⟩, List.mem_of_getElem? (i := 12) (by decide +kernel), List.mem_of_getElem? (i := 438) (by decide +kernel), List.mem_of_getElem? (i := 439) (by decide +kernel)⟩
theorem lw_p22 : lw_okq (⟨"TugLines", "inByCrew", "(II)Z"⟩, 8) := ⟨⟨by decide +kernel, by decide +kernel⟩, List.mem_of_getElem? (i := 12) (by decide +kernel), List.mem_of_getElem? (i := 479) (by decide +kernel), List.mem_of_getElem? (i := 480) (by decide +kernel)⟩
theorem lw_p23 : lw_okq (⟨"TugLines", "inByCleared", "(II)Z"⟩, 8) := ⟨⟨by decide +kernel, by decide +kernel⟩, List.mem_of_getElem? (i := 12) (by decide +kernel), List.mem_of_getElem? (i := 490) (by decide +kernel), List.mem_of_getElem? (i := 491) (by decide +kernel)⟩
theorem lw_p24 : lw_okq (⟨"TugLines", "isSoWith", "(IIILTugLines$Row;II)Z"⟩, 8) := ⟨⟨by decide +kernel, by decide +kernel⟩, List.mem_of_getElem? (i := 12) (by decide +kernel), List.mem_of_getElem? (i := 512) (by decide +kernel), List.mem_of_getElem? (i := 513) (by decide +kernel)⟩
theorem lw_p25 : lw_okq (⟨"TugLines", "waysIn", "(III)I"⟩, 8) := ⟨⟨by decide +kernel, by decide +kernel⟩, List.mem_of_getElem? (i := 12) (by decide +kernel), List.mem_of_getElem? (i := 524) (by decide +kernel), List.mem_of_getElem? (i := 525) (by decide +kernel)⟩
theorem lw_p26 : lw_okq (⟨"TugLines", "waysInBehind", "(IIIZ)I"⟩, 8) := ⟨⟨by decide +kernel, by decide +kernel⟩, List.mem_of_getElem? (i := 12) (by decide +kernel), List.mem_of_getElem? (i := 531) (by decide +kernel), List.mem_of_getElem? (i := 532) (by decide +kernel)⟩
theorem lw_p27 : lw_okq (⟨"TugLines$Asker", "begin", "(ILTugLines$Estuary;II)I"⟩, 2) := ⟨⟨by decide +kernel, by decide +kernel⟩, List.mem_of_getElem? (i := 153) (by decide +kernel), List.mem_of_getElem? (i := 584) (by decide +kernel), List.mem_of_getElem? (i := 585) (by decide +kernel)⟩
theorem lw_p28 : lw_okq (⟨"TugLines$Asker", "body", "(ILTugLines$Estuary;II)I"⟩, 2) := ⟨⟨by decide +kernel, by decide +kernel⟩, List.mem_of_getElem? (i := 153) (by decide +kernel), List.mem_of_getElem? (i := 592) (by decide +kernel), List.mem_of_getElem? (i := 593) (by decide +kernel)⟩
theorem lw_p29 : lw_okq (⟨"TugLines$Asker", "leave", "(I)V"⟩, 2) := ⟨⟨by decide +kernel, by decide +kernel⟩, List.mem_of_getElem? (i := 153) (by decide +kernel), List.mem_of_getElem? (i := 596) (by decide +kernel), List.mem_of_getElem? (i := 597) (by decide +kernel)⟩
theorem lw_p30 : lw_okq (⟨"TugLines", "rowsThere", "()I"⟩, 8) := ⟨⟨by decide +kernel, by decide +kernel⟩, List.mem_of_getElem? (i := 12) (by decide +kernel), List.mem_of_getElem? (i := 608) (by decide +kernel), List.mem_of_getElem? (i := 609) (by decide +kernel)⟩
theorem lw_p31 : lw_okq (⟨"TugLinesModel", "found", "(I)I"⟩, 22) := ⟨⟨by decide +kernel, by decide +kernel⟩, List.mem_of_getElem? (i := 616) (by decide +kernel), List.mem_of_getElem? (i := 702) (by decide +kernel), List.mem_of_getElem? (i := 703) (by decide +kernel)⟩
def lw_privs_2 : List (MethodName × Nat) := [(⟨"TugLines$Estuary", "partBoys", "()V"⟩, 12), (⟨"TugLines$Estuary", "comeNearer", "(I)V"⟩, 12), (⟨"TugLines$Estuary", "pierOnTheWay", "(I)I"⟩, 12), (⟨"TugLines", "noTug", "(I)Z"⟩, 8), (⟨"TugLines", "noPier", "(I)Z"⟩, 8), (⟨"TugLines", "fromNow", "()LTugLines$Estuary;"⟩, 8), (⟨"TugLines", "inByCrew", "(II)Z"⟩, 8), (⟨"TugLines", "inByCleared", "(II)Z"⟩, 8), (⟨"TugLines", "isSoWith", "(IIILTugLines$Row;II)Z"⟩, 8), (⟨"TugLines", "waysIn", "(III)I"⟩, 8), (⟨"TugLines", "waysInBehind", "(IIIZ)I"⟩, 8), (⟨"TugLines$Asker", "begin", "(ILTugLines$Estuary;II)I"⟩, 2), (⟨"TugLines$Asker", "body", "(ILTugLines$Estuary;II)I"⟩, 2), (⟨"TugLines$Asker", "leave", "(I)V"⟩, 2), (⟨"TugLines", "rowsThere", "()I"⟩, 8), (⟨"TugLinesModel", "found", "(I)I"⟩, 22)]
theorem lw_r2 : ∀ q ∈ lw_privs_2, lw_okq q := List.forall_mem_cons.mpr ⟨lw_p16, List.forall_mem_cons.mpr ⟨lw_p17, List.forall_mem_cons.mpr ⟨lw_p18, List.forall_mem_cons.mpr ⟨lw_p19, List.forall_mem_cons.mpr ⟨lw_p20, List.forall_mem_cons.mpr ⟨lw_p21, List.forall_mem_cons.mpr ⟨lw_p22, List.forall_mem_cons.mpr ⟨lw_p23, List.forall_mem_cons.mpr ⟨lw_p24, List.forall_mem_cons.mpr ⟨lw_p25, List.forall_mem_cons.mpr ⟨lw_p26, List.forall_mem_cons.mpr ⟨lw_p27, List.forall_mem_cons.mpr ⟨lw_p28, List.forall_mem_cons.mpr ⟨lw_p29, List.forall_mem_cons.mpr ⟨lw_p30, List.forall_mem_cons.mpr ⟨lw_p31, fun _ h => absurd h List.not_mem_nil⟩⟩⟩⟩⟩⟩⟩⟩⟩⟩⟩⟩⟩⟩⟩⟩
theorem lw_p32 : lw_okq (⟨"TugLinesModel", "well", "(I)I"⟩, 22) := ⟨⟨by decide +kernel, by decide +kernel⟩, List.mem_of_getElem? (i := 616) (by decide +kernel), List.mem_of_getElem? (i := 707) (by decide +kernel), List.mem_of_getElem? (i := 708) (by decide +kernel)⟩
theorem lw_p33 : lw_okq (⟨"TugLinesModel", "isMissing", "(I)Z"⟩, 22) := ⟨⟨by decide +kernel, by decide +kernel⟩, List.mem_of_getElem? (i := 616) (by decide +kernel), List.mem_of_getElem? (i := 715) (by decide +kernel), List.mem_of_getElem? (i := 716) (by decide +kernel)⟩
theorem lw_p34 : lw_okq (⟨"TugLinesModel", "isPart", "(III)Z"⟩, 22) := ⟨⟨by decide +kernel, by decide +kernel⟩, List.mem_of_getElem? (i := 616) (by decide +kernel), List.mem_of_getElem? (i := 726) (by decide +kernel), List.mem_of_getElem? (i := 727) (by decide +kernel)⟩
theorem lw_p35 : lw_okq (⟨"TugLinesModel", "advances", "()V"⟩, 22) := ⟨⟨by decide +kernel, by decide +kernel⟩, List.mem_of_getElem? (i := 616) (by decide +kernel), List.mem_of_getElem? (i := 743) (by decide +kernel), List.mem_of_getElem? (i := 744) (by decide +kernel)⟩
theorem lw_p36 : lw_okq (⟨"TugLinesModel", "byteAt", "(I)I"⟩, 22) := ⟨⟨by decide +kernel, by decide +kernel⟩, List.mem_of_getElem? (i := 616) (by decide +kernel), List.mem_of_getElem? (i := 747) (by decide +kernel), List.mem_of_getElem? (i := 748) (by decide +kernel)⟩
theorem lw_p37 : lw_okq (⟨"TugLinesModel", "takes", "(ZI)I"⟩, 22) := ⟨⟨by decide +kernel, by decide +kernel⟩, List.mem_of_getElem? (i := 616) (by decide +kernel), List.mem_of_getElem? (i := 751) (by decide +kernel), List.mem_of_getElem? (i := 752) (by decide +kernel)⟩
theorem lw_p38 : lw_okq (⟨"TugLinesModel", "isWell", "()Z"⟩, 22) := ⟨⟨by decide +kernel, by decide +kernel⟩, List.mem_of_getElem? (i := 616) (by decide +kernel), List.mem_of_getElem? (i := 755) (by decide +kernel), List.mem_of_getElem? (i := 756) (by decide +kernel)⟩
theorem lw_p39 : lw_okq (⟨"TugLinesModel", "figure", "(II)I"⟩, 22) := ⟨⟨by decide +kernel, by decide +kernel⟩, List.mem_of_getElem? (i := 616) (by decide +kernel), List.mem_of_getElem? (i := 759) (by decide +kernel), List.mem_of_getElem? (i := 760) (by decide +kernel)⟩
theorem lw_p40 : lw_okq (⟨"TugLinesModel", "follows", "(II)I"⟩, 22) := ⟨⟨by decide +kernel, by decide +kernel⟩, List.mem_of_getElem? (i := 616) (by decide +kernel), List.mem_of_getElem? (i := 763) (by decide +kernel), List.mem_of_getElem? (i := 764) (by decide +kernel)⟩
theorem lw_p41 : lw_okq (⟨"TugLinesModel", "readsTug", "()V"⟩, 22) := ⟨⟨by decide +kernel, by decide +kernel⟩, List.mem_of_getElem? (i := 616) (by decide +kernel), List.mem_of_getElem? (i := 770) (by decide +kernel), List.mem_of_getElem? (i := 771) (by decide +kernel)⟩
theorem lw_p42 : lw_okq (⟨"TugLinesModel", "must", "(Z)V"⟩, 22) := ⟨⟨by decide +kernel, by decide +kernel⟩, List.mem_of_getElem? (i := 616) (by decide +kernel), List.mem_of_getElem? (i := 774) (by decide +kernel), List.mem_of_getElem? (i := 775) (by decide +kernel)⟩
theorem lw_p43 : lw_okq (⟨"TugLinesModel", "readsPier", "()V"⟩, 22) := ⟨⟨by decide +kernel, by decide +kernel⟩, List.mem_of_getElem? (i := 616) (by decide +kernel), List.mem_of_getElem? (i := 778) (by decide +kernel), List.mem_of_getElem? (i := 779) (by decide +kernel)⟩
theorem lw_p44 : lw_okq (⟨"TugLinesModel", "isEstuary", "()Z"⟩, 22) := ⟨⟨by decide +kernel, by decide +kernel⟩, List.mem_of_getElem? (i := 616) (by decide +kernel), List.mem_of_getElem? (i := 794) (by decide +kernel), List.mem_of_getElem? (i := 795) (by decide +kernel)⟩
theorem lw_p45 : lw_okq (⟨"TugLinesModel", "notes", "()V"⟩, 22) := ⟨⟨by decide +kernel, by decide +kernel⟩, List.mem_of_getElem? (i := 616) (by decide +kernel), List.mem_of_getElem? (i := 799) (by decide +kernel), List.mem_of_getElem? (i := 800) (by decide +kernel)⟩
theorem lw_p46 : lw_okq (⟨"TugLinesModel", "isTug", "(I)Z"⟩, 22) := ⟨⟨by decide +kernel, by decide +kernel⟩, List.mem_of_getElem? (i := 616) (by decide +kernel), List.mem_of_getElem? (i := 831) (by decide +kernel), List.mem_of_getElem? (i := 832) (by decide +kernel)⟩
theorem lw_p47 : lw_okq (⟨"TugLinesModel", "isPier", "(I)Z"⟩, 22) := ⟨⟨by decide +kernel, by decide +kernel⟩, List.mem_of_getElem? (i := 616) (by decide +kernel), List.mem_of_getElem? (i := 850) (by decide +kernel), List.mem_of_getElem? (i := 851) (by decide +kernel)⟩
def lw_privs_3 : List (MethodName × Nat) := [(⟨"TugLinesModel", "well", "(I)I"⟩, 22), (⟨"TugLinesModel", "isMissing", "(I)Z"⟩, 22), (⟨"TugLinesModel", "isPart", "(III)Z"⟩, 22), (⟨"TugLinesModel", "advances", "()V"⟩, 22), (⟨"TugLinesModel", "byteAt", "(I)I"⟩, 22), (⟨"TugLinesModel", "takes", "(ZI)I"⟩, 22), (⟨"TugLinesModel", "isWell", "()Z"⟩, 22), (⟨"TugLinesModel", "figure", "(II)I"⟩, 22), (⟨"TugLinesModel", "follows", "(II)I"⟩, 22), (⟨"TugLinesModel", "readsTug", "()V"⟩, 22), (⟨"TugLinesModel", "must", "(Z)V"⟩, 22), (⟨"TugLinesModel", "readsPier", "()V"⟩, 22), (⟨"TugLinesModel", "isEstuary", "()Z"⟩, 22), (⟨"TugLinesModel", "notes", "()V"⟩, 22), (⟨"TugLinesModel", "isTug", "(I)Z"⟩, 22), (⟨"TugLinesModel", "isPier", "(I)Z"⟩, 22)]
theorem lw_r3 : ∀ q ∈ lw_privs_3, lw_okq q := List.forall_mem_cons.mpr ⟨lw_p32, List.forall_mem_cons.mpr ⟨lw_p33, List.forall_mem_cons.mpr ⟨lw_p34, List.forall_mem_cons.mpr ⟨lw_p35, List.forall_mem_cons.mpr ⟨lw_p36, List.forall_mem_cons.mpr ⟨lw_p37, List.forall_mem_cons.mpr ⟨lw_p38, List.forall_mem_cons.mpr ⟨lw_p39, List.forall_mem_cons.mpr ⟨lw_p40, List.forall_mem_cons.mpr ⟨lw_p41, List.forall_mem_cons.mpr ⟨lw_p42, List.forall_mem_cons.mpr ⟨lw_p43, List.forall_mem_cons.mpr ⟨lw_p44, List.forall_mem_cons.mpr ⟨lw_p45, List.forall_mem_cons.mpr ⟨lw_p46, List.forall_mem_cons.mpr ⟨lw_p47, fun _ h => absurd h List.not_mem_nil⟩⟩⟩⟩⟩⟩⟩⟩⟩⟩⟩⟩⟩⟩⟩⟩
theorem lw_p48 : lw_okq (⟨"TugLinesModel", "goesOn", "(I)V"⟩, 22) := ⟨⟨by decide +kernel, by decide +kernel⟩, List.mem_of_getElem? (i := 616) (by decide +kernel), List.mem_of_getElem? (i := 870) (by decide +kernel), List.mem_of_getElem? (i := 871) (by decide +kernel)⟩
theorem lw_p49 : lw_okq (⟨"TugLinesModel", "isSeen", "(IIII)Z"⟩, 22) := ⟨⟨by decide +kernel, by decide +kernel⟩, List.mem_of_getElem? (i := 616) (by decide +kernel), List.mem_of_getElem? (i := 914) (by decide +kernel), List.mem_of_getElem? (i := 915) (by decide +kernel)⟩
theorem lw_p50 : lw_okq (⟨"TugLinesModel", "kindIn", "(I)I"⟩, 22) := ⟨⟨by decide +kernel, by decide +kernel⟩, List.mem_of_getElem? (i := 616) (by decide +kernel), List.mem_of_getElem? (i := 943) (by decide +kernel), List.mem_of_getElem? (i := 944) (by decide +kernel)⟩
theorem lw_p51 : lw_okq (⟨"TugLinesModel", "launchSize", "(I)I"⟩, 22) := ⟨⟨by decide +kernel, by decide +kernel⟩, List.mem_of_getElem? (i := 616) (by decide +kernel), List.mem_of_getElem? (i := 955) (by decide +kernel), List.mem_of_getElem? (i := 956) (by decide +kernel)⟩
theorem lw_p52 : lw_okq (⟨"TugLinesModel", "begins", "(I)V"⟩, 22) := ⟨⟨by decide +kernel, by decide +kernel⟩, List.mem_of_getElem? (i := 616) (by decide +kernel), List.mem_of_getElem? (i := 959) (by decide +kernel), List.mem_of_getElem? (i := 960) (by decide +kernel)⟩
theorem lw_p53 : lw_okq (⟨"TugLinesModel", "paddlerSize", "(I)I"⟩, 22) := ⟨⟨by decide +kernel, by decide +kernel⟩, List.mem_of_getElem? (i := 616) (by decide +kernel), List.mem_of_getElem? (i := 963) (by decide +kernel), List.mem_of_getElem? (i := 964) (by decide +kernel)⟩
theorem lw_p54 : lw_okq (⟨"TugLinesModel", "paddlerMark", "(I)I"⟩, 22) := ⟨⟨by decide +kernel, by decide +kernel⟩, List.mem_of_getElem? (i := 616) (by decide +kernel), List.mem_of_getElem? (i := 967) (by decide +kernel), List.mem_of_getElem? (i := 968) (by decide +kernel)⟩
theorem lw_p55 : lw_okq (⟨"TugLinesModel", "launchMark", "(I)I"⟩, 22) := ⟨⟨by decide +kernel, by decide +kernel⟩, List.mem_of_getElem? (i := 616) (by decide +kernel), List.mem_of_getElem? (i := 971) (by decide +kernel), List.mem_of_getElem? (i := 972) (by decide +kernel)⟩
def lw_privs_4 : List (MethodName × Nat) := [(⟨"TugLinesModel", "goesOn", "(I)V"⟩, 22), (⟨"TugLinesModel", "isSeen", "(IIII)Z"⟩, 22), (⟨"TugLinesModel", "kindIn", "(I)I"⟩, 22), (⟨"TugLinesModel", "launchSize", "(I)I"⟩, 22), (⟨"TugLinesModel", "begins", "(I)V"⟩, 22), (⟨"TugLinesModel", "paddlerSize", "(I)I"⟩, 22), (⟨"TugLinesModel", "paddlerMark", "(I)I"⟩, 22), (⟨"TugLinesModel", "launchMark", "(I)I"⟩, 22)]
theorem lw_r4 : ∀ q ∈ lw_privs_4, lw_okq q := List.forall_mem_cons.mpr ⟨lw_p48, List.forall_mem_cons.mpr ⟨lw_p49, List.forall_mem_cons.mpr ⟨lw_p50, List.forall_mem_cons.mpr ⟨lw_p51, List.forall_mem_cons.mpr ⟨lw_p52, List.forall_mem_cons.mpr ⟨lw_p53, List.forall_mem_cons.mpr ⟨lw_p54, List.forall_mem_cons.mpr ⟨lw_p55, fun _ h => absurd h List.not_mem_nil⟩⟩⟩⟩⟩⟩⟩⟩
def lw_privs : List (MethodName × Nat) := lw_privs_1 ++ (lw_privs_2 ++ (lw_privs_3 ++ (lw_privs_4)))
def lw_tbl : List Cond := k2_sels lw_privs ++ tables_1
theorem lw_privs_ok : ∀ q ∈ lw_privs, lw_okq q := by
  show ∀ q ∈ lw_privs_1 ++ (lw_privs_2 ++ (lw_privs_3 ++ (lw_privs_4))), lw_okq q
  exact List.forall_mem_append.mpr ⟨lw_r1, List.forall_mem_append.mpr ⟨lw_r2, List.forall_mem_append.mpr ⟨lw_r3, lw_r4⟩⟩⟩
end
section
def RX0 : String := "TugLines$Acts"
def TX0 : u_T := fun k => match k with
  | 0 => ("TugLines$Acts", "before", "[LTugLines$Estuary;", true)
  | 1 => ("TugLines$Acts", "oldest", "I", false)
  | _ => ("TugLines$Acts", "kept", "I", false)
def tyX0 : Nat → FieldType := fun k => match k with
  | 0 => .array (.object "TugLines$Estuary")
  | 1 => .int
  | _ => .int
theorem nmX0 : ∀ a, a < 3 → ∀ b, b < 3 → a ≠ b → (TX0 a).2.1 ≠ (TX0 b).2.1 := by decide +kernel
theorem tyX0_ok : ∀ k, k < 3 → parseFieldDescriptor (TX0 k).2.2.1 = some (tyX0 k) := by decide +kernel
abbrev cX0_init : ByteArray := prog_2_method_1_code
def yX0_init : MethodName := ⟨RX0, "<init>", "()V"⟩
abbrev cX0_forget : ByteArray := prog_2_method_2_code
def yX0_forget : MethodName := ⟨RX0, "forget", "()V"⟩
abbrev cX0_keep : ByteArray := prog_2_method_3_code
def yX0_keep : MethodName := ⟨RX0, "keep", "(LTugLines$Estuary;)V"⟩
abbrev cX0_takeBack : ByteArray := prog_2_method_4_code
def yX0_takeBack : MethodName := ⟨RX0, "takeBack", "(LTugLines$Estuary;)I"⟩
def RX1 : String := "TugLines$Asker"
def TX1 : u_T := fun k => match k with
  | 0 => ("TugLines$Asker", "bodies", "[I", true)
  | _ => ("TugLines$Asker", "length", "I", false)
def tyX1 : Nat → FieldType := fun k => match k with
  | 0 => .array .int
  | _ => .int
theorem nmX1 : ∀ a, a < 2 → ∀ b, b < 2 → a ≠ b → (TX1 a).2.1 ≠ (TX1 b).2.1 := by decide +kernel
theorem tyX1_ok : ∀ k, k < 2 → parseFieldDescriptor (TX1 k).2.2.1 = some (tyX1 k) := by decide +kernel
abbrev cX1_init : ByteArray := prog_3_method_1_code
def yX1_init : MethodName := ⟨RX1, "<init>", "()V"⟩
abbrev cX1_answer : ByteArray := prog_3_method_2_code
def yX1_answer : MethodName := ⟨RX1, "answer", "(LTugLines$Estuary;II)I"⟩
abbrev cX1_begin : ByteArray := prog_3_method_3_code
def yX1_begin : MethodName := ⟨RX1, "begin", "(ILTugLines$Estuary;II)I"⟩
abbrev cX1_body : ByteArray := prog_3_method_4_code
def yX1_body : MethodName := ⟨RX1, "body", "(ILTugLines$Estuary;II)I"⟩
abbrev cX1_leave : ByteArray := prog_3_method_5_code
def yX1_leave : MethodName := ⟨RX1, "leave", "(I)V"⟩
def RX2 : String := "TugLines$Estuary"
def TX2 : u_T := fun k => match k with
  | 0 => ("TugLines$Estuary", "tugs", "I", false)
  | 1 => ("TugLines$Estuary", "piers", "I", false)
  | 2 => ("TugLines$Estuary", "mass", "I", false)
  | 3 => ("TugLines$Estuary", "out", "I", false)
  | 4 => ("TugLines$Estuary", "hour", "I", false)
  | 5 => ("TugLines$Estuary", "held", "I", false)
  | 6 => ("TugLines$Estuary", "kinds", "[I", true)
  | 7 => ("TugLines$Estuary", "pulls", "[I", true)
  | 8 => ("TugLines$Estuary", "ropes", "[I", true)
  | 9 => ("TugLines$Estuary", "frayed", "[I", true)
  | 10 => ("TugLines$Estuary", "places", "[I", true)
  | _ => ("TugLines$Estuary", "stands", "[I", true)
def tyX2 : Nat → FieldType := fun k => match k with
  | 0 => .int
  | 1 => .int
  | 2 => .int
  | 3 => .int
  | 4 => .int
  | 5 => .int
  | 6 => .array .int
  | 7 => .array .int
  | 8 => .array .int
  | 9 => .array .int
  | 10 => .array .int
  | _ => .array .int
theorem nmX2 : ∀ a, a < 12 → ∀ b, b < 12 → a ≠ b → (TX2 a).2.1 ≠ (TX2 b).2.1 := by decide +kernel
theorem tyX2_ok : ∀ k, k < 12 → parseFieldDescriptor (TX2 k).2.2.1 = some (tyX2 k) := by decide +kernel
abbrev cX2_init : ByteArray := prog_4_method_1_code
def yX2_init : MethodName := ⟨RX2, "<init>", "()V"⟩
abbrev cX2_empty : ByteArray := prog_4_method_2_code
def yX2_empty : MethodName := ⟨RX2, "empty", "()V"⟩
abbrev cX2_take : ByteArray := prog_4_method_3_code
def yX2_take : MethodName := ⟨RX2, "take", "(LTugLines$Estuary;)V"⟩
abbrev cX2_holds : ByteArray := prog_4_method_4_code
def yX2_holds : MethodName := ⟨RX2, "holds", "(I)Z"⟩
abbrev cX2_letGo : ByteArray := prog_4_method_5_code
def yX2_letGo : MethodName := ⟨RX2, "letGo", "(I)V"⟩
abbrev cX2_mendRope : ByteArray := prog_4_method_6_code
def yX2_mendRope : MethodName := ⟨RX2, "mendRope", "(I)V"⟩
abbrev cX2_suppose : ByteArray := prog_4_method_7_code
def yX2_suppose : MethodName := ⟨RX2, "suppose", "(III)V"⟩
abbrev cX2_standing : ByteArray := prog_4_method_8_code
def yX2_standing : MethodName := ⟨RX2, "standing", "()I"⟩
abbrev cX2_pullOfHolders : ByteArray := prog_4_method_9_code
def yX2_pullOfHolders : MethodName := ⟨RX2, "pullOfHolders", "()I"⟩
abbrev cX2_drawOf : ByteArray := prog_4_method_10_code
def yX2_drawOf : MethodName := ⟨RX2, "drawOf", "(I)I"⟩
abbrev cX2_force : ByteArray := prog_4_method_11_code
def yX2_force : MethodName := ⟨RX2, "force", "()I"⟩
abbrev cX2_speedBy : ByteArray := prog_4_method_12_code
def yX2_speedBy : MethodName := ⟨RX2, "speedBy", "(I)I"⟩
abbrev cX2_passHour : ByteArray := prog_4_method_13_code
def yX2_passHour : MethodName := ⟨RX2, "passHour", "(Z)V"⟩
abbrev cX2_ropeIsThrough : ByteArray := prog_4_method_14_code
def yX2_ropeIsThrough : MethodName := ⟨RX2, "ropeIsThrough", "(I)Z"⟩
abbrev cX2_partBoys : ByteArray := prog_4_method_15_code
def yX2_partBoys : MethodName := ⟨RX2, "partBoys", "()V"⟩
abbrev cX2_comeNearer : ByteArray := prog_4_method_16_code
def yX2_comeNearer : MethodName := ⟨RX2, "comeNearer", "(I)V"⟩
abbrev cX2_pierOnTheWay : ByteArray := prog_4_method_17_code
def yX2_pierOnTheWay : MethodName := ⟨RX2, "pierOnTheWay", "(I)I"⟩
abbrev cX2_befall : ByteArray := prog_4_method_18_code
def yX2_befall : MethodName := ⟨RX2, "befall", "(J)V"⟩
def RX3 : String := "TugLines$Row"
def TX3 : u_T := fun k => match k with
  | 0 => ("TugLines$Row", "items", "[I", true)
  | 1 => ("TugLines$Row", "lane", "I", false)
  | _ => ("TugLines$Row", "size", "I", false)
def tyX3 : Nat → FieldType := fun k => match k with
  | 0 => .array .int
  | 1 => .int
  | _ => .int
theorem nmX3 : ∀ a, a < 3 → ∀ b, b < 3 → a ≠ b → (TX3 a).2.1 ≠ (TX3 b).2.1 := by decide +kernel
theorem tyX3_ok : ∀ k, k < 3 → parseFieldDescriptor (TX3 k).2.2.1 = some (tyX3 k) := by decide +kernel
abbrev cX3_init : ByteArray := prog_5_method_1_code
def yX3_init : MethodName := ⟨RX3, "<init>", "()V"⟩
abbrev cX3_missing : ByteArray := prog_5_method_2_code
def yX3_missing : MethodName := ⟨RX3, "missing", "()Z"⟩
abbrev cX3_begin : ByteArray := prog_5_method_3_code
def yX3_begin : MethodName := ⟨RX3, "begin", "(II)V"⟩
abbrev cX3_end : ByteArray := prog_5_method_4_code
def yX3_end : MethodName := ⟨RX3, "end", "()I"⟩
abbrev cX3_hasRun : ByteArray := prog_5_method_5_code
def yX3_hasRun : MethodName := ⟨RX3, "hasRun", "(II)Z"⟩
abbrev cX3_narrowed : ByteArray := prog_5_method_6_code
def yX3_narrowed : MethodName := ⟨RX3, "narrowed", "(I)I"⟩
def RX4 : String := "TugLines$Tape"
def TX4 : u_T := fun k => match k with
  | 0 => ("TugLines$Tape", "bytes", "[I", true)
  | 1 => ("TugLines$Tape", "length", "I", false)
  | 2 => ("TugLines$Tape", "at", "I", false)
  | 3 => ("TugLines$Tape", "faultNumber", "I", false)
  | _ => ("TugLines$Tape", "number", "I", false)
def tyX4 : Nat → FieldType := fun k => match k with
  | 0 => .array .int
  | 1 => .int
  | 2 => .int
  | 3 => .int
  | _ => .int
theorem nmX4 : ∀ a, a < 5 → ∀ b, b < 5 → a ≠ b → (TX4 a).2.1 ≠ (TX4 b).2.1 := by decide +kernel
theorem tyX4_ok : ∀ k, k < 5 → parseFieldDescriptor (TX4 k).2.2.1 = some (tyX4 k) := by decide +kernel
abbrev cX4_init : ByteArray := prog_6_method_1_code
def yX4_init : MethodName := ⟨RX4, "<init>", "()V"⟩
abbrev cX4_append : ByteArray := prog_6_method_2_code
def yX4_append : MethodName := ⟨RX4, "append", "(I)I"⟩
abbrev cX4_readInto : ByteArray := prog_6_method_3_code
def yX4_readInto : MethodName := ⟨RX4, "readInto", "(LTugLines$Estuary;)Z"⟩
abbrev cX4_readLaw : ByteArray := prog_6_method_4_code
def yX4_readLaw : MethodName := ⟨RX4, "readLaw", "(LTugLines$Estuary;)Z"⟩
abbrev cX4_readTugs : ByteArray := prog_6_method_5_code
def yX4_readTugs : MethodName := ⟨RX4, "readTugs", "(LTugLines$Estuary;)Z"⟩
abbrev cX4_readTug : ByteArray := prog_6_method_6_code
def yX4_readTug : MethodName := ⟨RX4, "readTug", "(LTugLines$Estuary;I)Z"⟩
abbrev cX4_readPiers : ByteArray := prog_6_method_7_code
def yX4_readPiers : MethodName := ⟨RX4, "readPiers", "(LTugLines$Estuary;)Z"⟩
abbrev cX4_readPier : ByteArray := prog_6_method_8_code
def yX4_readPier : MethodName := ⟨RX4, "readPier", "(LTugLines$Estuary;I)Z"⟩
abbrev cX4_readEnd : ByteArray := prog_6_method_9_code
def yX4_readEnd : MethodName := ⟨RX4, "readEnd", "()Z"⟩
abbrev cX4_readSign : ByteArray := prog_6_method_10_code
def yX4_readSign : MethodName := ⟨RX4, "readSign", "(I)Z"⟩
abbrev cX4_readNumber : ByteArray := prog_6_method_11_code
def yX4_readNumber : MethodName := ⟨RX4, "readNumber", "(II)Z"⟩
abbrev cX4_isFigure : ByteArray := prog_6_method_12_code
def yX4_isFigure : MethodName := ⟨RX4, "isFigure", "(I)Z"⟩
abbrev cX4_sortHere : ByteArray := prog_6_method_13_code
def yX4_sortHere : MethodName := ⟨RX4, "sortHere", "()I"⟩
abbrev cX4_here : ByteArray := prog_6_method_14_code
def yX4_here : MethodName := ⟨RX4, "here", "()I"⟩
abbrev cX4_byteAt : ByteArray := prog_6_method_15_code
def yX4_byteAt : MethodName := ⟨RX4, "byteAt", "(I)I"⟩
abbrev cX4_faulty : ByteArray := prog_6_method_16_code
def yX4_faulty : MethodName := ⟨RX4, "faulty", "(I)Z"⟩
def RX5 : String := "TugLines"
def TX5 : u_T := fun k => match k with
  | 0 => ("TugLines", "rows", "[LTugLines$Row;", true)
  | 1 => ("TugLines", "tape", "LTugLines$Tape;", true)
  | 2 => ("TugLines", "now", "LTugLines$Estuary;", true)
  | 3 => ("TugLines", "acts", "LTugLines$Acts;", true)
  | 4 => ("TugLines", "images", "[LTugLines$Estuary;", true)
  | 5 => ("TugLines", "ahead", "[LTugLines$Estuary;", true)
  | 6 => ("TugLines", "asker", "LTugLines$Asker;", true)
  | _ => ("TugLines", "finding", "I", false)
def tyX5 : Nat → FieldType := fun k => match k with
  | 0 => .array (.object "TugLines$Row")
  | 1 => .object "TugLines$Tape"
  | 2 => .object "TugLines$Estuary"
  | 3 => .object "TugLines$Acts"
  | 4 => .array (.object "TugLines$Estuary")
  | 5 => .array (.object "TugLines$Estuary")
  | 6 => .object "TugLines$Asker"
  | _ => .int
theorem nmX5 : ∀ a, a < 8 → ∀ b, b < 8 → a ≠ b → (TX5 a).2.1 ≠ (TX5 b).2.1 := by decide +kernel
theorem tyX5_ok : ∀ k, k < 8 → parseFieldDescriptor (TX5 k).2.2.1 = some (tyX5 k) := by decide +kernel
abbrev cX5_init : ByteArray := prog_1_method_1_code
def yX5_init : MethodName := ⟨RX5, "<init>", "()V"⟩
abbrev cX5_row : ByteArray := prog_1_method_2_code
def yX5_row : MethodName := ⟨RX5, "row", "(III)I"⟩
abbrev cX5_set : ByteArray := prog_1_method_3_code
def yX5_set : MethodName := ⟨RX5, "set", "(III)I"⟩
abbrev cX5_copy : ByteArray := prog_1_method_4_code
def yX5_copy : MethodName := ⟨RX5, "copy", "(IIIII)I"⟩
abbrev cX5_drop : ByteArray := prog_1_method_5_code
def yX5_drop : MethodName := ⟨RX5, "drop", "(I)I"⟩
abbrev cX5_feed : ByteArray := prog_1_method_6_code
def yX5_feed : MethodName := ⟨RX5, "feed", "(I)I"⟩
abbrev cX5_estuary : ByteArray := prog_1_method_7_code
def yX5_estuary : MethodName := ⟨RX5, "estuary", "()I"⟩
abbrev cX5_fault : ByteArray := prog_1_method_8_code
def yX5_fault : MethodName := ⟨RX5, "fault", "()I"⟩
abbrev cX5_hours : ByteArray := prog_1_method_9_code
def yX5_hours : MethodName := ⟨RX5, "hours", "(I)I"⟩
abbrev cX5_mend : ByteArray := prog_1_method_10_code
def yX5_mend : MethodName := ⟨RX5, "mend", "(I)I"⟩
abbrev cX5_loose : ByteArray := prog_1_method_11_code
def yX5_loose : MethodName := ⟨RX5, "loose", "(I)I"⟩
abbrev cX5_pull : ByteArray := prog_1_method_12_code
def yX5_pull : MethodName := ⟨RX5, "pull", "(II)I"⟩
abbrev cX5_clear : ByteArray := prog_1_method_13_code
def yX5_clear : MethodName := ⟨RX5, "clear", "(I)I"⟩
abbrev cX5_undo : ByteArray := prog_1_method_14_code
def yX5_undo : MethodName := ⟨RX5, "undo", "()I"⟩
abbrev cX5_tug : ByteArray := prog_1_method_15_code
def yX5_tug : MethodName := ⟨RX5, "tug", "(II)I"⟩
abbrev cX5_pier : ByteArray := prog_1_method_16_code
def yX5_pier : MethodName := ⟨RX5, "pier", "(II)I"⟩
abbrev cX5_later : ByteArray := prog_1_method_17_code
def yX5_later : MethodName := ⟨RX5, "later", "(II)I"⟩
abbrev cX5_arrives : ByteArray := prog_1_method_18_code
def yX5_arrives : MethodName := ⟨RX5, "arrives", "()I"⟩
abbrev cX5_parts : ByteArray := prog_1_method_19_code
def yX5_parts : MethodName := ⟨RX5, "parts", "(I)I"⟩
abbrev cX5_crew : ByteArray := prog_1_method_20_code
def yX5_crew : MethodName := ⟨RX5, "crew", "(II)I"⟩
abbrev cX5_cleared : ByteArray := prog_1_method_21_code
def yX5_cleared : MethodName := ⟨RX5, "cleared", "(II)I"⟩
abbrev cX5_least : ByteArray := prog_1_method_22_code
def yX5_least : MethodName := ⟨RX5, "least", "(II)I"⟩
abbrev cX5_share : ByteArray := prog_1_method_23_code
def yX5_share : MethodName := ⟨RX5, "share", "(II)I"⟩
abbrev cX5_fits : ByteArray := prog_1_method_24_code
def yX5_fits : MethodName := ⟨RX5, "fits", "(IIIII)I"⟩
abbrev cX5_chance : ByteArray := prog_1_method_25_code
def yX5_chance : MethodName := ⟨RX5, "chance", "(III)I"⟩
abbrev cX5_drawn : ByteArray := prog_1_method_26_code
def yX5_drawn : MethodName := ⟨RX5, "drawn", "(III)I"⟩
abbrev cX5_image : ByteArray := prog_1_method_27_code
def yX5_image : MethodName := ⟨RX5, "image", "(I)I"⟩
abbrev cX5_restore : ByteArray := prog_1_method_28_code
def yX5_restore : MethodName := ⟨RX5, "restore", "(I)I"⟩
abbrev cX5_kind : ByteArray := prog_1_method_29_code
def yX5_kind : MethodName := ⟨RX5, "kind", "(I)I"⟩
abbrev cX5_as : ByteArray := prog_1_method_30_code
def yX5_as : MethodName := ⟨RX5, "as", "(II)I"⟩
abbrev cX5_ask : ByteArray := prog_1_method_31_code
def yX5_ask : MethodName := ⟨RX5, "ask", "(II)I"⟩
abbrev cX5_trace : ByteArray := prog_1_method_32_code
def yX5_trace : MethodName := ⟨RX5, "trace", "(I)I"⟩
abbrev cX5_count : ByteArray := prog_1_method_33_code
def yX5_count : MethodName := ⟨RX5, "count", "(I)I"⟩
abbrev cX5_status : ByteArray := prog_1_method_34_code
def yX5_status : MethodName := ⟨RX5, "status", "()I"⟩
abbrev cX5_found : ByteArray := prog_1_method_35_code
def yX5_found : MethodName := ⟨RX5, "found", "(I)I"⟩
abbrev cX5_well : ByteArray := prog_1_method_36_code
def yX5_well : MethodName := ⟨RX5, "well", "(I)I"⟩
abbrev cX5_noRow : ByteArray := prog_1_method_37_code
def yX5_noRow : MethodName := ⟨RX5, "noRow", "(I)Z"⟩
abbrev cX5_noImage : ByteArray := prog_1_method_38_code
def yX5_noImage : MethodName := ⟨RX5, "noImage", "(I)Z"⟩
abbrev cX5_noHalf : ByteArray := prog_1_method_39_code
def yX5_noHalf : MethodName := ⟨RX5, "noHalf", "(I)Z"⟩
abbrev cX5_noEstuary : ByteArray := prog_1_method_40_code
def yX5_noEstuary : MethodName := ⟨RX5, "noEstuary", "()Z"⟩
abbrev cX5_noTug : ByteArray := prog_1_method_41_code
def yX5_noTug : MethodName := ⟨RX5, "noTug", "(I)Z"⟩
abbrev cX5_noPier : ByteArray := prog_1_method_42_code
def yX5_noPier : MethodName := ⟨RX5, "noPier", "(I)Z"⟩
abbrev cX5_rowsThere : ByteArray := prog_1_method_43_code
def yX5_rowsThere : MethodName := ⟨RX5, "rowsThere", "()I"⟩
abbrev cX5_fromNow : ByteArray := prog_1_method_44_code
def yX5_fromNow : MethodName := ⟨RX5, "fromNow", "()LTugLines$Estuary;"⟩
abbrev cX5_hoursUntilIn : ByteArray := prog_1_method_45_code
def yX5_hoursUntilIn : MethodName := ⟨RX5, "hoursUntilIn", "(LTugLines$Estuary;I)I"⟩
abbrev cX5_inByCrew : ByteArray := prog_1_method_46_code
def yX5_inByCrew : MethodName := ⟨RX5, "inByCrew", "(II)Z"⟩
abbrev cX5_inByCleared : ByteArray := prog_1_method_47_code
def yX5_inByCleared : MethodName := ⟨RX5, "inByCleared", "(II)Z"⟩
abbrev cX5_fewer : ByteArray := prog_1_method_48_code
def yX5_fewer : MethodName := ⟨RX5, "fewer", "(II)Z"⟩
abbrev cX5_sizeOrSet : ByteArray := prog_1_method_49_code
def yX5_sizeOrSet : MethodName := ⟨RX5, "sizeOrSet", "(II)I"⟩
abbrev cX5_isSoWith : ByteArray := prog_1_method_50_code
def yX5_isSoWith : MethodName := ⟨RX5, "isSoWith", "(IIILTugLines$Row;II)Z"⟩
abbrev cX5_waysIn : ByteArray := prog_1_method_51_code
def yX5_waysIn : MethodName := ⟨RX5, "waysIn", "(III)I"⟩
abbrev cX5_waysInBehind : ByteArray := prog_1_method_52_code
def yX5_waysInBehind : MethodName := ⟨RX5, "waysInBehind", "(IIIZ)I"⟩
abbrev cX5_tenToThe : ByteArray := prog_1_method_53_code
def yX5_tenToThe : MethodName := ⟨RX5, "tenToThe", "(I)I"⟩
abbrev cX5_commonDivisor : ByteArray := prog_1_method_54_code
def yX5_commonDivisor : MethodName := ⟨RX5, "commonDivisor", "(II)I"⟩
abbrev cX5_isA : ByteArray := prog_1_method_55_code
def yX5_isA : MethodName := ⟨RX5, "isA", "(II)Z"⟩
def RX6 : String := "TugLinesModel"
def TX6 : u_T := fun k => match k with
  | 0 => ("TugLinesModel", "lane", "[I", true)
  | 1 => ("TugLinesModel", "many", "[I", true)
  | 2 => ("TugLinesModel", "items", "[I", true)
  | 3 => ("TugLinesModel", "spare", "[I", true)
  | 4 => ("TugLinesModel", "status", "I", false)
  | 5 => ("TugLinesModel", "tape", "[I", true)
  | 6 => ("TugLinesModel", "taped", "I", false)
  | 7 => ("TugLinesModel", "faultKind", "I", false)
  | 8 => ("TugLinesModel", "faultPlace", "I", false)
  | 9 => ("TugLinesModel", "at", "I", false)
  | 10 => ("TugLinesModel", "start", "I", false)
  | 11 => ("TugLinesModel", "token", "I", false)
  | 12 => ("TugLinesModel", "value", "I", false)
  | 13 => ("TugLinesModel", "now", "[I", true)
  | 14 => ("TugLinesModel", "draft", "[I", true)
  | 15 => ("TugLinesModel", "tried", "[I", true)
  | 16 => ("TugLinesModel", "past", "[I", true)
  | 17 => ("TugLinesModel", "acts", "I", false)
  | 18 => ("TugLinesModel", "images", "[I", true)
  | 19 => ("TugLinesModel", "kept", "[Z", true)
  | 20 => ("TugLinesModel", "trace", "[I", true)
  | _ => ("TugLinesModel", "traced", "I", false)
def tyX6 : Nat → FieldType := fun k => match k with
  | 0 => .array .int
  | 1 => .array .int
  | 2 => .array .int
  | 3 => .array .int
  | 4 => .int
  | 5 => .array .int
  | 6 => .int
  | 7 => .int
  | 8 => .int
  | 9 => .int
  | 10 => .int
  | 11 => .int
  | 12 => .int
  | 13 => .array .int
  | 14 => .array .int
  | 15 => .array .int
  | 16 => .array .int
  | 17 => .int
  | 18 => .array .int
  | 19 => .array .boolean
  | 20 => .array .int
  | _ => .int
theorem nmX6 : ∀ a, a < 22 → ∀ b, b < 22 → a ≠ b → (TX6 a).2.1 ≠ (TX6 b).2.1 := by decide +kernel
theorem tyX6_ok : ∀ k, k < 22 → parseFieldDescriptor (TX6 k).2.2.1 = some (tyX6 k) := by decide +kernel
abbrev cX6_init : ByteArray := prog_8_method_1_code
def yX6_init : MethodName := ⟨RX6, "<init>", "()V"⟩
abbrev cX6_in : ByteArray := prog_8_method_3_code
def yX6_in : MethodName := ⟨RX6, "in", "(III)Z"⟩
abbrev cX6_has : ByteArray := prog_8_method_4_code
def yX6_has : MethodName := ⟨RX6, "has", "(II)Z"⟩
abbrev cX6_ones : ByteArray := prog_8_method_5_code
def yX6_ones : MethodName := ⟨RX6, "ones", "(I)I"⟩
abbrev cX6_found : ByteArray := prog_8_method_6_code
def yX6_found : MethodName := ⟨RX6, "found", "(I)I"⟩
abbrev cX6_well : ByteArray := prog_8_method_7_code
def yX6_well : MethodName := ⟨RX6, "well", "(I)I"⟩
abbrev cX6_copies : ByteArray := prog_8_method_8_code
def yX6_copies : MethodName := ⟨RX6, "copies", "([II[II)V"⟩
abbrev cX6_isRow : ByteArray := prog_8_method_9_code
def yX6_isRow : MethodName := ⟨RX6, "isRow", "(I)Z"⟩
abbrev cX6_isMissing : ByteArray := prog_8_method_10_code
def yX6_isMissing : MethodName := ⟨RX6, "isMissing", "(I)Z"⟩
abbrev cX6_cut : ByteArray := prog_8_method_11_code
def yX6_cut : MethodName := ⟨RX6, "cut", "(II)I"⟩
abbrev cX6_row : ByteArray := prog_8_method_12_code
def yX6_row : MethodName := ⟨RX6, "row", "(III)I"⟩
abbrev cX6_set : ByteArray := prog_8_method_13_code
def yX6_set : MethodName := ⟨RX6, "set", "(III)I"⟩
abbrev cX6_isPart : ByteArray := prog_8_method_14_code
def yX6_isPart : MethodName := ⟨RX6, "isPart", "(III)Z"⟩
abbrev cX6_copy : ByteArray := prog_8_method_15_code
def yX6_copy : MethodName := ⟨RX6, "copy", "(IIIII)I"⟩
abbrev cX6_drop : ByteArray := prog_8_method_16_code
def yX6_drop : MethodName := ⟨RX6, "drop", "(I)I"⟩
abbrev cX6_feed : ByteArray := prog_8_method_17_code
def yX6_feed : MethodName := ⟨RX6, "feed", "(I)I"⟩
abbrev cX6_byteAt : ByteArray := prog_8_method_18_code
def yX6_byteAt : MethodName := ⟨RX6, "byteAt", "(I)I"⟩
abbrev cX6_advances : ByteArray := prog_8_method_19_code
def yX6_advances : MethodName := ⟨RX6, "advances", "()V"⟩
abbrev cX6_isWell : ByteArray := prog_8_method_20_code
def yX6_isWell : MethodName := ⟨RX6, "isWell", "()Z"⟩
abbrev cX6_takes : ByteArray := prog_8_method_21_code
def yX6_takes : MethodName := ⟨RX6, "takes", "(ZI)I"⟩
abbrev cX6_figure : ByteArray := prog_8_method_22_code
def yX6_figure : MethodName := ⟨RX6, "figure", "(II)I"⟩
abbrev cX6_kindOf : ByteArray := prog_8_method_23_code
def yX6_kindOf : MethodName := ⟨RX6, "kindOf", "(I)I"⟩
abbrev cX6_follows : ByteArray := prog_8_method_24_code
def yX6_follows : MethodName := ⟨RX6, "follows", "(II)I"⟩
abbrev cX6_readsTug : ByteArray := prog_8_method_25_code
def yX6_readsTug : MethodName := ⟨RX6, "readsTug", "()V"⟩
abbrev cX6_readsPier : ByteArray := prog_8_method_26_code
def yX6_readsPier : MethodName := ⟨RX6, "readsPier", "()V"⟩
abbrev cX6_must : ByteArray := prog_8_method_27_code
def yX6_must : MethodName := ⟨RX6, "must", "(Z)V"⟩
abbrev cX6_estuary : ByteArray := prog_8_method_28_code
def yX6_estuary : MethodName := ⟨RX6, "estuary", "()I"⟩
abbrev cX6_fault : ByteArray := prog_8_method_29_code
def yX6_fault : MethodName := ⟨RX6, "fault", "()I"⟩
abbrev cX6_isEstuary : ByteArray := prog_8_method_30_code
def yX6_isEstuary : MethodName := ⟨RX6, "isEstuary", "()Z"⟩
abbrev cX6_isTug : ByteArray := prog_8_method_31_code
def yX6_isTug : MethodName := ⟨RX6, "isTug", "(I)Z"⟩
abbrev cX6_isPier : ByteArray := prog_8_method_32_code
def yX6_isPier : MethodName := ⟨RX6, "isPier", "(I)Z"⟩
abbrev cX6_draws : ByteArray := prog_8_method_33_code
def yX6_draws : MethodName := ⟨RX6, "draws", "([II)I"⟩
abbrev cX6_force : ByteArray := prog_8_method_34_code
def yX6_force : MethodName := ⟨RX6, "force", "([I)I"⟩
abbrev cX6_speed : ByteArray := prog_8_method_35_code
def yX6_speed : MethodName := ⟨RX6, "speed", "([II)I"⟩
abbrev cX6_met : ByteArray := prog_8_method_36_code
def yX6_met : MethodName := ⟨RX6, "met", "([II)I"⟩
abbrev cX6_comes : ByteArray := prog_8_method_37_code
def yX6_comes : MethodName := ⟨RX6, "comes", "([II)V"⟩
abbrev cX6_drops : ByteArray := prog_8_method_38_code
def yX6_drops : MethodName := ⟨RX6, "drops", "([II)V"⟩
abbrev cX6_frays : ByteArray := prog_8_method_39_code
def yX6_frays : MethodName := ⟨RX6, "frays", "([III)V"⟩
abbrev cX6_passes : ByteArray := prog_8_method_40_code
def yX6_passes : MethodName := ⟨RX6, "passes", "([IZ)V"⟩
abbrev cX6_holding : ByteArray := prog_8_method_41_code
def yX6_holding : MethodName := ⟨RX6, "holding", "([I)I"⟩
abbrev cX6_standing : ByteArray := prog_8_method_42_code
def yX6_standing : MethodName := ⟨RX6, "standing", "([I)I"⟩
abbrev cX6_notes : ByteArray := prog_8_method_43_code
def yX6_notes : MethodName := ⟨RX6, "notes", "()V"⟩
abbrev cX6_hours : ByteArray := prog_8_method_44_code
def yX6_hours : MethodName := ⟨RX6, "hours", "(I)I"⟩
abbrev cX6_mend : ByteArray := prog_8_method_45_code
def yX6_mend : MethodName := ⟨RX6, "mend", "(I)I"⟩
abbrev cX6_loose : ByteArray := prog_8_method_46_code
def yX6_loose : MethodName := ⟨RX6, "loose", "(I)I"⟩
abbrev cX6_pull : ByteArray := prog_8_method_47_code
def yX6_pull : MethodName := ⟨RX6, "pull", "(II)I"⟩
abbrev cX6_clear : ByteArray := prog_8_method_48_code
def yX6_clear : MethodName := ⟨RX6, "clear", "(I)I"⟩
abbrev cX6_undo : ByteArray := prog_8_method_49_code
def yX6_undo : MethodName := ⟨RX6, "undo", "()I"⟩
abbrev cX6_tug : ByteArray := prog_8_method_50_code
def yX6_tug : MethodName := ⟨RX6, "tug", "(II)I"⟩
abbrev cX6_pier : ByteArray := prog_8_method_51_code
def yX6_pier : MethodName := ⟨RX6, "pier", "(II)I"⟩
abbrev cX6_goesOn : ByteArray := prog_8_method_52_code
def yX6_goesOn : MethodName := ⟨RX6, "goesOn", "(I)V"⟩
abbrev cX6_later : ByteArray := prog_8_method_53_code
def yX6_later : MethodName := ⟨RX6, "later", "(II)I"⟩
abbrev cX6_arrives : ByteArray := prog_8_method_54_code
def yX6_arrives : MethodName := ⟨RX6, "arrives", "()I"⟩
abbrev cX6_parts : ByteArray := prog_8_method_55_code
def yX6_parts : MethodName := ⟨RX6, "parts", "(I)I"⟩
abbrev cX6_isNear : ByteArray := prog_8_method_56_code
def yX6_isNear : MethodName := ⟨RX6, "isNear", "(I)Z"⟩
abbrev cX6_crew : ByteArray := prog_8_method_57_code
def yX6_crew : MethodName := ⟨RX6, "crew", "(II)I"⟩
abbrev cX6_cleared : ByteArray := prog_8_method_58_code
def yX6_cleared : MethodName := ⟨RX6, "cleared", "(II)I"⟩
abbrev cX6_least : ByteArray := prog_8_method_59_code
def yX6_least : MethodName := ⟨RX6, "least", "(II)I"⟩
abbrev cX6_share : ByteArray := prog_8_method_60_code
def yX6_share : MethodName := ⟨RX6, "share", "(II)I"⟩
abbrev cX6_isSeen : ByteArray := prog_8_method_61_code
def yX6_isSeen : MethodName := ⟨RX6, "isSeen", "(IIII)Z"⟩
abbrev cX6_fits : ByteArray := prog_8_method_62_code
def yX6_fits : MethodName := ⟨RX6, "fits", "(IIIII)I"⟩
abbrev cX6_chance : ByteArray := prog_8_method_63_code
def yX6_chance : MethodName := ⟨RX6, "chance", "(III)I"⟩
abbrev cX6_drawn : ByteArray := prog_8_method_64_code
def yX6_drawn : MethodName := ⟨RX6, "drawn", "(III)I"⟩
abbrev cX6_image : ByteArray := prog_8_method_65_code
def yX6_image : MethodName := ⟨RX6, "image", "(I)I"⟩
abbrev cX6_restore : ByteArray := prog_8_method_66_code
def yX6_restore : MethodName := ⟨RX6, "restore", "(I)I"⟩
abbrev cX6_kindIn : ByteArray := prog_8_method_67_code
def yX6_kindIn : MethodName := ⟨RX6, "kindIn", "(I)I"⟩
abbrev cX6_kind : ByteArray := prog_8_method_68_code
def yX6_kind : MethodName := ⟨RX6, "kind", "(I)I"⟩
abbrev cX6_as : ByteArray := prog_8_method_69_code
def yX6_as : MethodName := ⟨RX6, "as", "(II)I"⟩
abbrev cX6_begins : ByteArray := prog_8_method_70_code
def yX6_begins : MethodName := ⟨RX6, "begins", "(I)V"⟩
abbrev cX6_paddlerMark : ByteArray := prog_8_method_71_code
def yX6_paddlerMark : MethodName := ⟨RX6, "paddlerMark", "(I)I"⟩
abbrev cX6_launchSize : ByteArray := prog_8_method_72_code
def yX6_launchSize : MethodName := ⟨RX6, "launchSize", "(I)I"⟩
abbrev cX6_paddlerSize : ByteArray := prog_8_method_73_code
def yX6_paddlerSize : MethodName := ⟨RX6, "paddlerSize", "(I)I"⟩
abbrev cX6_launchMark : ByteArray := prog_8_method_74_code
def yX6_launchMark : MethodName := ⟨RX6, "launchMark", "(I)I"⟩
abbrev cX6_ask : ByteArray := prog_8_method_75_code
def yX6_ask : MethodName := ⟨RX6, "ask", "(II)I"⟩
abbrev cX6_trace : ByteArray := prog_8_method_76_code
def yX6_trace : MethodName := ⟨RX6, "trace", "(I)I"⟩
abbrev cX6_count : ByteArray := prog_8_method_77_code
def yX6_count : MethodName := ⟨RX6, "count", "(I)I"⟩
abbrev cX6_status : ByteArray := prog_8_method_78_code
def yX6_status : MethodName := ⟨RX6, "status", "()I"⟩
def RJ6 : String := "java/lang/Integer"
abbrev cJ6_bitCount_0f7a4 : ByteArray := prog_9_method_49_code
def yJ6_bitCount_0f7a4 : MethodName := ⟨RJ6, "bitCount", "(I)I"⟩
def RL : String := "TugLinesLaw"
abbrev cL_law : ByteArray := code
def yL_law : MethodName := ⟨RL, "law", "([I)Z"⟩
abbrev vwCl : List vw_C := [(RX0, TX0, 3), (RX1, TX1, 2), (RX2, TX2, 12), (RX3, TX3, 3), (RX4, TX4, 5), (RX5, TX5, 8), (RX6, TX6, 22)]
theorem goodIn_rr {big : List Cond} (ws : List Cond) (ps : List Nat) (hp : ws = ps.filterMap (fun i => big[i]?)) : ∀ w ∈ ws, w ∈ big := by
  intro w hw
  rw [hp] at hw
  obtain ⟨i, -, hi⟩ := List.mem_filterMap.mp hw
  exact List.mem_of_getElem? hi
theorem inX0 : ∀ w ∈ u_ws RX0 TX0 3, w ∈ lw_tbl := goodIn_rr _ [201, 203, 205] (by decide +kernel)
theorem inX1 : ∀ w ∈ u_ws RX1 TX1 2, w ∈ lw_tbl := goodIn_rr _ [218, 220] (by decide +kernel)
theorem inX2 : ∀ w ∈ u_ws RX2 TX2 12, w ∈ lw_tbl := goodIn_rr _ [163, 165, 167, 169, 171, 173, 175, 177, 179, 181, 183, 185] (by decide +kernel)
theorem inX3 : ∀ w ∈ u_ws RX3 TX3 3, w ∈ lw_tbl := goodIn_rr _ [87, 89, 91] (by decide +kernel)
theorem inX4 : ∀ w ∈ u_ws RX4 TX4 5, w ∈ lw_tbl := goodIn_rr _ [109, 111, 113, 115, 117] (by decide +kernel)
theorem inX5 : ∀ w ∈ u_ws RX5 TX5 8, w ∈ lw_tbl := goodIn_rr _ [231, 233, 235, 237, 239, 241, 243, 245] (by decide +kernel)
theorem inX6 : ∀ w ∈ u_ws RX6 TX6 22, w ∈ lw_tbl := goodIn_rr _ [700, 702, 704, 706, 708, 710, 712, 714, 716, 718, 720, 722, 724, 726, 728, 730, 732, 734, 736, 738, 740, 742] (by decide +kernel)
theorem kF_X3_9 : Cond.fieldLink RX3 9 "TugLines$Row" "items" "[I" ∈ lw_tbl := List.mem_of_getElem? (i := 82) (by decide +kernel)
theorem kF_X5_75 : Cond.fieldLink RX5 75 "TugLines$Row" "items" "[I" ∈ lw_tbl := List.mem_of_getElem? (i := 83) (by decide +kernel)
theorem kF_X3_15 : Cond.fieldLink RX3 15 "TugLines$Row" "lane" "I" ∈ lw_tbl := List.mem_of_getElem? (i := 84) (by decide +kernel)
theorem kF_X5_82 : Cond.fieldLink RX5 82 "TugLines$Row" "lane" "I" ∈ lw_tbl := List.mem_of_getElem? (i := 85) (by decide +kernel)
theorem kF_X3_19 : Cond.fieldLink RX3 19 "TugLines$Row" "size" "I" ∈ lw_tbl := List.mem_of_getElem? (i := 86) (by decide +kernel)
theorem kF_X4_9 : Cond.fieldLink RX4 9 "TugLines$Tape" "bytes" "[I" ∈ lw_tbl := List.mem_of_getElem? (i := 101) (by decide +kernel)
theorem kF_X4_15 : Cond.fieldLink RX4 15 "TugLines$Tape" "length" "I" ∈ lw_tbl := List.mem_of_getElem? (i := 102) (by decide +kernel)
theorem kF_X5_96 : Cond.fieldLink RX5 96 "TugLines$Tape" "length" "I" ∈ lw_tbl := List.mem_of_getElem? (i := 103) (by decide +kernel)
theorem kF_X4_19 : Cond.fieldLink RX4 19 "TugLines$Tape" "at" "I" ∈ lw_tbl := List.mem_of_getElem? (i := 104) (by decide +kernel)
theorem kF_X5_108 : Cond.fieldLink RX5 108 "TugLines$Tape" "at" "I" ∈ lw_tbl := List.mem_of_getElem? (i := 105) (by decide +kernel)
theorem kF_X5_121 : Cond.fieldLink RX5 121 "TugLines$Tape" "faultNumber" "I" ∈ lw_tbl := List.mem_of_getElem? (i := 106) (by decide +kernel)
theorem kF_X4_106 : Cond.fieldLink RX4 106 "TugLines$Tape" "faultNumber" "I" ∈ lw_tbl := List.mem_of_getElem? (i := 107) (by decide +kernel)
theorem kF_X4_49 : Cond.fieldLink RX4 49 "TugLines$Tape" "number" "I" ∈ lw_tbl := List.mem_of_getElem? (i := 108) (by decide +kernel)
theorem kF_X2_30 : Cond.fieldLink RX2 30 "TugLines$Estuary" "tugs" "I" ∈ lw_tbl := List.mem_of_getElem? (i := 126) (by decide +kernel)
theorem kF_X4_81 : Cond.fieldLink RX4 81 "TugLines$Estuary" "tugs" "I" ∈ lw_tbl := List.mem_of_getElem? (i := 127) (by decide +kernel)
theorem kF_X5_118 : Cond.fieldLink RX5 118 "TugLines$Estuary" "tugs" "I" ∈ lw_tbl := List.mem_of_getElem? (i := 128) (by decide +kernel)
theorem kF_X2_34 : Cond.fieldLink RX2 34 "TugLines$Estuary" "piers" "I" ∈ lw_tbl := List.mem_of_getElem? (i := 129) (by decide +kernel)
theorem kF_X4_96 : Cond.fieldLink RX4 96 "TugLines$Estuary" "piers" "I" ∈ lw_tbl := List.mem_of_getElem? (i := 130) (by decide +kernel)
theorem kF_X5_273 : Cond.fieldLink RX5 273 "TugLines$Estuary" "piers" "I" ∈ lw_tbl := List.mem_of_getElem? (i := 131) (by decide +kernel)
theorem kF_X2_37 : Cond.fieldLink RX2 37 "TugLines$Estuary" "mass" "I" ∈ lw_tbl := List.mem_of_getElem? (i := 132) (by decide +kernel)
theorem kF_X4_52 : Cond.fieldLink RX4 52 "TugLines$Estuary" "mass" "I" ∈ lw_tbl := List.mem_of_getElem? (i := 133) (by decide +kernel)
theorem kF_X5_276 : Cond.fieldLink RX5 276 "TugLines$Estuary" "mass" "I" ∈ lw_tbl := List.mem_of_getElem? (i := 134) (by decide +kernel)
theorem kF_X2_40 : Cond.fieldLink RX2 40 "TugLines$Estuary" "out" "I" ∈ lw_tbl := List.mem_of_getElem? (i := 135) (by decide +kernel)
theorem kF_X4_55 : Cond.fieldLink RX4 55 "TugLines$Estuary" "out" "I" ∈ lw_tbl := List.mem_of_getElem? (i := 136) (by decide +kernel)
theorem kF_X5_138 : Cond.fieldLink RX5 138 "TugLines$Estuary" "out" "I" ∈ lw_tbl := List.mem_of_getElem? (i := 137) (by decide +kernel)
theorem kF_X2_43 : Cond.fieldLink RX2 43 "TugLines$Estuary" "hour" "I" ∈ lw_tbl := List.mem_of_getElem? (i := 138) (by decide +kernel)
theorem kF_X5_128 : Cond.fieldLink RX5 128 "TugLines$Estuary" "hour" "I" ∈ lw_tbl := List.mem_of_getElem? (i := 139) (by decide +kernel)
theorem kF_X2_46 : Cond.fieldLink RX2 46 "TugLines$Estuary" "held" "I" ∈ lw_tbl := List.mem_of_getElem? (i := 140) (by decide +kernel)
theorem kF_X4_78 : Cond.fieldLink RX4 78 "TugLines$Estuary" "held" "I" ∈ lw_tbl := List.mem_of_getElem? (i := 141) (by decide +kernel)
theorem kF_X5_154 : Cond.fieldLink RX5 154 "TugLines$Estuary" "held" "I" ∈ lw_tbl := List.mem_of_getElem? (i := 142) (by decide +kernel)
theorem kF_X2_9 : Cond.fieldLink RX2 9 "TugLines$Estuary" "kinds" "[I" ∈ lw_tbl := List.mem_of_getElem? (i := 143) (by decide +kernel)
theorem kF_X1_23 : Cond.fieldLink RX1 23 "TugLines$Estuary" "kinds" "[I" ∈ lw_tbl := List.mem_of_getElem? (i := 144) (by decide +kernel)
theorem kF_X4_69 : Cond.fieldLink RX4 69 "TugLines$Estuary" "kinds" "[I" ∈ lw_tbl := List.mem_of_getElem? (i := 145) (by decide +kernel)
theorem kF_X5_256 : Cond.fieldLink RX5 256 "TugLines$Estuary" "kinds" "[I" ∈ lw_tbl := List.mem_of_getElem? (i := 146) (by decide +kernel)
theorem kF_X2_15 : Cond.fieldLink RX2 15 "TugLines$Estuary" "pulls" "[I" ∈ lw_tbl := List.mem_of_getElem? (i := 147) (by decide +kernel)
theorem kF_X1_41 : Cond.fieldLink RX1 41 "TugLines$Estuary" "pulls" "[I" ∈ lw_tbl := List.mem_of_getElem? (i := 148) (by decide +kernel)
theorem kF_X4_72 : Cond.fieldLink RX4 72 "TugLines$Estuary" "pulls" "[I" ∈ lw_tbl := List.mem_of_getElem? (i := 149) (by decide +kernel)
theorem kF_X5_160 : Cond.fieldLink RX5 160 "TugLines$Estuary" "pulls" "[I" ∈ lw_tbl := List.mem_of_getElem? (i := 150) (by decide +kernel)
theorem kF_X2_18 : Cond.fieldLink RX2 18 "TugLines$Estuary" "ropes" "[I" ∈ lw_tbl := List.mem_of_getElem? (i := 151) (by decide +kernel)
theorem kF_X4_75 : Cond.fieldLink RX4 75 "TugLines$Estuary" "ropes" "[I" ∈ lw_tbl := List.mem_of_getElem? (i := 152) (by decide +kernel)
theorem kF_X5_176 : Cond.fieldLink RX5 176 "TugLines$Estuary" "ropes" "[I" ∈ lw_tbl := List.mem_of_getElem? (i := 153) (by decide +kernel)
theorem kF_X2_21 : Cond.fieldLink RX2 21 "TugLines$Estuary" "frayed" "[I" ∈ lw_tbl := List.mem_of_getElem? (i := 154) (by decide +kernel)
theorem kF_X1_44 : Cond.fieldLink RX1 44 "TugLines$Estuary" "frayed" "[I" ∈ lw_tbl := List.mem_of_getElem? (i := 155) (by decide +kernel)
theorem kF_X5_147 : Cond.fieldLink RX5 147 "TugLines$Estuary" "frayed" "[I" ∈ lw_tbl := List.mem_of_getElem? (i := 156) (by decide +kernel)
theorem kF_X2_24 : Cond.fieldLink RX2 24 "TugLines$Estuary" "places" "[I" ∈ lw_tbl := List.mem_of_getElem? (i := 157) (by decide +kernel)
theorem kF_X4_90 : Cond.fieldLink RX4 90 "TugLines$Estuary" "places" "[I" ∈ lw_tbl := List.mem_of_getElem? (i := 158) (by decide +kernel)
theorem kF_X5_182 : Cond.fieldLink RX5 182 "TugLines$Estuary" "places" "[I" ∈ lw_tbl := List.mem_of_getElem? (i := 159) (by decide +kernel)
theorem kF_X2_27 : Cond.fieldLink RX2 27 "TugLines$Estuary" "stands" "[I" ∈ lw_tbl := List.mem_of_getElem? (i := 160) (by decide +kernel)
theorem kF_X4_93 : Cond.fieldLink RX4 93 "TugLines$Estuary" "stands" "[I" ∈ lw_tbl := List.mem_of_getElem? (i := 161) (by decide +kernel)
theorem kF_X5_166 : Cond.fieldLink RX5 166 "TugLines$Estuary" "stands" "[I" ∈ lw_tbl := List.mem_of_getElem? (i := 162) (by decide +kernel)
theorem kF_X0_11 : Cond.fieldLink RX0 11 "TugLines$Acts" "before" "[LTugLines$Estuary;" ∈ lw_tbl := List.mem_of_getElem? (i := 197) (by decide +kernel)
theorem kF_X0_18 : Cond.fieldLink RX0 18 "TugLines$Acts" "oldest" "I" ∈ lw_tbl := List.mem_of_getElem? (i := 198) (by decide +kernel)
theorem kF_X0_22 : Cond.fieldLink RX0 22 "TugLines$Acts" "kept" "I" ∈ lw_tbl := List.mem_of_getElem? (i := 199) (by decide +kernel)
theorem kF_X5_169 : Cond.fieldLink RX5 169 "TugLines$Acts" "kept" "I" ∈ lw_tbl := List.mem_of_getElem? (i := 200) (by decide +kernel)
theorem kF_X1_9 : Cond.fieldLink RX1 9 "TugLines$Asker" "bodies" "[I" ∈ lw_tbl := List.mem_of_getElem? (i := 214) (by decide +kernel)
theorem kF_X5_267 : Cond.fieldLink RX5 267 "TugLines$Asker" "bodies" "[I" ∈ lw_tbl := List.mem_of_getElem? (i := 215) (by decide +kernel)
theorem kF_X1_15 : Cond.fieldLink RX1 15 "TugLines$Asker" "length" "I" ∈ lw_tbl := List.mem_of_getElem? (i := 216) (by decide +kernel)
theorem kF_X5_266 : Cond.fieldLink RX5 266 "TugLines$Asker" "length" "I" ∈ lw_tbl := List.mem_of_getElem? (i := 217) (by decide +kernel)
theorem kF_X5_11 : Cond.fieldLink RX5 11 "TugLines" "rows" "[LTugLines$Row;" ∈ lw_tbl := List.mem_of_getElem? (i := 223) (by decide +kernel)
theorem kF_X5_19 : Cond.fieldLink RX5 19 "TugLines" "tape" "LTugLines$Tape;" ∈ lw_tbl := List.mem_of_getElem? (i := 224) (by decide +kernel)
theorem kF_X5_26 : Cond.fieldLink RX5 26 "TugLines" "now" "LTugLines$Estuary;" ∈ lw_tbl := List.mem_of_getElem? (i := 225) (by decide +kernel)
theorem kF_X5_33 : Cond.fieldLink RX5 33 "TugLines" "acts" "LTugLines$Acts;" ∈ lw_tbl := List.mem_of_getElem? (i := 226) (by decide +kernel)
theorem kF_X5_37 : Cond.fieldLink RX5 37 "TugLines" "images" "[LTugLines$Estuary;" ∈ lw_tbl := List.mem_of_getElem? (i := 227) (by decide +kernel)
theorem kF_X5_41 : Cond.fieldLink RX5 41 "TugLines" "ahead" "[LTugLines$Estuary;" ∈ lw_tbl := List.mem_of_getElem? (i := 228) (by decide +kernel)
theorem kF_X5_47 : Cond.fieldLink RX5 47 "TugLines" "asker" "LTugLines$Asker;" ∈ lw_tbl := List.mem_of_getElem? (i := 229) (by decide +kernel)
theorem kF_X5_279 : Cond.fieldLink RX5 279 "TugLines" "finding" "I" ∈ lw_tbl := List.mem_of_getElem? (i := 230) (by decide +kernel)
theorem kK_X5_55 : Cond.constant RX5 55 (-1000001) ∈ lw_tbl := List.mem_of_getElem? (i := 255) (by decide +kernel)
theorem kK_X5_282 : Cond.constant RX5 282 (-1000010) ∈ lw_tbl := List.mem_of_getElem? (i := 260) (by decide +kernel)
theorem kK_X5_99 : Cond.constant RX5 99 (-1000003) ∈ lw_tbl := List.mem_of_getElem? (i := 304) (by decide +kernel)
theorem kK_X5_107 : Cond.constant RX5 107 (-1000100) ∈ lw_tbl := List.mem_of_getElem? (i := 372) (by decide +kernel)
theorem kK_X5_127 : Cond.constant RX5 127 (-1000002) ∈ lw_tbl := List.mem_of_getElem? (i := 394) (by decide +kernel)
theorem kK_X5_202 : Cond.constant RX5 202 (-1000000) ∈ lw_tbl := List.mem_of_getElem? (i := 513) (by decide +kernel)
theorem kK_J6_265 : Cond.constant RJ6 265 (1431655765) ∈ lw_tbl := List.mem_of_getElem? (i := 531) (by decide +kernel)
theorem kK_J6_266 : Cond.constant RJ6 266 (858993459) ∈ lw_tbl := List.mem_of_getElem? (i := 532) (by decide +kernel)
theorem kK_J6_267 : Cond.constant RJ6 267 (252645135) ∈ lw_tbl := List.mem_of_getElem? (i := 533) (by decide +kernel)
theorem kF_X5_222 : Cond.fieldLink RX5 222 "TugLines" "MOST_SUPPOSED" "[I" ∈ lw_tbl := List.mem_of_getElem? (i := 565) (by decide +kernel)
theorem kK_X5_239 : Cond.constant RX5 239 (999999) ∈ lw_tbl := List.mem_of_getElem? (i := 597) (by decide +kernel)
theorem kK_X5_240 : Cond.constantLong RX5 240 (16807) ∈ lw_tbl := List.mem_of_getElem? (i := 598) (by decide +kernel)
theorem kK_X5_242 : Cond.constantLong RX5 242 (2147483647) ∈ lw_tbl := List.mem_of_getElem? (i := 599) (by decide +kernel)
theorem kK_X2_94 : Cond.constantLong RX2 94 (5) ∈ lw_tbl := List.mem_of_getElem? (i := 605) (by decide +kernel)
theorem kK_X2_96 : Cond.constantLong RX2 96 (99) ∈ lw_tbl := List.mem_of_getElem? (i := 606) (by decide +kernel)
theorem kF_X5_291 : Cond.fieldLink RX5 291 "TugLines" "ALSO" "[I" ∈ lw_tbl := List.mem_of_getElem? (i := 629) (by decide +kernel)
theorem kF_X1_28 : Cond.fieldLink RX1 28 "TugLines$Asker" "SIZE_BODY" "[I" ∈ lw_tbl := List.mem_of_getElem? (i := 643) (by decide +kernel)
theorem kF_X1_31 : Cond.fieldLink RX1 31 "TugLines$Asker" "MARK_BODY" "[I" ∈ lw_tbl := List.mem_of_getElem? (i := 645) (by decide +kernel)
theorem kK_X6_47 : Cond.constant RX6 47 (-1000000) ∈ lw_tbl := List.mem_of_getElem? (i := 677) (by decide +kernel)
theorem kF_X6_7 : Cond.fieldLink RX6 7 "TugLinesModel" "lane" "[I" ∈ lw_tbl := List.mem_of_getElem? (i := 678) (by decide +kernel)
theorem kF_X6_13 : Cond.fieldLink RX6 13 "TugLinesModel" "many" "[I" ∈ lw_tbl := List.mem_of_getElem? (i := 679) (by decide +kernel)
theorem kF_X6_16 : Cond.fieldLink RX6 16 "TugLinesModel" "items" "[I" ∈ lw_tbl := List.mem_of_getElem? (i := 680) (by decide +kernel)
theorem kF_X6_19 : Cond.fieldLink RX6 19 "TugLinesModel" "spare" "[I" ∈ lw_tbl := List.mem_of_getElem? (i := 681) (by decide +kernel)
theorem kF_X6_48 : Cond.fieldLink RX6 48 "TugLinesModel" "status" "I" ∈ lw_tbl := List.mem_of_getElem? (i := 682) (by decide +kernel)
theorem kF_X6_22 : Cond.fieldLink RX6 22 "TugLinesModel" "tape" "[I" ∈ lw_tbl := List.mem_of_getElem? (i := 683) (by decide +kernel)
theorem kF_X6_79 : Cond.fieldLink RX6 79 "TugLinesModel" "taped" "I" ∈ lw_tbl := List.mem_of_getElem? (i := 684) (by decide +kernel)
theorem kF_X6_105 : Cond.fieldLink RX6 105 "TugLinesModel" "faultKind" "I" ∈ lw_tbl := List.mem_of_getElem? (i := 685) (by decide +kernel)
theorem kF_X6_98 : Cond.fieldLink RX6 98 "TugLinesModel" "faultPlace" "I" ∈ lw_tbl := List.mem_of_getElem? (i := 686) (by decide +kernel)
theorem kF_X6_83 : Cond.fieldLink RX6 83 "TugLinesModel" "at" "I" ∈ lw_tbl := List.mem_of_getElem? (i := 687) (by decide +kernel)
theorem kF_X6_86 : Cond.fieldLink RX6 86 "TugLinesModel" "start" "I" ∈ lw_tbl := List.mem_of_getElem? (i := 688) (by decide +kernel)
theorem kF_X6_95 : Cond.fieldLink RX6 95 "TugLinesModel" "token" "I" ∈ lw_tbl := List.mem_of_getElem? (i := 689) (by decide +kernel)
theorem kF_X6_92 : Cond.fieldLink RX6 92 "TugLinesModel" "value" "I" ∈ lw_tbl := List.mem_of_getElem? (i := 690) (by decide +kernel)
theorem kF_X6_25 : Cond.fieldLink RX6 25 "TugLinesModel" "now" "[I" ∈ lw_tbl := List.mem_of_getElem? (i := 691) (by decide +kernel)
theorem kF_X6_28 : Cond.fieldLink RX6 28 "TugLinesModel" "draft" "[I" ∈ lw_tbl := List.mem_of_getElem? (i := 692) (by decide +kernel)
theorem kF_X6_31 : Cond.fieldLink RX6 31 "TugLinesModel" "tried" "[I" ∈ lw_tbl := List.mem_of_getElem? (i := 693) (by decide +kernel)
theorem kF_X6_34 : Cond.fieldLink RX6 34 "TugLinesModel" "past" "[I" ∈ lw_tbl := List.mem_of_getElem? (i := 694) (by decide +kernel)
theorem kF_X6_139 : Cond.fieldLink RX6 139 "TugLinesModel" "acts" "I" ∈ lw_tbl := List.mem_of_getElem? (i := 695) (by decide +kernel)
theorem kF_X6_37 : Cond.fieldLink RX6 37 "TugLinesModel" "images" "[I" ∈ lw_tbl := List.mem_of_getElem? (i := 696) (by decide +kernel)
theorem kF_X6_40 : Cond.fieldLink RX6 40 "TugLinesModel" "kept" "[Z" ∈ lw_tbl := List.mem_of_getElem? (i := 697) (by decide +kernel)
theorem kF_X6_44 : Cond.fieldLink RX6 44 "TugLinesModel" "trace" "[I" ∈ lw_tbl := List.mem_of_getElem? (i := 698) (by decide +kernel)
theorem kF_X6_220 : Cond.fieldLink RX6 220 "TugLinesModel" "traced" "I" ∈ lw_tbl := List.mem_of_getElem? (i := 699) (by decide +kernel)
theorem kK_X6_61 : Cond.constant RX6 61 (-1000001) ∈ lw_tbl := List.mem_of_getElem? (i := 756) (by decide +kernel)
theorem kK_X6_52 : Cond.constant RX6 52 (-1000010) ∈ lw_tbl := List.mem_of_getElem? (i := 761) (by decide +kernel)
theorem kK_X6_82 : Cond.constant RX6 82 (-1000003) ∈ lw_tbl := List.mem_of_getElem? (i := 793) (by decide +kernel)
theorem kK_X6_134 : Cond.constant RX6 134 (-1000100) ∈ lw_tbl := List.mem_of_getElem? (i := 837) (by decide +kernel)
theorem kK_X6_170 : Cond.constant RX6 170 (-1000002) ∈ lw_tbl := List.mem_of_getElem? (i := 853) (by decide +kernel)
theorem kK_X6_208 : Cond.constant RX6 208 (999999) ∈ lw_tbl := List.mem_of_getElem? (i := 981) (by decide +kernel)
theorem kK_X6_209 : Cond.constantLong RX6 209 (16807) ∈ lw_tbl := List.mem_of_getElem? (i := 982) (by decide +kernel)
theorem kK_X6_211 : Cond.constantLong RX6 211 (2147483647) ∈ lw_tbl := List.mem_of_getElem? (i := 983) (by decide +kernel)
theorem kK_X6_213 : Cond.constantLong RX6 213 (5) ∈ lw_tbl := List.mem_of_getElem? (i := 984) (by decide +kernel)
theorem kK_X6_215 : Cond.constantLong RX6 215 (99) ∈ lw_tbl := List.mem_of_getElem? (i := 985) (by decide +kernel)
def CB (own : String) (index : Nat) (y : MethodName) (cc : ByteArray) (nL : Nat) (ret : Option FieldType) (n : Nat) : Prop := Cond.methodLink own index y ∈ lw_tbl ∧ Cond.code y cc nL ret ∈ lw_tbl ∧ Cond.initialized y.cls ∈ lw_tbl ∧ (y.cls ≠ "java/lang/invoke/MethodHandle" ∧ y.cls ≠ "java/lang/invoke/VarHandle" ∧ (parseMethodDescriptor y.desc).map (fun d => d.parameters.length) = some n) ∧ nL ≤ 40
def CV (y : MethodName) : Prop := Cond.instanceMethod y ∈ lw_tbl ∧ Cond.selects y.cls y y ∈ lw_tbl
theorem kC_X0_init : Cond.code yX0_init cX0_init 2 none ∈ lw_tbl := List.mem_of_getElem? (i := 192) (by decide +kernel)
theorem kI_X0_init : Cond.instanceMethod yX0_init ∈ lw_tbl := List.mem_of_getElem? (i := 191) (by decide +kernel)
theorem kC_X0_forget : Cond.code yX0_forget cX0_forget 1 none ∈ lw_tbl := List.mem_of_getElem? (i := 381) (by decide +kernel)
theorem kV_X0_forget : CV yX0_forget := ⟨List.mem_of_getElem? (i := 379) (by decide +kernel), List.mem_of_getElem? (i := 380) (by decide +kernel)⟩
theorem kC_X0_keep : Cond.code yX0_keep cX0_keep 2 none ∈ lw_tbl := List.mem_of_getElem? (i := 398) (by decide +kernel)
theorem kV_X0_keep : CV yX0_keep := ⟨List.mem_of_getElem? (i := 396) (by decide +kernel), List.mem_of_getElem? (i := 397) (by decide +kernel)⟩
theorem kC_X0_takeBack : Cond.code yX0_takeBack cX0_takeBack 2 (some .int) ∈ lw_tbl := List.mem_of_getElem? (i := 479) (by decide +kernel)
theorem kV_X0_takeBack : CV yX0_takeBack := ⟨List.mem_of_getElem? (i := 477) (by decide +kernel), List.mem_of_getElem? (i := 478) (by decide +kernel)⟩
theorem kC_X1_init : Cond.code yX1_init cX1_init 1 none ∈ lw_tbl := List.mem_of_getElem? (i := 212) (by decide +kernel)
theorem kI_X1_init : Cond.instanceMethod yX1_init ∈ lw_tbl := List.mem_of_getElem? (i := 211) (by decide +kernel)
theorem kC_X1_answer : Cond.code yX1_answer cX1_answer 4 (some .int) ∈ lw_tbl := List.mem_of_getElem? (i := 638) (by decide +kernel)
theorem kV_X1_answer : CV yX1_answer := ⟨List.mem_of_getElem? (i := 636) (by decide +kernel), List.mem_of_getElem? (i := 637) (by decide +kernel)⟩
theorem kC_X1_begin : Cond.code yX1_begin cX1_begin 6 (some .int) ∈ lw_tbl := List.mem_of_getElem? (i := 642) (by decide +kernel)
theorem kV_X1_begin : CV yX1_begin := ⟨List.mem_of_getElem? (i := 641) (by decide +kernel), List.mem_of_getElem? (i := 27) (by decide +kernel)⟩
theorem kC_X1_body : Cond.code yX1_body cX1_body 6 (some .int) ∈ lw_tbl := List.mem_of_getElem? (i := 650) (by decide +kernel)
theorem kV_X1_body : CV yX1_body := ⟨List.mem_of_getElem? (i := 649) (by decide +kernel), List.mem_of_getElem? (i := 28) (by decide +kernel)⟩
theorem kC_X1_leave : Cond.code yX1_leave cX1_leave 2 none ∈ lw_tbl := List.mem_of_getElem? (i := 654) (by decide +kernel)
theorem kV_X1_leave : CV yX1_leave := ⟨List.mem_of_getElem? (i := 653) (by decide +kernel), List.mem_of_getElem? (i := 29) (by decide +kernel)⟩
theorem kC_X2_init : Cond.code yX2_init cX2_init 1 none ∈ lw_tbl := List.mem_of_getElem? (i := 124) (by decide +kernel)
theorem kI_X2_init : Cond.instanceMethod yX2_init ∈ lw_tbl := List.mem_of_getElem? (i := 123) (by decide +kernel)
theorem kC_X2_empty : Cond.code yX2_empty cX2_empty 2 none ∈ lw_tbl := List.mem_of_getElem? (i := 320) (by decide +kernel)
theorem kV_X2_empty : CV yX2_empty := ⟨List.mem_of_getElem? (i := 318) (by decide +kernel), List.mem_of_getElem? (i := 319) (by decide +kernel)⟩
theorem kC_X2_take : Cond.code yX2_take cX2_take 2 none ∈ lw_tbl := List.mem_of_getElem? (i := 376) (by decide +kernel)
theorem kV_X2_take : CV yX2_take := ⟨List.mem_of_getElem? (i := 374) (by decide +kernel), List.mem_of_getElem? (i := 375) (by decide +kernel)⟩
theorem kC_X2_holds : Cond.code yX2_holds cX2_holds 2 (some .boolean) ∈ lw_tbl := List.mem_of_getElem? (i := 411) (by decide +kernel)
theorem kV_X2_holds : CV yX2_holds := ⟨List.mem_of_getElem? (i := 409) (by decide +kernel), List.mem_of_getElem? (i := 410) (by decide +kernel)⟩
theorem kC_X2_letGo : Cond.code yX2_letGo cX2_letGo 2 none ∈ lw_tbl := List.mem_of_getElem? (i := 422) (by decide +kernel)
theorem kV_X2_letGo : CV yX2_letGo := ⟨List.mem_of_getElem? (i := 420) (by decide +kernel), List.mem_of_getElem? (i := 421) (by decide +kernel)⟩
theorem kC_X2_mendRope : Cond.code yX2_mendRope cX2_mendRope 2 none ∈ lw_tbl := List.mem_of_getElem? (i := 454) (by decide +kernel)
theorem kV_X2_mendRope : CV yX2_mendRope := ⟨List.mem_of_getElem? (i := 452) (by decide +kernel), List.mem_of_getElem? (i := 453) (by decide +kernel)⟩
theorem kC_X2_suppose : Cond.code yX2_suppose cX2_suppose 4 none ∈ lw_tbl := List.mem_of_getElem? (i := 574) (by decide +kernel)
theorem kV_X2_suppose : CV yX2_suppose := ⟨List.mem_of_getElem? (i := 572) (by decide +kernel), List.mem_of_getElem? (i := 573) (by decide +kernel)⟩
theorem kC_X2_standing : Cond.code yX2_standing cX2_standing 3 (some .int) ∈ lw_tbl := List.mem_of_getElem? (i := 505) (by decide +kernel)
theorem kV_X2_standing : CV yX2_standing := ⟨List.mem_of_getElem? (i := 503) (by decide +kernel), List.mem_of_getElem? (i := 504) (by decide +kernel)⟩
theorem kC_X2_pullOfHolders : Cond.code yX2_pullOfHolders cX2_pullOfHolders 3 (some .int) ∈ lw_tbl := List.mem_of_getElem? (i := 560) (by decide +kernel)
theorem kV_X2_pullOfHolders : CV yX2_pullOfHolders := ⟨List.mem_of_getElem? (i := 558) (by decide +kernel), List.mem_of_getElem? (i := 559) (by decide +kernel)⟩
theorem kC_X2_drawOf : Cond.code yX2_drawOf cX2_drawOf 2 (some .int) ∈ lw_tbl := List.mem_of_getElem? (i := 407) (by decide +kernel)
theorem kV_X2_drawOf : CV yX2_drawOf := ⟨List.mem_of_getElem? (i := 405) (by decide +kernel), List.mem_of_getElem? (i := 406) (by decide +kernel)⟩
theorem kC_X2_force : Cond.code yX2_force cX2_force 3 (some .int) ∈ lw_tbl := List.mem_of_getElem? (i := 500) (by decide +kernel)
theorem kV_X2_force : CV yX2_force := ⟨List.mem_of_getElem? (i := 498) (by decide +kernel), List.mem_of_getElem? (i := 499) (by decide +kernel)⟩
theorem kC_X2_speedBy : Cond.code yX2_speedBy cX2_speedBy 2 (some .int) ∈ lw_tbl := List.mem_of_getElem? (i := 426) (by decide +kernel)
theorem kV_X2_speedBy : CV yX2_speedBy := ⟨List.mem_of_getElem? (i := 424) (by decide +kernel), List.mem_of_getElem? (i := 425) (by decide +kernel)⟩
theorem kC_X2_passHour : Cond.code yX2_passHour cX2_passHour 5 none ∈ lw_tbl := List.mem_of_getElem? (i := 403) (by decide +kernel)
theorem kV_X2_passHour : CV yX2_passHour := ⟨List.mem_of_getElem? (i := 401) (by decide +kernel), List.mem_of_getElem? (i := 402) (by decide +kernel)⟩
theorem kC_X2_ropeIsThrough : Cond.code yX2_ropeIsThrough cX2_ropeIsThrough 2 (some .boolean) ∈ lw_tbl := List.mem_of_getElem? (i := 418) (by decide +kernel)
theorem kV_X2_ropeIsThrough : CV yX2_ropeIsThrough := ⟨List.mem_of_getElem? (i := 417) (by decide +kernel), List.mem_of_getElem? (i := 15) (by decide +kernel)⟩
theorem kC_X2_partBoys : Cond.code yX2_partBoys cX2_partBoys 2 none ∈ lw_tbl := List.mem_of_getElem? (i := 430) (by decide +kernel)
theorem kV_X2_partBoys : CV yX2_partBoys := ⟨List.mem_of_getElem? (i := 429) (by decide +kernel), List.mem_of_getElem? (i := 16) (by decide +kernel)⟩
theorem kC_X2_comeNearer : Cond.code yX2_comeNearer cX2_comeNearer 5 none ∈ lw_tbl := List.mem_of_getElem? (i := 434) (by decide +kernel)
theorem kV_X2_comeNearer : CV yX2_comeNearer := ⟨List.mem_of_getElem? (i := 433) (by decide +kernel), List.mem_of_getElem? (i := 17) (by decide +kernel)⟩
theorem kC_X2_pierOnTheWay : Cond.code yX2_pierOnTheWay cX2_pierOnTheWay 5 (some .int) ∈ lw_tbl := List.mem_of_getElem? (i := 438) (by decide +kernel)
theorem kV_X2_pierOnTheWay : CV yX2_pierOnTheWay := ⟨List.mem_of_getElem? (i := 437) (by decide +kernel), List.mem_of_getElem? (i := 18) (by decide +kernel)⟩
theorem kC_X2_befall : Cond.code yX2_befall cX2_befall 4 none ∈ lw_tbl := List.mem_of_getElem? (i := 603) (by decide +kernel)
theorem kV_X2_befall : CV yX2_befall := ⟨List.mem_of_getElem? (i := 601) (by decide +kernel), List.mem_of_getElem? (i := 602) (by decide +kernel)⟩
theorem kC_X3_init : Cond.code yX3_init cX3_init 1 none ∈ lw_tbl := List.mem_of_getElem? (i := 80) (by decide +kernel)
theorem kI_X3_init : Cond.instanceMethod yX3_init ∈ lw_tbl := List.mem_of_getElem? (i := 79) (by decide +kernel)
theorem kC_X3_missing : Cond.code yX3_missing cX3_missing 1 (some .boolean) ∈ lw_tbl := List.mem_of_getElem? (i := 276) (by decide +kernel)
theorem kV_X3_missing : CV yX3_missing := ⟨List.mem_of_getElem? (i := 274) (by decide +kernel), List.mem_of_getElem? (i := 275) (by decide +kernel)⟩
theorem kC_X3_begin : Cond.code yX3_begin cX3_begin 4 none ∈ lw_tbl := List.mem_of_getElem? (i := 264) (by decide +kernel)
theorem kV_X3_begin : CV yX3_begin := ⟨List.mem_of_getElem? (i := 262) (by decide +kernel), List.mem_of_getElem? (i := 263) (by decide +kernel)⟩
theorem kC_X3_end : Cond.code yX3_end cX3_end 2 (some .int) ∈ lw_tbl := List.mem_of_getElem? (i := 299) (by decide +kernel)
theorem kV_X3_end : CV yX3_end := ⟨List.mem_of_getElem? (i := 297) (by decide +kernel), List.mem_of_getElem? (i := 298) (by decide +kernel)⟩
theorem kC_X3_hasRun : Cond.code yX3_hasRun cX3_hasRun 3 (some .boolean) ∈ lw_tbl := List.mem_of_getElem? (i := 280) (by decide +kernel)
theorem kV_X3_hasRun : CV yX3_hasRun := ⟨List.mem_of_getElem? (i := 278) (by decide +kernel), List.mem_of_getElem? (i := 279) (by decide +kernel)⟩
theorem kC_X3_narrowed : Cond.code yX3_narrowed cX3_narrowed 2 (some .int) ∈ lw_tbl := List.mem_of_getElem? (i := 284) (by decide +kernel)
theorem kV_X3_narrowed : CV yX3_narrowed := ⟨List.mem_of_getElem? (i := 282) (by decide +kernel), List.mem_of_getElem? (i := 283) (by decide +kernel)⟩
theorem kC_X4_init : Cond.code yX4_init cX4_init 1 none ∈ lw_tbl := List.mem_of_getElem? (i := 99) (by decide +kernel)
theorem kI_X4_init : Cond.instanceMethod yX4_init ∈ lw_tbl := List.mem_of_getElem? (i := 98) (by decide +kernel)
theorem kC_X4_append : Cond.code yX4_append cX4_append 2 (some .int) ∈ lw_tbl := List.mem_of_getElem? (i := 308) (by decide +kernel)
theorem kV_X4_append : CV yX4_append := ⟨List.mem_of_getElem? (i := 306) (by decide +kernel), List.mem_of_getElem? (i := 307) (by decide +kernel)⟩
theorem kC_X4_readInto : Cond.code yX4_readInto cX4_readInto 3 (some .boolean) ∈ lw_tbl := List.mem_of_getElem? (i := 316) (by decide +kernel)
theorem kV_X4_readInto : CV yX4_readInto := ⟨List.mem_of_getElem? (i := 314) (by decide +kernel), List.mem_of_getElem? (i := 315) (by decide +kernel)⟩
theorem kC_X4_readLaw : Cond.code yX4_readLaw cX4_readLaw 2 (some .boolean) ∈ lw_tbl := List.mem_of_getElem? (i := 324) (by decide +kernel)
theorem kV_X4_readLaw : CV yX4_readLaw := ⟨List.mem_of_getElem? (i := 323) (by decide +kernel), List.mem_of_getElem? (i := 2) (by decide +kernel)⟩
theorem kC_X4_readTugs : Cond.code yX4_readTugs cX4_readTugs 3 (some .boolean) ∈ lw_tbl := List.mem_of_getElem? (i := 351) (by decide +kernel)
theorem kV_X4_readTugs : CV yX4_readTugs := ⟨List.mem_of_getElem? (i := 350) (by decide +kernel), List.mem_of_getElem? (i := 8) (by decide +kernel)⟩
theorem kC_X4_readTug : Cond.code yX4_readTug cX4_readTug 3 (some .boolean) ∈ lw_tbl := List.mem_of_getElem? (i := 359) (by decide +kernel)
theorem kV_X4_readTug : CV yX4_readTug := ⟨List.mem_of_getElem? (i := 358) (by decide +kernel), List.mem_of_getElem? (i := 10) (by decide +kernel)⟩
theorem kC_X4_readPiers : Cond.code yX4_readPiers cX4_readPiers 3 (some .boolean) ∈ lw_tbl := List.mem_of_getElem? (i := 363) (by decide +kernel)
theorem kV_X4_readPiers : CV yX4_readPiers := ⟨List.mem_of_getElem? (i := 362) (by decide +kernel), List.mem_of_getElem? (i := 11) (by decide +kernel)⟩
theorem kC_X4_readPier : Cond.code yX4_readPier cX4_readPier 3 (some .boolean) ∈ lw_tbl := List.mem_of_getElem? (i := 367) (by decide +kernel)
theorem kV_X4_readPier : CV yX4_readPier := ⟨List.mem_of_getElem? (i := 366) (by decide +kernel), List.mem_of_getElem? (i := 12) (by decide +kernel)⟩
theorem kC_X4_readEnd : Cond.code yX4_readEnd cX4_readEnd 1 (some .boolean) ∈ lw_tbl := List.mem_of_getElem? (i := 371) (by decide +kernel)
theorem kV_X4_readEnd : CV yX4_readEnd := ⟨List.mem_of_getElem? (i := 370) (by decide +kernel), List.mem_of_getElem? (i := 13) (by decide +kernel)⟩
theorem kC_X4_readSign : Cond.code yX4_readSign cX4_readSign 2 (some .boolean) ∈ lw_tbl := List.mem_of_getElem? (i := 328) (by decide +kernel)
theorem kV_X4_readSign : CV yX4_readSign := ⟨List.mem_of_getElem? (i := 327) (by decide +kernel), List.mem_of_getElem? (i := 3) (by decide +kernel)⟩
theorem kC_X4_readNumber : Cond.code yX4_readNumber cX4_readNumber 6 (some .boolean) ∈ lw_tbl := List.mem_of_getElem? (i := 344) (by decide +kernel)
theorem kV_X4_readNumber : CV yX4_readNumber := ⟨List.mem_of_getElem? (i := 343) (by decide +kernel), List.mem_of_getElem? (i := 7) (by decide +kernel)⟩
theorem kC_X4_isFigure : Cond.code yX4_isFigure cX4_isFigure 1 (some .boolean) ∈ lw_tbl := List.mem_of_getElem? (i := 347) (by decide +kernel)
theorem kS_X4_isFigure : Cond.static yX4_isFigure ∈ lw_tbl := List.mem_of_getElem? (i := 346) (by decide +kernel)
theorem kC_X4_sortHere : Cond.code yX4_sortHere cX4_sortHere 1 (some .int) ∈ lw_tbl := List.mem_of_getElem? (i := 355) (by decide +kernel)
theorem kV_X4_sortHere : CV yX4_sortHere := ⟨List.mem_of_getElem? (i := 354) (by decide +kernel), List.mem_of_getElem? (i := 9) (by decide +kernel)⟩
theorem kC_X4_here : Cond.code yX4_here cX4_here 1 (some .int) ∈ lw_tbl := List.mem_of_getElem? (i := 332) (by decide +kernel)
theorem kV_X4_here : CV yX4_here := ⟨List.mem_of_getElem? (i := 331) (by decide +kernel), List.mem_of_getElem? (i := 4) (by decide +kernel)⟩
theorem kC_X4_byteAt : Cond.code yX4_byteAt cX4_byteAt 2 (some .int) ∈ lw_tbl := List.mem_of_getElem? (i := 336) (by decide +kernel)
theorem kV_X4_byteAt : CV yX4_byteAt := ⟨List.mem_of_getElem? (i := 335) (by decide +kernel), List.mem_of_getElem? (i := 5) (by decide +kernel)⟩
theorem kC_X4_faulty : Cond.code yX4_faulty cX4_faulty 2 (some .boolean) ∈ lw_tbl := List.mem_of_getElem? (i := 340) (by decide +kernel)
theorem kV_X4_faulty : CV yX4_faulty := ⟨List.mem_of_getElem? (i := 339) (by decide +kernel), List.mem_of_getElem? (i := 6) (by decide +kernel)⟩
theorem kC_X5_init : Cond.code yX5_init cX5_init 2 none ∈ lw_tbl := List.mem_of_getElem? (i := 71) (by decide +kernel)
theorem kI_X5_init : Cond.instanceMethod yX5_init ∈ lw_tbl := List.mem_of_getElem? (i := 70) (by decide +kernel)
theorem kC_X5_row : Cond.code yX5_row cX5_row 4 (some .int) ∈ lw_tbl := List.mem_of_getElem? (i := 251) (by decide +kernel)
theorem kV_X5_row : CV yX5_row := ⟨List.mem_of_getElem? (i := 249) (by decide +kernel), List.mem_of_getElem? (i := 250) (by decide +kernel)⟩
theorem kC_X5_set : Cond.code yX5_set cX5_set 5 (some .int) ∈ lw_tbl := List.mem_of_getElem? (i := 272) (by decide +kernel)
theorem kV_X5_set : CV yX5_set := ⟨List.mem_of_getElem? (i := 270) (by decide +kernel), List.mem_of_getElem? (i := 271) (by decide +kernel)⟩
theorem kC_X5_copy : Cond.code yX5_copy cX5_copy 8 (some .int) ∈ lw_tbl := List.mem_of_getElem? (i := 288) (by decide +kernel)
theorem kV_X5_copy : CV yX5_copy := ⟨List.mem_of_getElem? (i := 286) (by decide +kernel), List.mem_of_getElem? (i := 287) (by decide +kernel)⟩
theorem kC_X5_drop : Cond.code yX5_drop cX5_drop 2 (some .int) ∈ lw_tbl := List.mem_of_getElem? (i := 295) (by decide +kernel)
theorem kV_X5_drop : CV yX5_drop := ⟨List.mem_of_getElem? (i := 293) (by decide +kernel), List.mem_of_getElem? (i := 294) (by decide +kernel)⟩
theorem kC_X5_feed : Cond.code yX5_feed cX5_feed 2 (some .int) ∈ lw_tbl := List.mem_of_getElem? (i := 303) (by decide +kernel)
theorem kV_X5_feed : CV yX5_feed := ⟨List.mem_of_getElem? (i := 301) (by decide +kernel), List.mem_of_getElem? (i := 302) (by decide +kernel)⟩
theorem kC_X5_estuary : Cond.code yX5_estuary cX5_estuary 2 (some .int) ∈ lw_tbl := List.mem_of_getElem? (i := 312) (by decide +kernel)
theorem kV_X5_estuary : CV yX5_estuary := ⟨List.mem_of_getElem? (i := 310) (by decide +kernel), List.mem_of_getElem? (i := 311) (by decide +kernel)⟩
theorem kC_X5_fault : Cond.code yX5_fault cX5_fault 1 (some .int) ∈ lw_tbl := List.mem_of_getElem? (i := 385) (by decide +kernel)
theorem kV_X5_fault : CV yX5_fault := ⟨List.mem_of_getElem? (i := 383) (by decide +kernel), List.mem_of_getElem? (i := 384) (by decide +kernel)⟩
theorem kC_X5_hours : Cond.code yX5_hours cX5_hours 3 (some .int) ∈ lw_tbl := List.mem_of_getElem? (i := 389) (by decide +kernel)
theorem kV_X5_hours : CV yX5_hours := ⟨List.mem_of_getElem? (i := 387) (by decide +kernel), List.mem_of_getElem? (i := 388) (by decide +kernel)⟩
theorem kC_X5_mend : Cond.code yX5_mend cX5_mend 2 (some .int) ∈ lw_tbl := List.mem_of_getElem? (i := 445) (by decide +kernel)
theorem kV_X5_mend : CV yX5_mend := ⟨List.mem_of_getElem? (i := 443) (by decide +kernel), List.mem_of_getElem? (i := 444) (by decide +kernel)⟩
theorem kC_X5_loose : Cond.code yX5_loose cX5_loose 2 (some .int) ∈ lw_tbl := List.mem_of_getElem? (i := 458) (by decide +kernel)
theorem kV_X5_loose : CV yX5_loose := ⟨List.mem_of_getElem? (i := 456) (by decide +kernel), List.mem_of_getElem? (i := 457) (by decide +kernel)⟩
theorem kC_X5_pull : Cond.code yX5_pull cX5_pull 4 (some .int) ∈ lw_tbl := List.mem_of_getElem? (i := 463) (by decide +kernel)
theorem kV_X5_pull : CV yX5_pull := ⟨List.mem_of_getElem? (i := 461) (by decide +kernel), List.mem_of_getElem? (i := 462) (by decide +kernel)⟩
theorem kC_X5_clear : Cond.code yX5_clear cX5_clear 3 (some .int) ∈ lw_tbl := List.mem_of_getElem? (i := 467) (by decide +kernel)
theorem kV_X5_clear : CV yX5_clear := ⟨List.mem_of_getElem? (i := 465) (by decide +kernel), List.mem_of_getElem? (i := 466) (by decide +kernel)⟩
theorem kC_X5_undo : Cond.code yX5_undo cX5_undo 1 (some .int) ∈ lw_tbl := List.mem_of_getElem? (i := 475) (by decide +kernel)
theorem kV_X5_undo : CV yX5_undo := ⟨List.mem_of_getElem? (i := 473) (by decide +kernel), List.mem_of_getElem? (i := 474) (by decide +kernel)⟩
theorem kC_X5_tug : Cond.code yX5_tug cX5_tug 3 (some .int) ∈ lw_tbl := List.mem_of_getElem? (i := 483) (by decide +kernel)
theorem kV_X5_tug : CV yX5_tug := ⟨List.mem_of_getElem? (i := 481) (by decide +kernel), List.mem_of_getElem? (i := 482) (by decide +kernel)⟩
theorem kC_X5_pier : Cond.code yX5_pier cX5_pier 3 (some .int) ∈ lw_tbl := List.mem_of_getElem? (i := 488) (by decide +kernel)
theorem kV_X5_pier : CV yX5_pier := ⟨List.mem_of_getElem? (i := 486) (by decide +kernel), List.mem_of_getElem? (i := 487) (by decide +kernel)⟩
theorem kC_X5_later : Cond.code yX5_later cX5_later 5 (some .int) ∈ lw_tbl := List.mem_of_getElem? (i := 492) (by decide +kernel)
theorem kV_X5_later : CV yX5_later := ⟨List.mem_of_getElem? (i := 490) (by decide +kernel), List.mem_of_getElem? (i := 491) (by decide +kernel)⟩
theorem kC_X5_arrives : Cond.code yX5_arrives cX5_arrives 1 (some .int) ∈ lw_tbl := List.mem_of_getElem? (i := 509) (by decide +kernel)
theorem kV_X5_arrives : CV yX5_arrives := ⟨List.mem_of_getElem? (i := 507) (by decide +kernel), List.mem_of_getElem? (i := 508) (by decide +kernel)⟩
theorem kC_X5_parts : Cond.code yX5_parts cX5_parts 4 (some .int) ∈ lw_tbl := List.mem_of_getElem? (i := 517) (by decide +kernel)
theorem kV_X5_parts : CV yX5_parts := ⟨List.mem_of_getElem? (i := 515) (by decide +kernel), List.mem_of_getElem? (i := 516) (by decide +kernel)⟩
theorem kC_X5_crew : Cond.code yX5_crew cX5_crew 5 (some .int) ∈ lw_tbl := List.mem_of_getElem? (i := 521) (by decide +kernel)
theorem kV_X5_crew : CV yX5_crew := ⟨List.mem_of_getElem? (i := 519) (by decide +kernel), List.mem_of_getElem? (i := 520) (by decide +kernel)⟩
theorem kC_X5_cleared : Cond.code yX5_cleared cX5_cleared 6 (some .int) ∈ lw_tbl := List.mem_of_getElem? (i := 544) (by decide +kernel)
theorem kV_X5_cleared : CV yX5_cleared := ⟨List.mem_of_getElem? (i := 542) (by decide +kernel), List.mem_of_getElem? (i := 543) (by decide +kernel)⟩
theorem kC_X5_least : Cond.code yX5_least cX5_least 5 (some .int) ∈ lw_tbl := List.mem_of_getElem? (i := 552) (by decide +kernel)
theorem kV_X5_least : CV yX5_least := ⟨List.mem_of_getElem? (i := 550) (by decide +kernel), List.mem_of_getElem? (i := 551) (by decide +kernel)⟩
theorem kC_X5_share : Cond.code yX5_share cX5_share 7 (some .int) ∈ lw_tbl := List.mem_of_getElem? (i := 556) (by decide +kernel)
theorem kV_X5_share : CV yX5_share := ⟨List.mem_of_getElem? (i := 554) (by decide +kernel), List.mem_of_getElem? (i := 555) (by decide +kernel)⟩
theorem kC_X5_fits : Cond.code yX5_fits cX5_fits 11 (some .int) ∈ lw_tbl := List.mem_of_getElem? (i := 564) (by decide +kernel)
theorem kV_X5_fits : CV yX5_fits := ⟨List.mem_of_getElem? (i := 562) (by decide +kernel), List.mem_of_getElem? (i := 563) (by decide +kernel)⟩
theorem kC_X5_chance : Cond.code yX5_chance cX5_chance 7 (some .int) ∈ lw_tbl := List.mem_of_getElem? (i := 578) (by decide +kernel)
theorem kV_X5_chance : CV yX5_chance := ⟨List.mem_of_getElem? (i := 576) (by decide +kernel), List.mem_of_getElem? (i := 577) (by decide +kernel)⟩
theorem kC_X5_drawn : Cond.code yX5_drawn cX5_drawn 9 (some .int) ∈ lw_tbl := List.mem_of_getElem? (i := 596) (by decide +kernel)
theorem kV_X5_drawn : CV yX5_drawn := ⟨List.mem_of_getElem? (i := 594) (by decide +kernel), List.mem_of_getElem? (i := 595) (by decide +kernel)⟩
theorem kC_X5_image : Cond.code yX5_image cX5_image 2 (some .int) ∈ lw_tbl := List.mem_of_getElem? (i := 610) (by decide +kernel)
theorem kV_X5_image : CV yX5_image := ⟨List.mem_of_getElem? (i := 608) (by decide +kernel), List.mem_of_getElem? (i := 609) (by decide +kernel)⟩
theorem kC_X5_restore : Cond.code yX5_restore cX5_restore 2 (some .int) ∈ lw_tbl := List.mem_of_getElem? (i := 617) (by decide +kernel)
theorem kV_X5_restore : CV yX5_restore := ⟨List.mem_of_getElem? (i := 615) (by decide +kernel), List.mem_of_getElem? (i := 616) (by decide +kernel)⟩
theorem kC_X5_kind : Cond.code yX5_kind cX5_kind 2 (some .int) ∈ lw_tbl := List.mem_of_getElem? (i := 621) (by decide +kernel)
theorem kV_X5_kind : CV yX5_kind := ⟨List.mem_of_getElem? (i := 619) (by decide +kernel), List.mem_of_getElem? (i := 620) (by decide +kernel)⟩
theorem kC_X5_as : Cond.code yX5_as cX5_as 3 (some .int) ∈ lw_tbl := List.mem_of_getElem? (i := 625) (by decide +kernel)
theorem kV_X5_as : CV yX5_as := ⟨List.mem_of_getElem? (i := 623) (by decide +kernel), List.mem_of_getElem? (i := 624) (by decide +kernel)⟩
theorem kC_X5_ask : Cond.code yX5_ask cX5_ask 3 (some .int) ∈ lw_tbl := List.mem_of_getElem? (i := 634) (by decide +kernel)
theorem kV_X5_ask : CV yX5_ask := ⟨List.mem_of_getElem? (i := 632) (by decide +kernel), List.mem_of_getElem? (i := 633) (by decide +kernel)⟩
theorem kC_X5_trace : Cond.code yX5_trace cX5_trace 2 (some .int) ∈ lw_tbl := List.mem_of_getElem? (i := 658) (by decide +kernel)
theorem kV_X5_trace : CV yX5_trace := ⟨List.mem_of_getElem? (i := 656) (by decide +kernel), List.mem_of_getElem? (i := 657) (by decide +kernel)⟩
theorem kC_X5_count : Cond.code yX5_count cX5_count 2 (some .int) ∈ lw_tbl := List.mem_of_getElem? (i := 662) (by decide +kernel)
theorem kV_X5_count : CV yX5_count := ⟨List.mem_of_getElem? (i := 660) (by decide +kernel), List.mem_of_getElem? (i := 661) (by decide +kernel)⟩
theorem kC_X5_status : Cond.code yX5_status cX5_status 1 (some .int) ∈ lw_tbl := List.mem_of_getElem? (i := 670) (by decide +kernel)
theorem kV_X5_status : CV yX5_status := ⟨List.mem_of_getElem? (i := 668) (by decide +kernel), List.mem_of_getElem? (i := 669) (by decide +kernel)⟩
theorem kC_X5_found : Cond.code yX5_found cX5_found 2 (some .int) ∈ lw_tbl := List.mem_of_getElem? (i := 259) (by decide +kernel)
theorem kV_X5_found : CV yX5_found := ⟨List.mem_of_getElem? (i := 258) (by decide +kernel), List.mem_of_getElem? (i := 0) (by decide +kernel)⟩
theorem kC_X5_well : Cond.code yX5_well cX5_well 2 (some .int) ∈ lw_tbl := List.mem_of_getElem? (i := 268) (by decide +kernel)
theorem kV_X5_well : CV yX5_well := ⟨List.mem_of_getElem? (i := 267) (by decide +kernel), List.mem_of_getElem? (i := 1) (by decide +kernel)⟩
theorem kC_X5_noRow : Cond.code yX5_noRow cX5_noRow 1 (some .boolean) ∈ lw_tbl := List.mem_of_getElem? (i := 254) (by decide +kernel)
theorem kS_X5_noRow : Cond.static yX5_noRow ∈ lw_tbl := List.mem_of_getElem? (i := 253) (by decide +kernel)
theorem kC_X5_noImage : Cond.code yX5_noImage cX5_noImage 1 (some .boolean) ∈ lw_tbl := List.mem_of_getElem? (i := 613) (by decide +kernel)
theorem kS_X5_noImage : Cond.static yX5_noImage ∈ lw_tbl := List.mem_of_getElem? (i := 612) (by decide +kernel)
theorem kC_X5_noHalf : Cond.code yX5_noHalf cX5_noHalf 1 (some .boolean) ∈ lw_tbl := List.mem_of_getElem? (i := 524) (by decide +kernel)
theorem kS_X5_noHalf : Cond.static yX5_noHalf ∈ lw_tbl := List.mem_of_getElem? (i := 523) (by decide +kernel)
theorem kC_X5_noEstuary : Cond.code yX5_noEstuary cX5_noEstuary 1 (some .boolean) ∈ lw_tbl := List.mem_of_getElem? (i := 393) (by decide +kernel)
theorem kV_X5_noEstuary : CV yX5_noEstuary := ⟨List.mem_of_getElem? (i := 392) (by decide +kernel), List.mem_of_getElem? (i := 14) (by decide +kernel)⟩
theorem kC_X5_noTug : Cond.code yX5_noTug cX5_noTug 2 (some .boolean) ∈ lw_tbl := List.mem_of_getElem? (i := 449) (by decide +kernel)
theorem kV_X5_noTug : CV yX5_noTug := ⟨List.mem_of_getElem? (i := 448) (by decide +kernel), List.mem_of_getElem? (i := 19) (by decide +kernel)⟩
theorem kC_X5_noPier : Cond.code yX5_noPier cX5_noPier 2 (some .boolean) ∈ lw_tbl := List.mem_of_getElem? (i := 471) (by decide +kernel)
theorem kV_X5_noPier : CV yX5_noPier := ⟨List.mem_of_getElem? (i := 470) (by decide +kernel), List.mem_of_getElem? (i := 20) (by decide +kernel)⟩
theorem kC_X5_rowsThere : Cond.code yX5_rowsThere cX5_rowsThere 3 (some .int) ∈ lw_tbl := List.mem_of_getElem? (i := 666) (by decide +kernel)
theorem kV_X5_rowsThere : CV yX5_rowsThere := ⟨List.mem_of_getElem? (i := 665) (by decide +kernel), List.mem_of_getElem? (i := 30) (by decide +kernel)⟩
theorem kC_X5_fromNow : Cond.code yX5_fromNow cX5_fromNow 1 (some (.object "TugLines$Estuary")) ∈ lw_tbl := List.mem_of_getElem? (i := 496) (by decide +kernel)
theorem kV_X5_fromNow : CV yX5_fromNow := ⟨List.mem_of_getElem? (i := 495) (by decide +kernel), List.mem_of_getElem? (i := 21) (by decide +kernel)⟩
theorem kC_X5_hoursUntilIn : Cond.code yX5_hoursUntilIn cX5_hoursUntilIn 3 (some .int) ∈ lw_tbl := List.mem_of_getElem? (i := 512) (by decide +kernel)
theorem kS_X5_hoursUntilIn : Cond.static yX5_hoursUntilIn ∈ lw_tbl := List.mem_of_getElem? (i := 511) (by decide +kernel)
theorem kC_X5_inByCrew : Cond.code yX5_inByCrew cX5_inByCrew 5 (some .boolean) ∈ lw_tbl := List.mem_of_getElem? (i := 537) (by decide +kernel)
theorem kV_X5_inByCrew : CV yX5_inByCrew := ⟨List.mem_of_getElem? (i := 536) (by decide +kernel), List.mem_of_getElem? (i := 22) (by decide +kernel)⟩
theorem kC_X5_inByCleared : Cond.code yX5_inByCleared cX5_inByCleared 5 (some .boolean) ∈ lw_tbl := List.mem_of_getElem? (i := 548) (by decide +kernel)
theorem kV_X5_inByCleared : CV yX5_inByCleared := ⟨List.mem_of_getElem? (i := 547) (by decide +kernel), List.mem_of_getElem? (i := 23) (by decide +kernel)⟩
theorem kC_X5_fewer : Cond.code yX5_fewer cX5_fewer 2 (some .boolean) ∈ lw_tbl := List.mem_of_getElem? (i := 527) (by decide +kernel)
theorem kS_X5_fewer : Cond.static yX5_fewer ∈ lw_tbl := List.mem_of_getElem? (i := 526) (by decide +kernel)
theorem kC_X5_sizeOrSet : Cond.code yX5_sizeOrSet cX5_sizeOrSet 2 (some .int) ∈ lw_tbl := List.mem_of_getElem? (i := 540) (by decide +kernel)
theorem kS_X5_sizeOrSet : Cond.static yX5_sizeOrSet ∈ lw_tbl := List.mem_of_getElem? (i := 539) (by decide +kernel)
theorem kC_X5_isSoWith : Cond.code yX5_isSoWith cX5_isSoWith 9 (some .boolean) ∈ lw_tbl := List.mem_of_getElem? (i := 570) (by decide +kernel)
theorem kV_X5_isSoWith : CV yX5_isSoWith := ⟨List.mem_of_getElem? (i := 569) (by decide +kernel), List.mem_of_getElem? (i := 24) (by decide +kernel)⟩
theorem kC_X5_waysIn : Cond.code yX5_waysIn cX5_waysIn 6 (some .int) ∈ lw_tbl := List.mem_of_getElem? (i := 582) (by decide +kernel)
theorem kV_X5_waysIn : CV yX5_waysIn := ⟨List.mem_of_getElem? (i := 581) (by decide +kernel), List.mem_of_getElem? (i := 25) (by decide +kernel)⟩
theorem kC_X5_waysInBehind : Cond.code yX5_waysInBehind cX5_waysInBehind 6 (some .int) ∈ lw_tbl := List.mem_of_getElem? (i := 589) (by decide +kernel)
theorem kV_X5_waysInBehind : CV yX5_waysInBehind := ⟨List.mem_of_getElem? (i := 588) (by decide +kernel), List.mem_of_getElem? (i := 26) (by decide +kernel)⟩
theorem kC_X5_tenToThe : Cond.code yX5_tenToThe cX5_tenToThe 3 (some .int) ∈ lw_tbl := List.mem_of_getElem? (i := 585) (by decide +kernel)
theorem kS_X5_tenToThe : Cond.static yX5_tenToThe ∈ lw_tbl := List.mem_of_getElem? (i := 584) (by decide +kernel)
theorem kC_X5_commonDivisor : Cond.code yX5_commonDivisor cX5_commonDivisor 6 (some .int) ∈ lw_tbl := List.mem_of_getElem? (i := 592) (by decide +kernel)
theorem kS_X5_commonDivisor : Cond.static yX5_commonDivisor ∈ lw_tbl := List.mem_of_getElem? (i := 591) (by decide +kernel)
theorem kC_X5_isA : Cond.code yX5_isA cX5_isA 4 (some .boolean) ∈ lw_tbl := List.mem_of_getElem? (i := 628) (by decide +kernel)
theorem kS_X5_isA : Cond.static yX5_isA ∈ lw_tbl := List.mem_of_getElem? (i := 627) (by decide +kernel)
theorem kC_X6_init : Cond.code yX6_init cX6_init 2 none ∈ lw_tbl := List.mem_of_getElem? (i := 675) (by decide +kernel)
theorem kI_X6_init : Cond.instanceMethod yX6_init ∈ lw_tbl := List.mem_of_getElem? (i := 674) (by decide +kernel)
theorem kC_X6_in : Cond.code yX6_in cX6_in 3 (some .boolean) ∈ lw_tbl := List.mem_of_getElem? (i := 755) (by decide +kernel)
theorem kS_X6_in : Cond.static yX6_in ∈ lw_tbl := List.mem_of_getElem? (i := 754) (by decide +kernel)
theorem kC_X6_has : Cond.code yX6_has cX6_has 2 (some .boolean) ∈ lw_tbl := List.mem_of_getElem? (i := 952) (by decide +kernel)
theorem kS_X6_has : Cond.static yX6_has ∈ lw_tbl := List.mem_of_getElem? (i := 951) (by decide +kernel)
theorem kC_X6_ones : Cond.code yX6_ones cX6_ones 3 (some .int) ∈ lw_tbl := List.mem_of_getElem? (i := 949) (by decide +kernel)
theorem kS_X6_ones : Cond.static yX6_ones ∈ lw_tbl := List.mem_of_getElem? (i := 948) (by decide +kernel)
theorem kC_X6_found : Cond.code yX6_found cX6_found 2 (some .int) ∈ lw_tbl := List.mem_of_getElem? (i := 760) (by decide +kernel)
theorem kV_X6_found : CV yX6_found := ⟨List.mem_of_getElem? (i := 759) (by decide +kernel), List.mem_of_getElem? (i := 31) (by decide +kernel)⟩
theorem kC_X6_well : Cond.code yX6_well cX6_well 2 (some .int) ∈ lw_tbl := List.mem_of_getElem? (i := 765) (by decide +kernel)
theorem kV_X6_well : CV yX6_well := ⟨List.mem_of_getElem? (i := 764) (by decide +kernel), List.mem_of_getElem? (i := 32) (by decide +kernel)⟩
theorem kC_X6_copies : Cond.code yX6_copies cX6_copies 5 none ∈ lw_tbl := List.mem_of_getElem? (i := 840) (by decide +kernel)
theorem kS_X6_copies : Cond.static yX6_copies ∈ lw_tbl := List.mem_of_getElem? (i := 839) (by decide +kernel)
theorem kC_X6_isRow : Cond.code yX6_isRow cX6_isRow 1 (some .boolean) ∈ lw_tbl := List.mem_of_getElem? (i := 752) (by decide +kernel)
theorem kS_X6_isRow : Cond.static yX6_isRow ∈ lw_tbl := List.mem_of_getElem? (i := 751) (by decide +kernel)
theorem kC_X6_isMissing : Cond.code yX6_isMissing cX6_isMissing 2 (some .boolean) ∈ lw_tbl := List.mem_of_getElem? (i := 773) (by decide +kernel)
theorem kV_X6_isMissing : CV yX6_isMissing := ⟨List.mem_of_getElem? (i := 772) (by decide +kernel), List.mem_of_getElem? (i := 33) (by decide +kernel)⟩
theorem kC_X6_cut : Cond.code yX6_cut cX6_cut 2 (some .int) ∈ lw_tbl := List.mem_of_getElem? (i := 776) (by decide +kernel)
theorem kS_X6_cut : Cond.static yX6_cut ∈ lw_tbl := List.mem_of_getElem? (i := 775) (by decide +kernel)
theorem kC_X6_row : Cond.code yX6_row cX6_row 5 (some .int) ∈ lw_tbl := List.mem_of_getElem? (i := 749) (by decide +kernel)
theorem kV_X6_row : CV yX6_row := ⟨List.mem_of_getElem? (i := 747) (by decide +kernel), List.mem_of_getElem? (i := 748) (by decide +kernel)⟩
theorem kC_X6_set : Cond.code yX6_set cX6_set 4 (some .int) ∈ lw_tbl := List.mem_of_getElem? (i := 769) (by decide +kernel)
theorem kV_X6_set : CV yX6_set := ⟨List.mem_of_getElem? (i := 767) (by decide +kernel), List.mem_of_getElem? (i := 768) (by decide +kernel)⟩
theorem kC_X6_isPart : Cond.code yX6_isPart cX6_isPart 4 (some .boolean) ∈ lw_tbl := List.mem_of_getElem? (i := 784) (by decide +kernel)
theorem kV_X6_isPart : CV yX6_isPart := ⟨List.mem_of_getElem? (i := 783) (by decide +kernel), List.mem_of_getElem? (i := 34) (by decide +kernel)⟩
theorem kC_X6_copy : Cond.code yX6_copy cX6_copy 7 (some .int) ∈ lw_tbl := List.mem_of_getElem? (i := 780) (by decide +kernel)
theorem kV_X6_copy : CV yX6_copy := ⟨List.mem_of_getElem? (i := 778) (by decide +kernel), List.mem_of_getElem? (i := 779) (by decide +kernel)⟩
theorem kC_X6_drop : Cond.code yX6_drop cX6_drop 2 (some .int) ∈ lw_tbl := List.mem_of_getElem? (i := 788) (by decide +kernel)
theorem kV_X6_drop : CV yX6_drop := ⟨List.mem_of_getElem? (i := 786) (by decide +kernel), List.mem_of_getElem? (i := 787) (by decide +kernel)⟩
theorem kC_X6_feed : Cond.code yX6_feed cX6_feed 2 (some .int) ∈ lw_tbl := List.mem_of_getElem? (i := 792) (by decide +kernel)
theorem kV_X6_feed : CV yX6_feed := ⟨List.mem_of_getElem? (i := 790) (by decide +kernel), List.mem_of_getElem? (i := 791) (by decide +kernel)⟩
theorem kC_X6_byteAt : Cond.code yX6_byteAt cX6_byteAt 2 (some .int) ∈ lw_tbl := List.mem_of_getElem? (i := 805) (by decide +kernel)
theorem kV_X6_byteAt : CV yX6_byteAt := ⟨List.mem_of_getElem? (i := 804) (by decide +kernel), List.mem_of_getElem? (i := 36) (by decide +kernel)⟩
theorem kC_X6_advances : Cond.code yX6_advances cX6_advances 2 none ∈ lw_tbl := List.mem_of_getElem? (i := 801) (by decide +kernel)
theorem kV_X6_advances : CV yX6_advances := ⟨List.mem_of_getElem? (i := 800) (by decide +kernel), List.mem_of_getElem? (i := 35) (by decide +kernel)⟩
theorem kC_X6_isWell : Cond.code yX6_isWell cX6_isWell 1 (some .boolean) ∈ lw_tbl := List.mem_of_getElem? (i := 813) (by decide +kernel)
theorem kV_X6_isWell : CV yX6_isWell := ⟨List.mem_of_getElem? (i := 812) (by decide +kernel), List.mem_of_getElem? (i := 38) (by decide +kernel)⟩
theorem kC_X6_takes : Cond.code yX6_takes cX6_takes 4 (some .int) ∈ lw_tbl := List.mem_of_getElem? (i := 809) (by decide +kernel)
theorem kV_X6_takes : CV yX6_takes := ⟨List.mem_of_getElem? (i := 808) (by decide +kernel), List.mem_of_getElem? (i := 37) (by decide +kernel)⟩
theorem kC_X6_figure : Cond.code yX6_figure cX6_figure 3 (some .int) ∈ lw_tbl := List.mem_of_getElem? (i := 817) (by decide +kernel)
theorem kV_X6_figure : CV yX6_figure := ⟨List.mem_of_getElem? (i := 816) (by decide +kernel), List.mem_of_getElem? (i := 39) (by decide +kernel)⟩
theorem kC_X6_kindOf : Cond.code yX6_kindOf cX6_kindOf 1 (some .int) ∈ lw_tbl := List.mem_of_getElem? (i := 824) (by decide +kernel)
theorem kS_X6_kindOf : Cond.static yX6_kindOf ∈ lw_tbl := List.mem_of_getElem? (i := 823) (by decide +kernel)
theorem kC_X6_follows : Cond.code yX6_follows cX6_follows 3 (some .int) ∈ lw_tbl := List.mem_of_getElem? (i := 821) (by decide +kernel)
theorem kV_X6_follows : CV yX6_follows := ⟨List.mem_of_getElem? (i := 820) (by decide +kernel), List.mem_of_getElem? (i := 40) (by decide +kernel)⟩
theorem kC_X6_readsTug : Cond.code yX6_readsTug cX6_readsTug 5 none ∈ lw_tbl := List.mem_of_getElem? (i := 828) (by decide +kernel)
theorem kV_X6_readsTug : CV yX6_readsTug := ⟨List.mem_of_getElem? (i := 827) (by decide +kernel), List.mem_of_getElem? (i := 41) (by decide +kernel)⟩
theorem kC_X6_readsPier : Cond.code yX6_readsPier cX6_readsPier 4 none ∈ lw_tbl := List.mem_of_getElem? (i := 836) (by decide +kernel)
theorem kV_X6_readsPier : CV yX6_readsPier := ⟨List.mem_of_getElem? (i := 835) (by decide +kernel), List.mem_of_getElem? (i := 43) (by decide +kernel)⟩
theorem kC_X6_must : Cond.code yX6_must cX6_must 2 none ∈ lw_tbl := List.mem_of_getElem? (i := 832) (by decide +kernel)
theorem kV_X6_must : CV yX6_must := ⟨List.mem_of_getElem? (i := 831) (by decide +kernel), List.mem_of_getElem? (i := 42) (by decide +kernel)⟩
theorem kC_X6_estuary : Cond.code yX6_estuary cX6_estuary 2 (some .int) ∈ lw_tbl := List.mem_of_getElem? (i := 797) (by decide +kernel)
theorem kV_X6_estuary : CV yX6_estuary := ⟨List.mem_of_getElem? (i := 795) (by decide +kernel), List.mem_of_getElem? (i := 796) (by decide +kernel)⟩
theorem kC_X6_fault : Cond.code yX6_fault cX6_fault 1 (some .int) ∈ lw_tbl := List.mem_of_getElem? (i := 844) (by decide +kernel)
theorem kV_X6_fault : CV yX6_fault := ⟨List.mem_of_getElem? (i := 842) (by decide +kernel), List.mem_of_getElem? (i := 843) (by decide +kernel)⟩
theorem kC_X6_isEstuary : Cond.code yX6_isEstuary cX6_isEstuary 1 (some .boolean) ∈ lw_tbl := List.mem_of_getElem? (i := 852) (by decide +kernel)
theorem kV_X6_isEstuary : CV yX6_isEstuary := ⟨List.mem_of_getElem? (i := 851) (by decide +kernel), List.mem_of_getElem? (i := 44) (by decide +kernel)⟩
theorem kC_X6_isTug : Cond.code yX6_isTug cX6_isTug 2 (some .boolean) ∈ lw_tbl := List.mem_of_getElem? (i := 889) (by decide +kernel)
theorem kV_X6_isTug : CV yX6_isTug := ⟨List.mem_of_getElem? (i := 888) (by decide +kernel), List.mem_of_getElem? (i := 46) (by decide +kernel)⟩
theorem kC_X6_isPier : Cond.code yX6_isPier cX6_isPier 2 (some .boolean) ∈ lw_tbl := List.mem_of_getElem? (i := 908) (by decide +kernel)
theorem kV_X6_isPier : CV yX6_isPier := ⟨List.mem_of_getElem? (i := 907) (by decide +kernel), List.mem_of_getElem? (i := 47) (by decide +kernel)⟩
theorem kC_X6_draws : Cond.code yX6_draws cX6_draws 4 (some .int) ∈ lw_tbl := List.mem_of_getElem? (i := 866) (by decide +kernel)
theorem kS_X6_draws : Cond.static yX6_draws ∈ lw_tbl := List.mem_of_getElem? (i := 865) (by decide +kernel)
theorem kC_X6_force : Cond.code yX6_force cX6_force 3 (some .int) ∈ lw_tbl := List.mem_of_getElem? (i := 863) (by decide +kernel)
theorem kS_X6_force : Cond.static yX6_force ∈ lw_tbl := List.mem_of_getElem? (i := 862) (by decide +kernel)
theorem kC_X6_speed : Cond.code yX6_speed cX6_speed 3 (some .int) ∈ lw_tbl := List.mem_of_getElem? (i := 869) (by decide +kernel)
theorem kS_X6_speed : Cond.static yX6_speed ∈ lw_tbl := List.mem_of_getElem? (i := 868) (by decide +kernel)
theorem kC_X6_met : Cond.code yX6_met cX6_met 6 (some .int) ∈ lw_tbl := List.mem_of_getElem? (i := 875) (by decide +kernel)
theorem kS_X6_met : Cond.static yX6_met ∈ lw_tbl := List.mem_of_getElem? (i := 874) (by decide +kernel)
theorem kC_X6_comes : Cond.code yX6_comes cX6_comes 6 none ∈ lw_tbl := List.mem_of_getElem? (i := 872) (by decide +kernel)
theorem kS_X6_comes : Cond.static yX6_comes ∈ lw_tbl := List.mem_of_getElem? (i := 871) (by decide +kernel)
theorem kC_X6_drops : Cond.code yX6_drops cX6_drops 2 none ∈ lw_tbl := List.mem_of_getElem? (i := 881) (by decide +kernel)
theorem kS_X6_drops : Cond.static yX6_drops ∈ lw_tbl := List.mem_of_getElem? (i := 880) (by decide +kernel)
theorem kC_X6_frays : Cond.code yX6_frays cX6_frays 6 none ∈ lw_tbl := List.mem_of_getElem? (i := 878) (by decide +kernel)
theorem kS_X6_frays : Cond.static yX6_frays ∈ lw_tbl := List.mem_of_getElem? (i := 877) (by decide +kernel)
theorem kC_X6_passes : Cond.code yX6_passes cX6_passes 5 none ∈ lw_tbl := List.mem_of_getElem? (i := 860) (by decide +kernel)
theorem kS_X6_passes : Cond.static yX6_passes ∈ lw_tbl := List.mem_of_getElem? (i := 859) (by decide +kernel)
theorem kC_X6_holding : Cond.code yX6_holding cX6_holding 3 (some .int) ∈ lw_tbl := List.mem_of_getElem? (i := 892) (by decide +kernel)
theorem kS_X6_holding : Cond.static yX6_holding ∈ lw_tbl := List.mem_of_getElem? (i := 891) (by decide +kernel)
theorem kC_X6_standing : Cond.code yX6_standing cX6_standing 3 (some .int) ∈ lw_tbl := List.mem_of_getElem? (i := 931) (by decide +kernel)
theorem kS_X6_standing : Cond.static yX6_standing ∈ lw_tbl := List.mem_of_getElem? (i := 930) (by decide +kernel)
theorem kC_X6_notes : Cond.code yX6_notes cX6_notes 2 none ∈ lw_tbl := List.mem_of_getElem? (i := 857) (by decide +kernel)
theorem kV_X6_notes : CV yX6_notes := ⟨List.mem_of_getElem? (i := 856) (by decide +kernel), List.mem_of_getElem? (i := 45) (by decide +kernel)⟩
theorem kC_X6_hours : Cond.code yX6_hours cX6_hours 3 (some .int) ∈ lw_tbl := List.mem_of_getElem? (i := 848) (by decide +kernel)
theorem kV_X6_hours : CV yX6_hours := ⟨List.mem_of_getElem? (i := 846) (by decide +kernel), List.mem_of_getElem? (i := 847) (by decide +kernel)⟩
theorem kC_X6_mend : Cond.code yX6_mend cX6_mend 3 (some .int) ∈ lw_tbl := List.mem_of_getElem? (i := 885) (by decide +kernel)
theorem kV_X6_mend : CV yX6_mend := ⟨List.mem_of_getElem? (i := 883) (by decide +kernel), List.mem_of_getElem? (i := 884) (by decide +kernel)⟩
theorem kC_X6_loose : Cond.code yX6_loose cX6_loose 2 (some .int) ∈ lw_tbl := List.mem_of_getElem? (i := 896) (by decide +kernel)
theorem kV_X6_loose : CV yX6_loose := ⟨List.mem_of_getElem? (i := 894) (by decide +kernel), List.mem_of_getElem? (i := 895) (by decide +kernel)⟩
theorem kC_X6_pull : Cond.code yX6_pull cX6_pull 4 (some .int) ∈ lw_tbl := List.mem_of_getElem? (i := 900) (by decide +kernel)
theorem kV_X6_pull : CV yX6_pull := ⟨List.mem_of_getElem? (i := 898) (by decide +kernel), List.mem_of_getElem? (i := 899) (by decide +kernel)⟩
theorem kC_X6_clear : Cond.code yX6_clear cX6_clear 3 (some .int) ∈ lw_tbl := List.mem_of_getElem? (i := 904) (by decide +kernel)
theorem kV_X6_clear : CV yX6_clear := ⟨List.mem_of_getElem? (i := 902) (by decide +kernel), List.mem_of_getElem? (i := 903) (by decide +kernel)⟩
theorem kC_X6_undo : Cond.code yX6_undo cX6_undo 1 (some .int) ∈ lw_tbl := List.mem_of_getElem? (i := 912) (by decide +kernel)
theorem kV_X6_undo : CV yX6_undo := ⟨List.mem_of_getElem? (i := 910) (by decide +kernel), List.mem_of_getElem? (i := 911) (by decide +kernel)⟩
theorem kC_X6_tug : Cond.code yX6_tug cX6_tug 3 (some .int) ∈ lw_tbl := List.mem_of_getElem? (i := 916) (by decide +kernel)
theorem kV_X6_tug : CV yX6_tug := ⟨List.mem_of_getElem? (i := 914) (by decide +kernel), List.mem_of_getElem? (i := 915) (by decide +kernel)⟩
theorem kC_X6_pier : Cond.code yX6_pier cX6_pier 3 (some .int) ∈ lw_tbl := List.mem_of_getElem? (i := 920) (by decide +kernel)
theorem kV_X6_pier : CV yX6_pier := ⟨List.mem_of_getElem? (i := 918) (by decide +kernel), List.mem_of_getElem? (i := 919) (by decide +kernel)⟩
theorem kC_X6_goesOn : Cond.code yX6_goesOn cX6_goesOn 3 none ∈ lw_tbl := List.mem_of_getElem? (i := 928) (by decide +kernel)
theorem kV_X6_goesOn : CV yX6_goesOn := ⟨List.mem_of_getElem? (i := 927) (by decide +kernel), List.mem_of_getElem? (i := 48) (by decide +kernel)⟩
theorem kC_X6_later : Cond.code yX6_later cX6_later 3 (some .int) ∈ lw_tbl := List.mem_of_getElem? (i := 924) (by decide +kernel)
theorem kV_X6_later : CV yX6_later := ⟨List.mem_of_getElem? (i := 922) (by decide +kernel), List.mem_of_getElem? (i := 923) (by decide +kernel)⟩
theorem kC_X6_arrives : Cond.code yX6_arrives cX6_arrives 2 (some .int) ∈ lw_tbl := List.mem_of_getElem? (i := 935) (by decide +kernel)
theorem kV_X6_arrives : CV yX6_arrives := ⟨List.mem_of_getElem? (i := 933) (by decide +kernel), List.mem_of_getElem? (i := 934) (by decide +kernel)⟩
theorem kC_X6_parts : Cond.code yX6_parts cX6_parts 3 (some .int) ∈ lw_tbl := List.mem_of_getElem? (i := 939) (by decide +kernel)
theorem kV_X6_parts : CV yX6_parts := ⟨List.mem_of_getElem? (i := 937) (by decide +kernel), List.mem_of_getElem? (i := 938) (by decide +kernel)⟩
theorem kC_X6_isNear : Cond.code yX6_isNear cX6_isNear 1 (some .boolean) ∈ lw_tbl := List.mem_of_getElem? (i := 946) (by decide +kernel)
theorem kS_X6_isNear : Cond.static yX6_isNear ∈ lw_tbl := List.mem_of_getElem? (i := 945) (by decide +kernel)
theorem kC_X6_crew : Cond.code yX6_crew cX6_crew 8 (some .int) ∈ lw_tbl := List.mem_of_getElem? (i := 943) (by decide +kernel)
theorem kV_X6_crew : CV yX6_crew := ⟨List.mem_of_getElem? (i := 941) (by decide +kernel), List.mem_of_getElem? (i := 942) (by decide +kernel)⟩
theorem kC_X6_cleared : Cond.code yX6_cleared cX6_cleared 8 (some .int) ∈ lw_tbl := List.mem_of_getElem? (i := 956) (by decide +kernel)
theorem kV_X6_cleared : CV yX6_cleared := ⟨List.mem_of_getElem? (i := 954) (by decide +kernel), List.mem_of_getElem? (i := 955) (by decide +kernel)⟩
theorem kC_X6_least : Cond.code yX6_least cX6_least 4 (some .int) ∈ lw_tbl := List.mem_of_getElem? (i := 960) (by decide +kernel)
theorem kV_X6_least : CV yX6_least := ⟨List.mem_of_getElem? (i := 958) (by decide +kernel), List.mem_of_getElem? (i := 959) (by decide +kernel)⟩
theorem kC_X6_share : Cond.code yX6_share cX6_share 8 (some .int) ∈ lw_tbl := List.mem_of_getElem? (i := 964) (by decide +kernel)
theorem kV_X6_share : CV yX6_share := ⟨List.mem_of_getElem? (i := 962) (by decide +kernel), List.mem_of_getElem? (i := 963) (by decide +kernel)⟩
theorem kC_X6_isSeen : Cond.code yX6_isSeen cX6_isSeen 7 (some .boolean) ∈ lw_tbl := List.mem_of_getElem? (i := 972) (by decide +kernel)
theorem kV_X6_isSeen : CV yX6_isSeen := ⟨List.mem_of_getElem? (i := 971) (by decide +kernel), List.mem_of_getElem? (i := 49) (by decide +kernel)⟩
theorem kC_X6_fits : Cond.code yX6_fits cX6_fits 12 (some .int) ∈ lw_tbl := List.mem_of_getElem? (i := 968) (by decide +kernel)
theorem kV_X6_fits : CV yX6_fits := ⟨List.mem_of_getElem? (i := 966) (by decide +kernel), List.mem_of_getElem? (i := 967) (by decide +kernel)⟩
theorem kC_X6_chance : Cond.code yX6_chance cX6_chance 9 (some .int) ∈ lw_tbl := List.mem_of_getElem? (i := 976) (by decide +kernel)
theorem kV_X6_chance : CV yX6_chance := ⟨List.mem_of_getElem? (i := 974) (by decide +kernel), List.mem_of_getElem? (i := 975) (by decide +kernel)⟩
theorem kC_X6_drawn : Cond.code yX6_drawn cX6_drawn 9 (some .int) ∈ lw_tbl := List.mem_of_getElem? (i := 980) (by decide +kernel)
theorem kV_X6_drawn : CV yX6_drawn := ⟨List.mem_of_getElem? (i := 978) (by decide +kernel), List.mem_of_getElem? (i := 979) (by decide +kernel)⟩
theorem kC_X6_image : Cond.code yX6_image cX6_image 2 (some .int) ∈ lw_tbl := List.mem_of_getElem? (i := 989) (by decide +kernel)
theorem kV_X6_image : CV yX6_image := ⟨List.mem_of_getElem? (i := 987) (by decide +kernel), List.mem_of_getElem? (i := 988) (by decide +kernel)⟩
theorem kC_X6_restore : Cond.code yX6_restore cX6_restore 2 (some .int) ∈ lw_tbl := List.mem_of_getElem? (i := 993) (by decide +kernel)
theorem kV_X6_restore : CV yX6_restore := ⟨List.mem_of_getElem? (i := 991) (by decide +kernel), List.mem_of_getElem? (i := 992) (by decide +kernel)⟩
theorem kC_X6_kindIn : Cond.code yX6_kindIn cX6_kindIn 2 (some .int) ∈ lw_tbl := List.mem_of_getElem? (i := 1001) (by decide +kernel)
theorem kV_X6_kindIn : CV yX6_kindIn := ⟨List.mem_of_getElem? (i := 1000) (by decide +kernel), List.mem_of_getElem? (i := 50) (by decide +kernel)⟩
theorem kC_X6_kind : Cond.code yX6_kind cX6_kind 2 (some .int) ∈ lw_tbl := List.mem_of_getElem? (i := 997) (by decide +kernel)
theorem kV_X6_kind : CV yX6_kind := ⟨List.mem_of_getElem? (i := 995) (by decide +kernel), List.mem_of_getElem? (i := 996) (by decide +kernel)⟩
theorem kC_X6_as : Cond.code yX6_as cX6_as 5 (some .int) ∈ lw_tbl := List.mem_of_getElem? (i := 1005) (by decide +kernel)
theorem kV_X6_as : CV yX6_as := ⟨List.mem_of_getElem? (i := 1003) (by decide +kernel), List.mem_of_getElem? (i := 1004) (by decide +kernel)⟩
theorem kC_X6_begins : Cond.code yX6_begins cX6_begins 2 none ∈ lw_tbl := List.mem_of_getElem? (i := 1017) (by decide +kernel)
theorem kV_X6_begins : CV yX6_begins := ⟨List.mem_of_getElem? (i := 1016) (by decide +kernel), List.mem_of_getElem? (i := 52) (by decide +kernel)⟩
theorem kC_X6_paddlerMark : Cond.code yX6_paddlerMark cX6_paddlerMark 4 (some .int) ∈ lw_tbl := List.mem_of_getElem? (i := 1025) (by decide +kernel)
theorem kV_X6_paddlerMark : CV yX6_paddlerMark := ⟨List.mem_of_getElem? (i := 1024) (by decide +kernel), List.mem_of_getElem? (i := 54) (by decide +kernel)⟩
theorem kC_X6_launchSize : Cond.code yX6_launchSize cX6_launchSize 4 (some .int) ∈ lw_tbl := List.mem_of_getElem? (i := 1013) (by decide +kernel)
theorem kV_X6_launchSize : CV yX6_launchSize := ⟨List.mem_of_getElem? (i := 1012) (by decide +kernel), List.mem_of_getElem? (i := 51) (by decide +kernel)⟩
theorem kC_X6_paddlerSize : Cond.code yX6_paddlerSize cX6_paddlerSize 4 (some .int) ∈ lw_tbl := List.mem_of_getElem? (i := 1021) (by decide +kernel)
theorem kV_X6_paddlerSize : CV yX6_paddlerSize := ⟨List.mem_of_getElem? (i := 1020) (by decide +kernel), List.mem_of_getElem? (i := 53) (by decide +kernel)⟩
theorem kC_X6_launchMark : Cond.code yX6_launchMark cX6_launchMark 2 (some .int) ∈ lw_tbl := List.mem_of_getElem? (i := 1029) (by decide +kernel)
theorem kV_X6_launchMark : CV yX6_launchMark := ⟨List.mem_of_getElem? (i := 1028) (by decide +kernel), List.mem_of_getElem? (i := 55) (by decide +kernel)⟩
theorem kC_X6_ask : Cond.code yX6_ask cX6_ask 4 (some .int) ∈ lw_tbl := List.mem_of_getElem? (i := 1009) (by decide +kernel)
theorem kV_X6_ask : CV yX6_ask := ⟨List.mem_of_getElem? (i := 1007) (by decide +kernel), List.mem_of_getElem? (i := 1008) (by decide +kernel)⟩
theorem kC_X6_trace : Cond.code yX6_trace cX6_trace 2 (some .int) ∈ lw_tbl := List.mem_of_getElem? (i := 1033) (by decide +kernel)
theorem kV_X6_trace : CV yX6_trace := ⟨List.mem_of_getElem? (i := 1031) (by decide +kernel), List.mem_of_getElem? (i := 1032) (by decide +kernel)⟩
theorem kC_X6_count : Cond.code yX6_count cX6_count 4 (some .int) ∈ lw_tbl := List.mem_of_getElem? (i := 1037) (by decide +kernel)
theorem kV_X6_count : CV yX6_count := ⟨List.mem_of_getElem? (i := 1035) (by decide +kernel), List.mem_of_getElem? (i := 1036) (by decide +kernel)⟩
theorem kC_X6_status : Cond.code yX6_status cX6_status 1 (some .int) ∈ lw_tbl := List.mem_of_getElem? (i := 1041) (by decide +kernel)
theorem kV_X6_status : CV yX6_status := ⟨List.mem_of_getElem? (i := 1039) (by decide +kernel), List.mem_of_getElem? (i := 1040) (by decide +kernel)⟩
theorem kC_J6_bitCount_0f7a4 : Cond.code yJ6_bitCount_0f7a4 cJ6_bitCount_0f7a4 1 (some .int) ∈ lw_tbl := List.mem_of_getElem? (i := 530) (by decide +kernel)
theorem kS_J6_bitCount_0f7a4 : Cond.static yJ6_bitCount_0f7a4 ∈ lw_tbl := List.mem_of_getElem? (i := 529) (by decide +kernel)
theorem kB_L_9 : CB RL 9 yX5_init cX5_init 2 none 0 := ⟨List.mem_of_getElem? (i := 69) (by decide +kernel), kC_X5_init, List.mem_of_getElem? (i := 57) (by decide +kernel), by decide +kernel, Nat.le_of_ble_eq_true rfl⟩
theorem kB_X5_15 : CB RX5 15 yX3_init cX3_init 1 none 0 := ⟨List.mem_of_getElem? (i := 78) (by decide +kernel), kC_X3_init, List.mem_of_getElem? (i := 58) (by decide +kernel), by decide +kernel, Nat.le_of_ble_eq_true rfl⟩
theorem kB_X5_18 : CB RX5 18 yX4_init cX4_init 1 none 0 := ⟨List.mem_of_getElem? (i := 97) (by decide +kernel), kC_X4_init, List.mem_of_getElem? (i := 59) (by decide +kernel), by decide +kernel, Nat.le_of_ble_eq_true rfl⟩
theorem kB_X5_25 : CB RX5 25 yX2_init cX2_init 1 none 0 := ⟨List.mem_of_getElem? (i := 122) (by decide +kernel), kC_X2_init, List.mem_of_getElem? (i := 60) (by decide +kernel), by decide +kernel, Nat.le_of_ble_eq_true rfl⟩
theorem kB_X5_32 : CB RX5 32 yX0_init cX0_init 2 none 0 := ⟨List.mem_of_getElem? (i := 190) (by decide +kernel), kC_X0_init, List.mem_of_getElem? (i := 61) (by decide +kernel), by decide +kernel, Nat.le_of_ble_eq_true rfl⟩
theorem kB_X0_17 : CB RX0 17 yX2_init cX2_init 1 none 0 := ⟨List.mem_of_getElem? (i := 196) (by decide +kernel), kC_X2_init, List.mem_of_getElem? (i := 60) (by decide +kernel), by decide +kernel, Nat.le_of_ble_eq_true rfl⟩
theorem kB_X5_46 : CB RX5 46 yX1_init cX1_init 1 none 0 := ⟨List.mem_of_getElem? (i := 210) (by decide +kernel), kC_X1_init, List.mem_of_getElem? (i := 62) (by decide +kernel), by decide +kernel, Nat.le_of_ble_eq_true rfl⟩
theorem kB_L_13 : CB RL 13 yX5_row cX5_row 4 (some .int) 3 := ⟨List.mem_of_getElem? (i := 248) (by decide +kernel), kC_X5_row, List.mem_of_getElem? (i := 57) (by decide +kernel), by decide +kernel, Nat.le_of_ble_eq_true rfl⟩
theorem kB_X5_51 : CB RX5 51 yX5_noRow cX5_noRow 1 (some .boolean) 1 := ⟨List.mem_of_getElem? (i := 252) (by decide +kernel), kC_X5_noRow, List.mem_of_getElem? (i := 57) (by decide +kernel), by decide +kernel, Nat.le_of_ble_eq_true rfl⟩
theorem kB_X5_56 : CB RX5 56 yX5_found cX5_found 2 (some .int) 1 := ⟨List.mem_of_getElem? (i := 256) (by decide +kernel), kC_X5_found, List.mem_of_getElem? (i := 57) (by decide +kernel), by decide +kernel, Nat.le_of_ble_eq_true rfl⟩
theorem kB_X5_60 : CB RX5 60 yX3_begin cX3_begin 4 none 2 := ⟨List.mem_of_getElem? (i := 261) (by decide +kernel), kC_X3_begin, List.mem_of_getElem? (i := 58) (by decide +kernel), by decide +kernel, Nat.le_of_ble_eq_true rfl⟩
theorem kB_X5_64 : CB RX5 64 yX5_well cX5_well 2 (some .int) 1 := ⟨List.mem_of_getElem? (i := 265) (by decide +kernel), kC_X5_well, List.mem_of_getElem? (i := 57) (by decide +kernel), by decide +kernel, Nat.le_of_ble_eq_true rfl⟩
theorem kB_L_18 : CB RL 18 yX5_set cX5_set 5 (some .int) 3 := ⟨List.mem_of_getElem? (i := 269) (by decide +kernel), kC_X5_set, List.mem_of_getElem? (i := 57) (by decide +kernel), by decide +kernel, Nat.le_of_ble_eq_true rfl⟩
theorem kB_X5_67 : CB RX5 67 yX3_missing cX3_missing 1 (some .boolean) 0 := ⟨List.mem_of_getElem? (i := 273) (by decide +kernel), kC_X3_missing, List.mem_of_getElem? (i := 58) (by decide +kernel), by decide +kernel, Nat.le_of_ble_eq_true rfl⟩
theorem kB_X5_71 : CB RX5 71 yX3_hasRun cX3_hasRun 3 (some .boolean) 2 := ⟨List.mem_of_getElem? (i := 277) (by decide +kernel), kC_X3_hasRun, List.mem_of_getElem? (i := 58) (by decide +kernel), by decide +kernel, Nat.le_of_ble_eq_true rfl⟩
theorem kB_X5_79 : CB RX5 79 yX3_narrowed cX3_narrowed 2 (some .int) 1 := ⟨List.mem_of_getElem? (i := 281) (by decide +kernel), kC_X3_narrowed, List.mem_of_getElem? (i := 58) (by decide +kernel), by decide +kernel, Nat.le_of_ble_eq_true rfl⟩
theorem kB_L_22 : CB RL 22 yX5_copy cX5_copy 8 (some .int) 5 := ⟨List.mem_of_getElem? (i := 285) (by decide +kernel), kC_X5_copy, List.mem_of_getElem? (i := 57) (by decide +kernel), by decide +kernel, Nat.le_of_ble_eq_true rfl⟩
theorem kB_L_27 : CB RL 27 yX5_drop cX5_drop 2 (some .int) 1 := ⟨List.mem_of_getElem? (i := 292) (by decide +kernel), kC_X5_drop, List.mem_of_getElem? (i := 57) (by decide +kernel), by decide +kernel, Nat.le_of_ble_eq_true rfl⟩
theorem kB_X5_92 : CB RX5 92 yX3_end cX3_end 2 (some .int) 0 := ⟨List.mem_of_getElem? (i := 296) (by decide +kernel), kC_X3_end, List.mem_of_getElem? (i := 58) (by decide +kernel), by decide +kernel, Nat.le_of_ble_eq_true rfl⟩
theorem kB_L_32 : CB RL 32 yX5_feed cX5_feed 2 (some .int) 1 := ⟨List.mem_of_getElem? (i := 300) (by decide +kernel), kC_X5_feed, List.mem_of_getElem? (i := 57) (by decide +kernel), by decide +kernel, Nat.le_of_ble_eq_true rfl⟩
theorem kB_X5_100 : CB RX5 100 yX4_append cX4_append 2 (some .int) 1 := ⟨List.mem_of_getElem? (i := 305) (by decide +kernel), kC_X4_append, List.mem_of_getElem? (i := 59) (by decide +kernel), by decide +kernel, Nat.le_of_ble_eq_true rfl⟩
theorem kB_L_36 : CB RL 36 yX5_estuary cX5_estuary 2 (some .int) 0 := ⟨List.mem_of_getElem? (i := 309) (by decide +kernel), kC_X5_estuary, List.mem_of_getElem? (i := 57) (by decide +kernel), by decide +kernel, Nat.le_of_ble_eq_true rfl⟩
theorem kB_X5_103 : CB RX5 103 yX4_readInto cX4_readInto 3 (some .boolean) 1 := ⟨List.mem_of_getElem? (i := 313) (by decide +kernel), kC_X4_readInto, List.mem_of_getElem? (i := 59) (by decide +kernel), by decide +kernel, Nat.le_of_ble_eq_true rfl⟩
theorem kB_X4_22 : CB RX4 22 yX2_empty cX2_empty 2 none 0 := ⟨List.mem_of_getElem? (i := 317) (by decide +kernel), kC_X2_empty, List.mem_of_getElem? (i := 60) (by decide +kernel), by decide +kernel, Nat.le_of_ble_eq_true rfl⟩
theorem kB_X4_27 : CB RX4 27 yX4_readLaw cX4_readLaw 2 (some .boolean) 1 := ⟨List.mem_of_getElem? (i := 321) (by decide +kernel), kC_X4_readLaw, List.mem_of_getElem? (i := 59) (by decide +kernel), by decide +kernel, Nat.le_of_ble_eq_true rfl⟩
theorem kB_X4_41 : CB RX4 41 yX4_readSign cX4_readSign 2 (some .boolean) 1 := ⟨List.mem_of_getElem? (i := 325) (by decide +kernel), kC_X4_readSign, List.mem_of_getElem? (i := 59) (by decide +kernel), by decide +kernel, Nat.le_of_ble_eq_true rfl⟩
theorem kB_X4_84 : CB RX4 84 yX4_here cX4_here 1 (some .int) 0 := ⟨List.mem_of_getElem? (i := 329) (by decide +kernel), kC_X4_here, List.mem_of_getElem? (i := 59) (by decide +kernel), by decide +kernel, Nat.le_of_ble_eq_true rfl⟩
theorem kB_X4_99 : CB RX4 99 yX4_byteAt cX4_byteAt 2 (some .int) 1 := ⟨List.mem_of_getElem? (i := 333) (by decide +kernel), kC_X4_byteAt, List.mem_of_getElem? (i := 59) (by decide +kernel), by decide +kernel, Nat.le_of_ble_eq_true rfl⟩
theorem kB_X4_62 : CB RX4 62 yX4_faulty cX4_faulty 2 (some .boolean) 1 := ⟨List.mem_of_getElem? (i := 337) (by decide +kernel), kC_X4_faulty, List.mem_of_getElem? (i := 59) (by decide +kernel), by decide +kernel, Nat.le_of_ble_eq_true rfl⟩
theorem kB_X4_45 : CB RX4 45 yX4_readNumber cX4_readNumber 6 (some .boolean) 2 := ⟨List.mem_of_getElem? (i := 341) (by decide +kernel), kC_X4_readNumber, List.mem_of_getElem? (i := 59) (by decide +kernel), by decide +kernel, Nat.le_of_ble_eq_true rfl⟩
theorem kB_X4_103 : CB RX4 103 yX4_isFigure cX4_isFigure 1 (some .boolean) 1 := ⟨List.mem_of_getElem? (i := 345) (by decide +kernel), kC_X4_isFigure, List.mem_of_getElem? (i := 59) (by decide +kernel), by decide +kernel, Nat.le_of_ble_eq_true rfl⟩
theorem kB_X4_31 : CB RX4 31 yX4_readTugs cX4_readTugs 3 (some .boolean) 1 := ⟨List.mem_of_getElem? (i := 348) (by decide +kernel), kC_X4_readTugs, List.mem_of_getElem? (i := 59) (by decide +kernel), by decide +kernel, Nat.le_of_ble_eq_true rfl⟩
theorem kB_X4_58 : CB RX4 58 yX4_sortHere cX4_sortHere 1 (some .int) 0 := ⟨List.mem_of_getElem? (i := 352) (by decide +kernel), kC_X4_sortHere, List.mem_of_getElem? (i := 59) (by decide +kernel), by decide +kernel, Nat.le_of_ble_eq_true rfl⟩
theorem kB_X4_65 : CB RX4 65 yX4_readTug cX4_readTug 3 (some .boolean) 2 := ⟨List.mem_of_getElem? (i := 356) (by decide +kernel), kC_X4_readTug, List.mem_of_getElem? (i := 59) (by decide +kernel), by decide +kernel, Nat.le_of_ble_eq_true rfl⟩
theorem kB_X4_34 : CB RX4 34 yX4_readPiers cX4_readPiers 3 (some .boolean) 1 := ⟨List.mem_of_getElem? (i := 360) (by decide +kernel), kC_X4_readPiers, List.mem_of_getElem? (i := 59) (by decide +kernel), by decide +kernel, Nat.le_of_ble_eq_true rfl⟩
theorem kB_X4_87 : CB RX4 87 yX4_readPier cX4_readPier 3 (some .boolean) 2 := ⟨List.mem_of_getElem? (i := 364) (by decide +kernel), kC_X4_readPier, List.mem_of_getElem? (i := 59) (by decide +kernel), by decide +kernel, Nat.le_of_ble_eq_true rfl⟩
theorem kB_X4_37 : CB RX4 37 yX4_readEnd cX4_readEnd 1 (some .boolean) 0 := ⟨List.mem_of_getElem? (i := 368) (by decide +kernel), kC_X4_readEnd, List.mem_of_getElem? (i := 59) (by decide +kernel), by decide +kernel, Nat.le_of_ble_eq_true rfl⟩
theorem kB_X5_111 : CB RX5 111 yX2_take cX2_take 2 none 1 := ⟨List.mem_of_getElem? (i := 373) (by decide +kernel), kC_X2_take, List.mem_of_getElem? (i := 60) (by decide +kernel), by decide +kernel, Nat.le_of_ble_eq_true rfl⟩
theorem kB_X5_115 : CB RX5 115 yX0_forget cX0_forget 1 none 0 := ⟨List.mem_of_getElem? (i := 378) (by decide +kernel), kC_X0_forget, List.mem_of_getElem? (i := 61) (by decide +kernel), by decide +kernel, Nat.le_of_ble_eq_true rfl⟩
theorem kB_L_41 : CB RL 41 yX5_fault cX5_fault 1 (some .int) 0 := ⟨List.mem_of_getElem? (i := 382) (by decide +kernel), kC_X5_fault, List.mem_of_getElem? (i := 57) (by decide +kernel), by decide +kernel, Nat.le_of_ble_eq_true rfl⟩
theorem kB_L_45 : CB RL 45 yX5_hours cX5_hours 3 (some .int) 1 := ⟨List.mem_of_getElem? (i := 386) (by decide +kernel), kC_X5_hours, List.mem_of_getElem? (i := 57) (by decide +kernel), by decide +kernel, Nat.le_of_ble_eq_true rfl⟩
theorem kB_X5_124 : CB RX5 124 yX5_noEstuary cX5_noEstuary 1 (some .boolean) 0 := ⟨List.mem_of_getElem? (i := 390) (by decide +kernel), kC_X5_noEstuary, List.mem_of_getElem? (i := 57) (by decide +kernel), by decide +kernel, Nat.le_of_ble_eq_true rfl⟩
theorem kB_X5_131 : CB RX5 131 yX0_keep cX0_keep 2 none 1 := ⟨List.mem_of_getElem? (i := 395) (by decide +kernel), kC_X0_keep, List.mem_of_getElem? (i := 61) (by decide +kernel), by decide +kernel, Nat.le_of_ble_eq_true rfl⟩
theorem kB_X0_25 : CB RX0 25 yX2_take cX2_take 2 none 1 := ⟨List.mem_of_getElem? (i := 399) (by decide +kernel), kC_X2_take, List.mem_of_getElem? (i := 60) (by decide +kernel), by decide +kernel, Nat.le_of_ble_eq_true rfl⟩
theorem kB_X5_134 : CB RX5 134 yX2_passHour cX2_passHour 5 none 1 := ⟨List.mem_of_getElem? (i := 400) (by decide +kernel), kC_X2_passHour, List.mem_of_getElem? (i := 60) (by decide +kernel), by decide +kernel, Nat.le_of_ble_eq_true rfl⟩
theorem kB_X2_65 : CB RX2 65 yX2_drawOf cX2_drawOf 2 (some .int) 1 := ⟨List.mem_of_getElem? (i := 404) (by decide +kernel), kC_X2_drawOf, List.mem_of_getElem? (i := 60) (by decide +kernel), by decide +kernel, Nat.le_of_ble_eq_true rfl⟩
theorem kB_X2_55 : CB RX2 55 yX2_holds cX2_holds 2 (some .boolean) 1 := ⟨List.mem_of_getElem? (i := 408) (by decide +kernel), kC_X2_holds, List.mem_of_getElem? (i := 60) (by decide +kernel), by decide +kernel, Nat.le_of_ble_eq_true rfl⟩
theorem kB_X2_69 : CB RX2 69 yX2_ropeIsThrough cX2_ropeIsThrough 2 (some .boolean) 1 := ⟨List.mem_of_getElem? (i := 415) (by decide +kernel), kC_X2_ropeIsThrough, List.mem_of_getElem? (i := 60) (by decide +kernel), by decide +kernel, Nat.le_of_ble_eq_true rfl⟩
theorem kB_X2_72 : CB RX2 72 yX2_letGo cX2_letGo 2 none 1 := ⟨List.mem_of_getElem? (i := 419) (by decide +kernel), kC_X2_letGo, List.mem_of_getElem? (i := 60) (by decide +kernel), by decide +kernel, Nat.le_of_ble_eq_true rfl⟩
theorem kB_X2_76 : CB RX2 76 yX2_speedBy cX2_speedBy 2 (some .int) 1 := ⟨List.mem_of_getElem? (i := 423) (by decide +kernel), kC_X2_speedBy, List.mem_of_getElem? (i := 60) (by decide +kernel), by decide +kernel, Nat.le_of_ble_eq_true rfl⟩
theorem kB_X2_79 : CB RX2 79 yX2_partBoys cX2_partBoys 2 none 0 := ⟨List.mem_of_getElem? (i := 427) (by decide +kernel), kC_X2_partBoys, List.mem_of_getElem? (i := 60) (by decide +kernel), by decide +kernel, Nat.le_of_ble_eq_true rfl⟩
theorem kB_X2_82 : CB RX2 82 yX2_comeNearer cX2_comeNearer 5 none 1 := ⟨List.mem_of_getElem? (i := 431) (by decide +kernel), kC_X2_comeNearer, List.mem_of_getElem? (i := 60) (by decide +kernel), by decide +kernel, Nat.le_of_ble_eq_true rfl⟩
theorem kB_X2_85 : CB RX2 85 yX2_pierOnTheWay cX2_pierOnTheWay 5 (some .int) 1 := ⟨List.mem_of_getElem? (i := 435) (by decide +kernel), kC_X2_pierOnTheWay, List.mem_of_getElem? (i := 60) (by decide +kernel), by decide +kernel, Nat.le_of_ble_eq_true rfl⟩
theorem kB_L_49 : CB RL 49 yX5_mend cX5_mend 2 (some .int) 1 := ⟨List.mem_of_getElem? (i := 442) (by decide +kernel), kC_X5_mend, List.mem_of_getElem? (i := 57) (by decide +kernel), by decide +kernel, Nat.le_of_ble_eq_true rfl⟩
theorem kB_X5_141 : CB RX5 141 yX5_noTug cX5_noTug 2 (some .boolean) 1 := ⟨List.mem_of_getElem? (i := 446) (by decide +kernel), kC_X5_noTug, List.mem_of_getElem? (i := 57) (by decide +kernel), by decide +kernel, Nat.le_of_ble_eq_true rfl⟩
theorem kB_X5_144 : CB RX5 144 yX2_holds cX2_holds 2 (some .boolean) 1 := ⟨List.mem_of_getElem? (i := 450) (by decide +kernel), kC_X2_holds, List.mem_of_getElem? (i := 60) (by decide +kernel), by decide +kernel, Nat.le_of_ble_eq_true rfl⟩
theorem kB_X5_150 : CB RX5 150 yX2_mendRope cX2_mendRope 2 none 1 := ⟨List.mem_of_getElem? (i := 451) (by decide +kernel), kC_X2_mendRope, List.mem_of_getElem? (i := 60) (by decide +kernel), by decide +kernel, Nat.le_of_ble_eq_true rfl⟩
theorem kB_L_53 : CB RL 53 yX5_loose cX5_loose 2 (some .int) 1 := ⟨List.mem_of_getElem? (i := 455) (by decide +kernel), kC_X5_loose, List.mem_of_getElem? (i := 57) (by decide +kernel), by decide +kernel, Nat.le_of_ble_eq_true rfl⟩
theorem kB_X5_157 : CB RX5 157 yX2_letGo cX2_letGo 2 none 1 := ⟨List.mem_of_getElem? (i := 459) (by decide +kernel), kC_X2_letGo, List.mem_of_getElem? (i := 60) (by decide +kernel), by decide +kernel, Nat.le_of_ble_eq_true rfl⟩
theorem kB_L_57 : CB RL 57 yX5_pull cX5_pull 4 (some .int) 2 := ⟨List.mem_of_getElem? (i := 460) (by decide +kernel), kC_X5_pull, List.mem_of_getElem? (i := 57) (by decide +kernel), by decide +kernel, Nat.le_of_ble_eq_true rfl⟩
theorem kB_L_62 : CB RL 62 yX5_clear cX5_clear 3 (some .int) 1 := ⟨List.mem_of_getElem? (i := 464) (by decide +kernel), kC_X5_clear, List.mem_of_getElem? (i := 57) (by decide +kernel), by decide +kernel, Nat.le_of_ble_eq_true rfl⟩
theorem kB_X5_163 : CB RX5 163 yX5_noPier cX5_noPier 2 (some .boolean) 1 := ⟨List.mem_of_getElem? (i := 468) (by decide +kernel), kC_X5_noPier, List.mem_of_getElem? (i := 57) (by decide +kernel), by decide +kernel, Nat.le_of_ble_eq_true rfl⟩
theorem kB_L_66 : CB RL 66 yX5_undo cX5_undo 1 (some .int) 0 := ⟨List.mem_of_getElem? (i := 472) (by decide +kernel), kC_X5_undo, List.mem_of_getElem? (i := 57) (by decide +kernel), by decide +kernel, Nat.le_of_ble_eq_true rfl⟩
theorem kB_X5_172 : CB RX5 172 yX0_takeBack cX0_takeBack 2 (some .int) 1 := ⟨List.mem_of_getElem? (i := 476) (by decide +kernel), kC_X0_takeBack, List.mem_of_getElem? (i := 61) (by decide +kernel), by decide +kernel, Nat.le_of_ble_eq_true rfl⟩
theorem kB_L_70 : CB RL 70 yX5_tug cX5_tug 3 (some .int) 2 := ⟨List.mem_of_getElem? (i := 480) (by decide +kernel), kC_X5_tug, List.mem_of_getElem? (i := 57) (by decide +kernel), by decide +kernel, Nat.le_of_ble_eq_true rfl⟩
theorem kB_X5_179 : CB RX5 179 yX2_drawOf cX2_drawOf 2 (some .int) 1 := ⟨List.mem_of_getElem? (i := 484) (by decide +kernel), kC_X2_drawOf, List.mem_of_getElem? (i := 60) (by decide +kernel), by decide +kernel, Nat.le_of_ble_eq_true rfl⟩
theorem kB_L_74 : CB RL 74 yX5_pier cX5_pier 3 (some .int) 2 := ⟨List.mem_of_getElem? (i := 485) (by decide +kernel), kC_X5_pier, List.mem_of_getElem? (i := 57) (by decide +kernel), by decide +kernel, Nat.le_of_ble_eq_true rfl⟩
theorem kB_L_78 : CB RL 78 yX5_later cX5_later 5 (some .int) 2 := ⟨List.mem_of_getElem? (i := 489) (by decide +kernel), kC_X5_later, List.mem_of_getElem? (i := 57) (by decide +kernel), by decide +kernel, Nat.le_of_ble_eq_true rfl⟩
theorem kB_X5_185 : CB RX5 185 yX5_fromNow cX5_fromNow 1 (some (.object "TugLines$Estuary")) 0 := ⟨List.mem_of_getElem? (i := 493) (by decide +kernel), kC_X5_fromNow, List.mem_of_getElem? (i := 57) (by decide +kernel), by decide +kernel, Nat.le_of_ble_eq_true rfl⟩
theorem kB_X5_189 : CB RX5 189 yX2_force cX2_force 3 (some .int) 0 := ⟨List.mem_of_getElem? (i := 497) (by decide +kernel), kC_X2_force, List.mem_of_getElem? (i := 60) (by decide +kernel), by decide +kernel, Nat.le_of_ble_eq_true rfl⟩
theorem kB_X5_192 : CB RX5 192 yX2_speedBy cX2_speedBy 2 (some .int) 1 := ⟨List.mem_of_getElem? (i := 501) (by decide +kernel), kC_X2_speedBy, List.mem_of_getElem? (i := 60) (by decide +kernel), by decide +kernel, Nat.le_of_ble_eq_true rfl⟩
theorem kB_X5_195 : CB RX5 195 yX2_standing cX2_standing 3 (some .int) 0 := ⟨List.mem_of_getElem? (i := 502) (by decide +kernel), kC_X2_standing, List.mem_of_getElem? (i := 60) (by decide +kernel), by decide +kernel, Nat.le_of_ble_eq_true rfl⟩
theorem kB_L_82 : CB RL 82 yX5_arrives cX5_arrives 1 (some .int) 0 := ⟨List.mem_of_getElem? (i := 506) (by decide +kernel), kC_X5_arrives, List.mem_of_getElem? (i := 57) (by decide +kernel), by decide +kernel, Nat.le_of_ble_eq_true rfl⟩
theorem kB_X5_198 : CB RX5 198 yX5_hoursUntilIn cX5_hoursUntilIn 3 (some .int) 2 := ⟨List.mem_of_getElem? (i := 510) (by decide +kernel), kC_X5_hoursUntilIn, List.mem_of_getElem? (i := 57) (by decide +kernel), by decide +kernel, Nat.le_of_ble_eq_true rfl⟩
theorem kB_L_86 : CB RL 86 yX5_parts cX5_parts 4 (some .int) 1 := ⟨List.mem_of_getElem? (i := 514) (by decide +kernel), kC_X5_parts, List.mem_of_getElem? (i := 57) (by decide +kernel), by decide +kernel, Nat.le_of_ble_eq_true rfl⟩
theorem kB_L_90 : CB RL 90 yX5_crew cX5_crew 5 (some .int) 2 := ⟨List.mem_of_getElem? (i := 518) (by decide +kernel), kC_X5_crew, List.mem_of_getElem? (i := 57) (by decide +kernel), by decide +kernel, Nat.le_of_ble_eq_true rfl⟩
theorem kB_X5_203 : CB RX5 203 yX5_noHalf cX5_noHalf 1 (some .boolean) 1 := ⟨List.mem_of_getElem? (i := 522) (by decide +kernel), kC_X5_noHalf, List.mem_of_getElem? (i := 57) (by decide +kernel), by decide +kernel, Nat.le_of_ble_eq_true rfl⟩
theorem kB_X5_206 : CB RX5 206 yX5_fewer cX5_fewer 2 (some .boolean) 2 := ⟨List.mem_of_getElem? (i := 525) (by decide +kernel), kC_X5_fewer, List.mem_of_getElem? (i := 57) (by decide +kernel), by decide +kernel, Nat.le_of_ble_eq_true rfl⟩
theorem kB_X5_248 : CB RX5 248 yJ6_bitCount_0f7a4 cJ6_bitCount_0f7a4 1 (some .int) 1 := ⟨List.mem_of_getElem? (i := 528) (by decide +kernel), kC_J6_bitCount_0f7a4, List.mem_of_getElem? (i := 66) (by decide +kernel), by decide +kernel, Nat.le_of_ble_eq_true rfl⟩
theorem kB_X5_209 : CB RX5 209 yX5_inByCrew cX5_inByCrew 5 (some .boolean) 2 := ⟨List.mem_of_getElem? (i := 534) (by decide +kernel), kC_X5_inByCrew, List.mem_of_getElem? (i := 57) (by decide +kernel), by decide +kernel, Nat.le_of_ble_eq_true rfl⟩
theorem kB_X5_212 : CB RX5 212 yX5_sizeOrSet cX5_sizeOrSet 2 (some .int) 2 := ⟨List.mem_of_getElem? (i := 538) (by decide +kernel), kC_X5_sizeOrSet, List.mem_of_getElem? (i := 57) (by decide +kernel), by decide +kernel, Nat.le_of_ble_eq_true rfl⟩
theorem kB_L_94 : CB RL 94 yX5_cleared cX5_cleared 6 (some .int) 2 := ⟨List.mem_of_getElem? (i := 541) (by decide +kernel), kC_X5_cleared, List.mem_of_getElem? (i := 57) (by decide +kernel), by decide +kernel, Nat.le_of_ble_eq_true rfl⟩
theorem kB_X5_216 : CB RX5 216 yX5_inByCleared cX5_inByCleared 5 (some .boolean) 2 := ⟨List.mem_of_getElem? (i := 545) (by decide +kernel), kC_X5_inByCleared, List.mem_of_getElem? (i := 57) (by decide +kernel), by decide +kernel, Nat.le_of_ble_eq_true rfl⟩
theorem kB_L_98 : CB RL 98 yX5_least cX5_least 5 (some .int) 2 := ⟨List.mem_of_getElem? (i := 549) (by decide +kernel), kC_X5_least, List.mem_of_getElem? (i := 57) (by decide +kernel), by decide +kernel, Nat.le_of_ble_eq_true rfl⟩
theorem kB_L_102 : CB RL 102 yX5_share cX5_share 7 (some .int) 2 := ⟨List.mem_of_getElem? (i := 553) (by decide +kernel), kC_X5_share, List.mem_of_getElem? (i := 57) (by decide +kernel), by decide +kernel, Nat.le_of_ble_eq_true rfl⟩
theorem kB_X5_219 : CB RX5 219 yX2_pullOfHolders cX2_pullOfHolders 3 (some .int) 0 := ⟨List.mem_of_getElem? (i := 557) (by decide +kernel), kC_X2_pullOfHolders, List.mem_of_getElem? (i := 60) (by decide +kernel), by decide +kernel, Nat.le_of_ble_eq_true rfl⟩
theorem kB_L_106 : CB RL 106 yX5_fits cX5_fits 11 (some .int) 5 := ⟨List.mem_of_getElem? (i := 561) (by decide +kernel), kC_X5_fits, List.mem_of_getElem? (i := 57) (by decide +kernel), by decide +kernel, Nat.le_of_ble_eq_true rfl⟩
theorem kB_X5_225 : CB RX5 225 yX5_isSoWith cX5_isSoWith 9 (some .boolean) 6 := ⟨List.mem_of_getElem? (i := 567) (by decide +kernel), kC_X5_isSoWith, List.mem_of_getElem? (i := 57) (by decide +kernel), by decide +kernel, Nat.le_of_ble_eq_true rfl⟩
theorem kB_X5_283 : CB RX5 283 yX2_suppose cX2_suppose 4 none 3 := ⟨List.mem_of_getElem? (i := 571) (by decide +kernel), kC_X2_suppose, List.mem_of_getElem? (i := 60) (by decide +kernel), by decide +kernel, Nat.le_of_ble_eq_true rfl⟩
theorem kB_L_110 : CB RL 110 yX5_chance cX5_chance 7 (some .int) 3 := ⟨List.mem_of_getElem? (i := 575) (by decide +kernel), kC_X5_chance, List.mem_of_getElem? (i := 57) (by decide +kernel), by decide +kernel, Nat.le_of_ble_eq_true rfl⟩
theorem kB_X5_229 : CB RX5 229 yX5_waysIn cX5_waysIn 6 (some .int) 3 := ⟨List.mem_of_getElem? (i := 579) (by decide +kernel), kC_X5_waysIn, List.mem_of_getElem? (i := 57) (by decide +kernel), by decide +kernel, Nat.le_of_ble_eq_true rfl⟩
theorem kB_X5_233 : CB RX5 233 yX5_tenToThe cX5_tenToThe 3 (some .int) 1 := ⟨List.mem_of_getElem? (i := 583) (by decide +kernel), kC_X5_tenToThe, List.mem_of_getElem? (i := 57) (by decide +kernel), by decide +kernel, Nat.le_of_ble_eq_true rfl⟩
theorem kB_X5_287 : CB RX5 287 yX5_waysInBehind cX5_waysInBehind 6 (some .int) 4 := ⟨List.mem_of_getElem? (i := 586) (by decide +kernel), kC_X5_waysInBehind, List.mem_of_getElem? (i := 57) (by decide +kernel), by decide +kernel, Nat.le_of_ble_eq_true rfl⟩
theorem kB_X5_236 : CB RX5 236 yX5_commonDivisor cX5_commonDivisor 6 (some .int) 2 := ⟨List.mem_of_getElem? (i := 590) (by decide +kernel), kC_X5_commonDivisor, List.mem_of_getElem? (i := 57) (by decide +kernel), by decide +kernel, Nat.le_of_ble_eq_true rfl⟩
theorem kB_L_114 : CB RL 114 yX5_drawn cX5_drawn 9 (some .int) 3 := ⟨List.mem_of_getElem? (i := 593) (by decide +kernel), kC_X5_drawn, List.mem_of_getElem? (i := 57) (by decide +kernel), by decide +kernel, Nat.le_of_ble_eq_true rfl⟩
theorem kB_X5_244 : CB RX5 244 yX2_befall cX2_befall 4 none 1 := ⟨List.mem_of_getElem? (i := 600) (by decide +kernel), kC_X2_befall, List.mem_of_getElem? (i := 60) (by decide +kernel), by decide +kernel, Nat.le_of_ble_eq_true rfl⟩
theorem kB_X2_91 : CB RX2 91 yX2_mendRope cX2_mendRope 2 none 1 := ⟨List.mem_of_getElem? (i := 604) (by decide +kernel), kC_X2_mendRope, List.mem_of_getElem? (i := 60) (by decide +kernel), by decide +kernel, Nat.le_of_ble_eq_true rfl⟩
theorem kB_L_118 : CB RL 118 yX5_image cX5_image 2 (some .int) 1 := ⟨List.mem_of_getElem? (i := 607) (by decide +kernel), kC_X5_image, List.mem_of_getElem? (i := 57) (by decide +kernel), by decide +kernel, Nat.le_of_ble_eq_true rfl⟩
theorem kB_X5_253 : CB RX5 253 yX5_noImage cX5_noImage 1 (some .boolean) 1 := ⟨List.mem_of_getElem? (i := 611) (by decide +kernel), kC_X5_noImage, List.mem_of_getElem? (i := 57) (by decide +kernel), by decide +kernel, Nat.le_of_ble_eq_true rfl⟩
theorem kB_L_122 : CB RL 122 yX5_restore cX5_restore 2 (some .int) 1 := ⟨List.mem_of_getElem? (i := 614) (by decide +kernel), kC_X5_restore, List.mem_of_getElem? (i := 57) (by decide +kernel), by decide +kernel, Nat.le_of_ble_eq_true rfl⟩
theorem kB_L_126 : CB RL 126 yX5_kind cX5_kind 2 (some .int) 1 := ⟨List.mem_of_getElem? (i := 618) (by decide +kernel), kC_X5_kind, List.mem_of_getElem? (i := 57) (by decide +kernel), by decide +kernel, Nat.le_of_ble_eq_true rfl⟩
theorem kB_L_130 : CB RL 130 yX5_as cX5_as 3 (some .int) 2 := ⟨List.mem_of_getElem? (i := 622) (by decide +kernel), kC_X5_as, List.mem_of_getElem? (i := 57) (by decide +kernel), by decide +kernel, Nat.le_of_ble_eq_true rfl⟩
theorem kB_X5_259 : CB RX5 259 yX5_isA cX5_isA 4 (some .boolean) 2 := ⟨List.mem_of_getElem? (i := 626) (by decide +kernel), kC_X5_isA, List.mem_of_getElem? (i := 57) (by decide +kernel), by decide +kernel, Nat.le_of_ble_eq_true rfl⟩
theorem kB_L_134 : CB RL 134 yX5_ask cX5_ask 3 (some .int) 2 := ⟨List.mem_of_getElem? (i := 631) (by decide +kernel), kC_X5_ask, List.mem_of_getElem? (i := 57) (by decide +kernel), by decide +kernel, Nat.le_of_ble_eq_true rfl⟩
theorem kB_X5_262 : CB RX5 262 yX1_answer cX1_answer 4 (some .int) 3 := ⟨List.mem_of_getElem? (i := 635) (by decide +kernel), kC_X1_answer, List.mem_of_getElem? (i := 62) (by decide +kernel), by decide +kernel, Nat.le_of_ble_eq_true rfl⟩
theorem kB_X1_19 : CB RX1 19 yX1_begin cX1_begin 6 (some .int) 4 := ⟨List.mem_of_getElem? (i := 639) (by decide +kernel), kC_X1_begin, List.mem_of_getElem? (i := 62) (by decide +kernel), by decide +kernel, Nat.le_of_ble_eq_true rfl⟩
theorem kB_X1_34 : CB RX1 34 yX1_body cX1_body 6 (some .int) 4 := ⟨List.mem_of_getElem? (i := 647) (by decide +kernel), kC_X1_body, List.mem_of_getElem? (i := 62) (by decide +kernel), by decide +kernel, Nat.le_of_ble_eq_true rfl⟩
theorem kB_X1_37 : CB RX1 37 yX1_leave cX1_leave 2 none 1 := ⟨List.mem_of_getElem? (i := 651) (by decide +kernel), kC_X1_leave, List.mem_of_getElem? (i := 62) (by decide +kernel), by decide +kernel, Nat.le_of_ble_eq_true rfl⟩
theorem kB_L_138 : CB RL 138 yX5_trace cX5_trace 2 (some .int) 1 := ⟨List.mem_of_getElem? (i := 655) (by decide +kernel), kC_X5_trace, List.mem_of_getElem? (i := 57) (by decide +kernel), by decide +kernel, Nat.le_of_ble_eq_true rfl⟩
theorem kB_L_142 : CB RL 142 yX5_count cX5_count 2 (some .int) 1 := ⟨List.mem_of_getElem? (i := 659) (by decide +kernel), kC_X5_count, List.mem_of_getElem? (i := 57) (by decide +kernel), by decide +kernel, Nat.le_of_ble_eq_true rfl⟩
theorem kB_X5_270 : CB RX5 270 yX5_rowsThere cX5_rowsThere 3 (some .int) 0 := ⟨List.mem_of_getElem? (i := 663) (by decide +kernel), kC_X5_rowsThere, List.mem_of_getElem? (i := 57) (by decide +kernel), by decide +kernel, Nat.le_of_ble_eq_true rfl⟩
theorem kB_L_146 : CB RL 146 yX5_status cX5_status 1 (some .int) 0 := ⟨List.mem_of_getElem? (i := 667) (by decide +kernel), kC_X5_status, List.mem_of_getElem? (i := 57) (by decide +kernel), by decide +kernel, Nat.le_of_ble_eq_true rfl⟩
theorem kB_L_12 : CB RL 12 yX6_init cX6_init 2 none 0 := ⟨List.mem_of_getElem? (i := 673) (by decide +kernel), kC_X6_init, List.mem_of_getElem? (i := 63) (by decide +kernel), by decide +kernel, Nat.le_of_ble_eq_true rfl⟩
theorem kB_L_17 : CB RL 17 yX6_row cX6_row 5 (some .int) 3 := ⟨List.mem_of_getElem? (i := 746) (by decide +kernel), kC_X6_row, List.mem_of_getElem? (i := 63) (by decide +kernel), by decide +kernel, Nat.le_of_ble_eq_true rfl⟩
theorem kB_X6_57 : CB RX6 57 yX6_isRow cX6_isRow 1 (some .boolean) 1 := ⟨List.mem_of_getElem? (i := 750) (by decide +kernel), kC_X6_isRow, List.mem_of_getElem? (i := 63) (by decide +kernel), by decide +kernel, Nat.le_of_ble_eq_true rfl⟩
theorem kB_X6_53 : CB RX6 53 yX6_in cX6_in 3 (some .boolean) 3 := ⟨List.mem_of_getElem? (i := 753) (by decide +kernel), kC_X6_in, List.mem_of_getElem? (i := 63) (by decide +kernel), by decide +kernel, Nat.le_of_ble_eq_true rfl⟩
theorem kB_X6_62 : CB RX6 62 yX6_found cX6_found 2 (some .int) 1 := ⟨List.mem_of_getElem? (i := 757) (by decide +kernel), kC_X6_found, List.mem_of_getElem? (i := 63) (by decide +kernel), by decide +kernel, Nat.le_of_ble_eq_true rfl⟩
theorem kB_X6_66 : CB RX6 66 yX6_well cX6_well 2 (some .int) 1 := ⟨List.mem_of_getElem? (i := 762) (by decide +kernel), kC_X6_well, List.mem_of_getElem? (i := 63) (by decide +kernel), by decide +kernel, Nat.le_of_ble_eq_true rfl⟩
theorem kB_L_21 : CB RL 21 yX6_set cX6_set 4 (some .int) 3 := ⟨List.mem_of_getElem? (i := 766) (by decide +kernel), kC_X6_set, List.mem_of_getElem? (i := 63) (by decide +kernel), by decide +kernel, Nat.le_of_ble_eq_true rfl⟩
theorem kB_X6_69 : CB RX6 69 yX6_isMissing cX6_isMissing 2 (some .boolean) 1 := ⟨List.mem_of_getElem? (i := 770) (by decide +kernel), kC_X6_isMissing, List.mem_of_getElem? (i := 63) (by decide +kernel), by decide +kernel, Nat.le_of_ble_eq_true rfl⟩
theorem kB_X6_72 : CB RX6 72 yX6_cut cX6_cut 2 (some .int) 2 := ⟨List.mem_of_getElem? (i := 774) (by decide +kernel), kC_X6_cut, List.mem_of_getElem? (i := 63) (by decide +kernel), by decide +kernel, Nat.le_of_ble_eq_true rfl⟩
theorem kB_L_26 : CB RL 26 yX6_copy cX6_copy 7 (some .int) 5 := ⟨List.mem_of_getElem? (i := 777) (by decide +kernel), kC_X6_copy, List.mem_of_getElem? (i := 63) (by decide +kernel), by decide +kernel, Nat.le_of_ble_eq_true rfl⟩
theorem kB_X6_76 : CB RX6 76 yX6_isPart cX6_isPart 4 (some .boolean) 3 := ⟨List.mem_of_getElem? (i := 781) (by decide +kernel), kC_X6_isPart, List.mem_of_getElem? (i := 63) (by decide +kernel), by decide +kernel, Nat.le_of_ble_eq_true rfl⟩
theorem kB_L_31 : CB RL 31 yX6_drop cX6_drop 2 (some .int) 1 := ⟨List.mem_of_getElem? (i := 785) (by decide +kernel), kC_X6_drop, List.mem_of_getElem? (i := 63) (by decide +kernel), by decide +kernel, Nat.le_of_ble_eq_true rfl⟩
theorem kB_L_35 : CB RL 35 yX6_feed cX6_feed 2 (some .int) 1 := ⟨List.mem_of_getElem? (i := 789) (by decide +kernel), kC_X6_feed, List.mem_of_getElem? (i := 63) (by decide +kernel), by decide +kernel, Nat.le_of_ble_eq_true rfl⟩
theorem kB_L_40 : CB RL 40 yX6_estuary cX6_estuary 2 (some .int) 0 := ⟨List.mem_of_getElem? (i := 794) (by decide +kernel), kC_X6_estuary, List.mem_of_getElem? (i := 63) (by decide +kernel), by decide +kernel, Nat.le_of_ble_eq_true rfl⟩
theorem kB_X6_108 : CB RX6 108 yX6_advances cX6_advances 2 none 0 := ⟨List.mem_of_getElem? (i := 798) (by decide +kernel), kC_X6_advances, List.mem_of_getElem? (i := 63) (by decide +kernel), by decide +kernel, Nat.le_of_ble_eq_true rfl⟩
theorem kB_X6_89 : CB RX6 89 yX6_byteAt cX6_byteAt 2 (some .int) 1 := ⟨List.mem_of_getElem? (i := 802) (by decide +kernel), kC_X6_byteAt, List.mem_of_getElem? (i := 63) (by decide +kernel), by decide +kernel, Nat.le_of_ble_eq_true rfl⟩
theorem kB_X6_111 : CB RX6 111 yX6_takes cX6_takes 4 (some .int) 2 := ⟨List.mem_of_getElem? (i := 806) (by decide +kernel), kC_X6_takes, List.mem_of_getElem? (i := 63) (by decide +kernel), by decide +kernel, Nat.le_of_ble_eq_true rfl⟩
theorem kB_X6_101 : CB RX6 101 yX6_isWell cX6_isWell 1 (some .boolean) 0 := ⟨List.mem_of_getElem? (i := 810) (by decide +kernel), kC_X6_isWell, List.mem_of_getElem? (i := 63) (by decide +kernel), by decide +kernel, Nat.le_of_ble_eq_true rfl⟩
theorem kB_X6_115 : CB RX6 115 yX6_figure cX6_figure 3 (some .int) 2 := ⟨List.mem_of_getElem? (i := 814) (by decide +kernel), kC_X6_figure, List.mem_of_getElem? (i := 63) (by decide +kernel), by decide +kernel, Nat.le_of_ble_eq_true rfl⟩
theorem kB_X6_121 : CB RX6 121 yX6_follows cX6_follows 3 (some .int) 2 := ⟨List.mem_of_getElem? (i := 818) (by decide +kernel), kC_X6_follows, List.mem_of_getElem? (i := 63) (by decide +kernel), by decide +kernel, Nat.le_of_ble_eq_true rfl⟩
theorem kB_X6_118 : CB RX6 118 yX6_kindOf cX6_kindOf 1 (some .int) 1 := ⟨List.mem_of_getElem? (i := 822) (by decide +kernel), kC_X6_kindOf, List.mem_of_getElem? (i := 63) (by decide +kernel), by decide +kernel, Nat.le_of_ble_eq_true rfl⟩
theorem kB_X6_124 : CB RX6 124 yX6_readsTug cX6_readsTug 5 none 0 := ⟨List.mem_of_getElem? (i := 825) (by decide +kernel), kC_X6_readsTug, List.mem_of_getElem? (i := 63) (by decide +kernel), by decide +kernel, Nat.le_of_ble_eq_true rfl⟩
theorem kB_X6_127 : CB RX6 127 yX6_must cX6_must 2 none 1 := ⟨List.mem_of_getElem? (i := 829) (by decide +kernel), kC_X6_must, List.mem_of_getElem? (i := 63) (by decide +kernel), by decide +kernel, Nat.le_of_ble_eq_true rfl⟩
theorem kB_X6_131 : CB RX6 131 yX6_readsPier cX6_readsPier 4 none 0 := ⟨List.mem_of_getElem? (i := 833) (by decide +kernel), kC_X6_readsPier, List.mem_of_getElem? (i := 63) (by decide +kernel), by decide +kernel, Nat.le_of_ble_eq_true rfl⟩
theorem kB_X6_135 : CB RX6 135 yX6_copies cX6_copies 5 none 4 := ⟨List.mem_of_getElem? (i := 838) (by decide +kernel), kC_X6_copies, List.mem_of_getElem? (i := 63) (by decide +kernel), by decide +kernel, Nat.le_of_ble_eq_true rfl⟩
theorem kB_L_44 : CB RL 44 yX6_fault cX6_fault 1 (some .int) 0 := ⟨List.mem_of_getElem? (i := 841) (by decide +kernel), kC_X6_fault, List.mem_of_getElem? (i := 63) (by decide +kernel), by decide +kernel, Nat.le_of_ble_eq_true rfl⟩
theorem kB_L_48 : CB RL 48 yX6_hours cX6_hours 3 (some .int) 1 := ⟨List.mem_of_getElem? (i := 845) (by decide +kernel), kC_X6_hours, List.mem_of_getElem? (i := 63) (by decide +kernel), by decide +kernel, Nat.le_of_ble_eq_true rfl⟩
theorem kB_X6_167 : CB RX6 167 yX6_isEstuary cX6_isEstuary 1 (some .boolean) 0 := ⟨List.mem_of_getElem? (i := 849) (by decide +kernel), kC_X6_isEstuary, List.mem_of_getElem? (i := 63) (by decide +kernel), by decide +kernel, Nat.le_of_ble_eq_true rfl⟩
theorem kB_X6_171 : CB RX6 171 yX6_notes cX6_notes 2 none 0 := ⟨List.mem_of_getElem? (i := 854) (by decide +kernel), kC_X6_notes, List.mem_of_getElem? (i := 63) (by decide +kernel), by decide +kernel, Nat.le_of_ble_eq_true rfl⟩
theorem kB_X6_174 : CB RX6 174 yX6_passes cX6_passes 5 none 2 := ⟨List.mem_of_getElem? (i := 858) (by decide +kernel), kC_X6_passes, List.mem_of_getElem? (i := 63) (by decide +kernel), by decide +kernel, Nat.le_of_ble_eq_true rfl⟩
theorem kB_X6_153 : CB RX6 153 yX6_force cX6_force 3 (some .int) 1 := ⟨List.mem_of_getElem? (i := 861) (by decide +kernel), kC_X6_force, List.mem_of_getElem? (i := 63) (by decide +kernel), by decide +kernel, Nat.le_of_ble_eq_true rfl⟩
theorem kB_X6_142 : CB RX6 142 yX6_draws cX6_draws 4 (some .int) 2 := ⟨List.mem_of_getElem? (i := 864) (by decide +kernel), kC_X6_draws, List.mem_of_getElem? (i := 63) (by decide +kernel), by decide +kernel, Nat.le_of_ble_eq_true rfl⟩
theorem kB_X6_157 : CB RX6 157 yX6_speed cX6_speed 3 (some .int) 2 := ⟨List.mem_of_getElem? (i := 867) (by decide +kernel), kC_X6_speed, List.mem_of_getElem? (i := 63) (by decide +kernel), by decide +kernel, Nat.le_of_ble_eq_true rfl⟩
theorem kB_X6_160 : CB RX6 160 yX6_comes cX6_comes 6 none 2 := ⟨List.mem_of_getElem? (i := 870) (by decide +kernel), kC_X6_comes, List.mem_of_getElem? (i := 63) (by decide +kernel), by decide +kernel, Nat.le_of_ble_eq_true rfl⟩
theorem kB_X6_146 : CB RX6 146 yX6_met cX6_met 6 (some .int) 2 := ⟨List.mem_of_getElem? (i := 873) (by decide +kernel), kC_X6_met, List.mem_of_getElem? (i := 63) (by decide +kernel), by decide +kernel, Nat.le_of_ble_eq_true rfl⟩
theorem kB_X6_163 : CB RX6 163 yX6_frays cX6_frays 6 none 3 := ⟨List.mem_of_getElem? (i := 876) (by decide +kernel), kC_X6_frays, List.mem_of_getElem? (i := 63) (by decide +kernel), by decide +kernel, Nat.le_of_ble_eq_true rfl⟩
theorem kB_X6_149 : CB RX6 149 yX6_drops cX6_drops 2 none 2 := ⟨List.mem_of_getElem? (i := 879) (by decide +kernel), kC_X6_drops, List.mem_of_getElem? (i := 63) (by decide +kernel), by decide +kernel, Nat.le_of_ble_eq_true rfl⟩
theorem kB_L_52 : CB RL 52 yX6_mend cX6_mend 3 (some .int) 1 := ⟨List.mem_of_getElem? (i := 882) (by decide +kernel), kC_X6_mend, List.mem_of_getElem? (i := 63) (by decide +kernel), by decide +kernel, Nat.le_of_ble_eq_true rfl⟩
theorem kB_X6_178 : CB RX6 178 yX6_isTug cX6_isTug 2 (some .boolean) 1 := ⟨List.mem_of_getElem? (i := 886) (by decide +kernel), kC_X6_isTug, List.mem_of_getElem? (i := 63) (by decide +kernel), by decide +kernel, Nat.le_of_ble_eq_true rfl⟩
theorem kB_X6_181 : CB RX6 181 yX6_holding cX6_holding 3 (some .int) 1 := ⟨List.mem_of_getElem? (i := 890) (by decide +kernel), kC_X6_holding, List.mem_of_getElem? (i := 63) (by decide +kernel), by decide +kernel, Nat.le_of_ble_eq_true rfl⟩
theorem kB_L_56 : CB RL 56 yX6_loose cX6_loose 2 (some .int) 1 := ⟨List.mem_of_getElem? (i := 893) (by decide +kernel), kC_X6_loose, List.mem_of_getElem? (i := 63) (by decide +kernel), by decide +kernel, Nat.le_of_ble_eq_true rfl⟩
theorem kB_L_61 : CB RL 61 yX6_pull cX6_pull 4 (some .int) 2 := ⟨List.mem_of_getElem? (i := 897) (by decide +kernel), kC_X6_pull, List.mem_of_getElem? (i := 63) (by decide +kernel), by decide +kernel, Nat.le_of_ble_eq_true rfl⟩
theorem kB_L_65 : CB RL 65 yX6_clear cX6_clear 3 (some .int) 1 := ⟨List.mem_of_getElem? (i := 901) (by decide +kernel), kC_X6_clear, List.mem_of_getElem? (i := 63) (by decide +kernel), by decide +kernel, Nat.le_of_ble_eq_true rfl⟩
theorem kB_X6_184 : CB RX6 184 yX6_isPier cX6_isPier 2 (some .boolean) 1 := ⟨List.mem_of_getElem? (i := 905) (by decide +kernel), kC_X6_isPier, List.mem_of_getElem? (i := 63) (by decide +kernel), by decide +kernel, Nat.le_of_ble_eq_true rfl⟩
theorem kB_L_69 : CB RL 69 yX6_undo cX6_undo 1 (some .int) 0 := ⟨List.mem_of_getElem? (i := 909) (by decide +kernel), kC_X6_undo, List.mem_of_getElem? (i := 63) (by decide +kernel), by decide +kernel, Nat.le_of_ble_eq_true rfl⟩
theorem kB_L_73 : CB RL 73 yX6_tug cX6_tug 3 (some .int) 2 := ⟨List.mem_of_getElem? (i := 913) (by decide +kernel), kC_X6_tug, List.mem_of_getElem? (i := 63) (by decide +kernel), by decide +kernel, Nat.le_of_ble_eq_true rfl⟩
theorem kB_L_77 : CB RL 77 yX6_pier cX6_pier 3 (some .int) 2 := ⟨List.mem_of_getElem? (i := 917) (by decide +kernel), kC_X6_pier, List.mem_of_getElem? (i := 63) (by decide +kernel), by decide +kernel, Nat.le_of_ble_eq_true rfl⟩
theorem kB_L_81 : CB RL 81 yX6_later cX6_later 3 (some .int) 2 := ⟨List.mem_of_getElem? (i := 921) (by decide +kernel), kC_X6_later, List.mem_of_getElem? (i := 63) (by decide +kernel), by decide +kernel, Nat.le_of_ble_eq_true rfl⟩
theorem kB_X6_187 : CB RX6 187 yX6_goesOn cX6_goesOn 3 none 1 := ⟨List.mem_of_getElem? (i := 925) (by decide +kernel), kC_X6_goesOn, List.mem_of_getElem? (i := 63) (by decide +kernel), by decide +kernel, Nat.le_of_ble_eq_true rfl⟩
theorem kB_X6_191 : CB RX6 191 yX6_standing cX6_standing 3 (some .int) 1 := ⟨List.mem_of_getElem? (i := 929) (by decide +kernel), kC_X6_standing, List.mem_of_getElem? (i := 63) (by decide +kernel), by decide +kernel, Nat.le_of_ble_eq_true rfl⟩
theorem kB_L_85 : CB RL 85 yX6_arrives cX6_arrives 2 (some .int) 0 := ⟨List.mem_of_getElem? (i := 932) (by decide +kernel), kC_X6_arrives, List.mem_of_getElem? (i := 63) (by decide +kernel), by decide +kernel, Nat.le_of_ble_eq_true rfl⟩
theorem kB_L_89 : CB RL 89 yX6_parts cX6_parts 3 (some .int) 1 := ⟨List.mem_of_getElem? (i := 936) (by decide +kernel), kC_X6_parts, List.mem_of_getElem? (i := 63) (by decide +kernel), by decide +kernel, Nat.le_of_ble_eq_true rfl⟩
theorem kB_L_93 : CB RL 93 yX6_crew cX6_crew 8 (some .int) 2 := ⟨List.mem_of_getElem? (i := 940) (by decide +kernel), kC_X6_crew, List.mem_of_getElem? (i := 63) (by decide +kernel), by decide +kernel, Nat.le_of_ble_eq_true rfl⟩
theorem kB_X6_194 : CB RX6 194 yX6_isNear cX6_isNear 1 (some .boolean) 1 := ⟨List.mem_of_getElem? (i := 944) (by decide +kernel), kC_X6_isNear, List.mem_of_getElem? (i := 63) (by decide +kernel), by decide +kernel, Nat.le_of_ble_eq_true rfl⟩
theorem kB_X6_197 : CB RX6 197 yX6_ones cX6_ones 3 (some .int) 1 := ⟨List.mem_of_getElem? (i := 947) (by decide +kernel), kC_X6_ones, List.mem_of_getElem? (i := 63) (by decide +kernel), by decide +kernel, Nat.le_of_ble_eq_true rfl⟩
theorem kB_X6_200 : CB RX6 200 yX6_has cX6_has 2 (some .boolean) 2 := ⟨List.mem_of_getElem? (i := 950) (by decide +kernel), kC_X6_has, List.mem_of_getElem? (i := 63) (by decide +kernel), by decide +kernel, Nat.le_of_ble_eq_true rfl⟩
theorem kB_L_97 : CB RL 97 yX6_cleared cX6_cleared 8 (some .int) 2 := ⟨List.mem_of_getElem? (i := 953) (by decide +kernel), kC_X6_cleared, List.mem_of_getElem? (i := 63) (by decide +kernel), by decide +kernel, Nat.le_of_ble_eq_true rfl⟩
theorem kB_L_101 : CB RL 101 yX6_least cX6_least 4 (some .int) 2 := ⟨List.mem_of_getElem? (i := 957) (by decide +kernel), kC_X6_least, List.mem_of_getElem? (i := 63) (by decide +kernel), by decide +kernel, Nat.le_of_ble_eq_true rfl⟩
theorem kB_L_105 : CB RL 105 yX6_share cX6_share 8 (some .int) 2 := ⟨List.mem_of_getElem? (i := 961) (by decide +kernel), kC_X6_share, List.mem_of_getElem? (i := 63) (by decide +kernel), by decide +kernel, Nat.le_of_ble_eq_true rfl⟩
theorem kB_L_109 : CB RL 109 yX6_fits cX6_fits 12 (some .int) 5 := ⟨List.mem_of_getElem? (i := 965) (by decide +kernel), kC_X6_fits, List.mem_of_getElem? (i := 63) (by decide +kernel), by decide +kernel, Nat.le_of_ble_eq_true rfl⟩
theorem kB_X6_204 : CB RX6 204 yX6_isSeen cX6_isSeen 7 (some .boolean) 4 := ⟨List.mem_of_getElem? (i := 969) (by decide +kernel), kC_X6_isSeen, List.mem_of_getElem? (i := 63) (by decide +kernel), by decide +kernel, Nat.le_of_ble_eq_true rfl⟩
theorem kB_L_113 : CB RL 113 yX6_chance cX6_chance 9 (some .int) 3 := ⟨List.mem_of_getElem? (i := 973) (by decide +kernel), kC_X6_chance, List.mem_of_getElem? (i := 63) (by decide +kernel), by decide +kernel, Nat.le_of_ble_eq_true rfl⟩
theorem kB_L_117 : CB RL 117 yX6_drawn cX6_drawn 9 (some .int) 3 := ⟨List.mem_of_getElem? (i := 977) (by decide +kernel), kC_X6_drawn, List.mem_of_getElem? (i := 63) (by decide +kernel), by decide +kernel, Nat.le_of_ble_eq_true rfl⟩
theorem kB_L_121 : CB RL 121 yX6_image cX6_image 2 (some .int) 1 := ⟨List.mem_of_getElem? (i := 986) (by decide +kernel), kC_X6_image, List.mem_of_getElem? (i := 63) (by decide +kernel), by decide +kernel, Nat.le_of_ble_eq_true rfl⟩
theorem kB_L_125 : CB RL 125 yX6_restore cX6_restore 2 (some .int) 1 := ⟨List.mem_of_getElem? (i := 990) (by decide +kernel), kC_X6_restore, List.mem_of_getElem? (i := 63) (by decide +kernel), by decide +kernel, Nat.le_of_ble_eq_true rfl⟩
theorem kB_L_129 : CB RL 129 yX6_kind cX6_kind 2 (some .int) 1 := ⟨List.mem_of_getElem? (i := 994) (by decide +kernel), kC_X6_kind, List.mem_of_getElem? (i := 63) (by decide +kernel), by decide +kernel, Nat.le_of_ble_eq_true rfl⟩
theorem kB_X6_217 : CB RX6 217 yX6_kindIn cX6_kindIn 2 (some .int) 1 := ⟨List.mem_of_getElem? (i := 998) (by decide +kernel), kC_X6_kindIn, List.mem_of_getElem? (i := 63) (by decide +kernel), by decide +kernel, Nat.le_of_ble_eq_true rfl⟩
theorem kB_L_133 : CB RL 133 yX6_as cX6_as 5 (some .int) 2 := ⟨List.mem_of_getElem? (i := 1002) (by decide +kernel), kC_X6_as, List.mem_of_getElem? (i := 63) (by decide +kernel), by decide +kernel, Nat.le_of_ble_eq_true rfl⟩
theorem kB_L_137 : CB RL 137 yX6_ask cX6_ask 4 (some .int) 2 := ⟨List.mem_of_getElem? (i := 1006) (by decide +kernel), kC_X6_ask, List.mem_of_getElem? (i := 63) (by decide +kernel), by decide +kernel, Nat.le_of_ble_eq_true rfl⟩
theorem kB_X6_229 : CB RX6 229 yX6_launchSize cX6_launchSize 4 (some .int) 1 := ⟨List.mem_of_getElem? (i := 1010) (by decide +kernel), kC_X6_launchSize, List.mem_of_getElem? (i := 63) (by decide +kernel), by decide +kernel, Nat.le_of_ble_eq_true rfl⟩
theorem kB_X6_223 : CB RX6 223 yX6_begins cX6_begins 2 none 1 := ⟨List.mem_of_getElem? (i := 1014) (by decide +kernel), kC_X6_begins, List.mem_of_getElem? (i := 63) (by decide +kernel), by decide +kernel, Nat.le_of_ble_eq_true rfl⟩
theorem kB_X6_232 : CB RX6 232 yX6_paddlerSize cX6_paddlerSize 4 (some .int) 1 := ⟨List.mem_of_getElem? (i := 1018) (by decide +kernel), kC_X6_paddlerSize, List.mem_of_getElem? (i := 63) (by decide +kernel), by decide +kernel, Nat.le_of_ble_eq_true rfl⟩
theorem kB_X6_226 : CB RX6 226 yX6_paddlerMark cX6_paddlerMark 4 (some .int) 1 := ⟨List.mem_of_getElem? (i := 1022) (by decide +kernel), kC_X6_paddlerMark, List.mem_of_getElem? (i := 63) (by decide +kernel), by decide +kernel, Nat.le_of_ble_eq_true rfl⟩
theorem kB_X6_235 : CB RX6 235 yX6_launchMark cX6_launchMark 2 (some .int) 1 := ⟨List.mem_of_getElem? (i := 1026) (by decide +kernel), kC_X6_launchMark, List.mem_of_getElem? (i := 63) (by decide +kernel), by decide +kernel, Nat.le_of_ble_eq_true rfl⟩
theorem kB_L_141 : CB RL 141 yX6_trace cX6_trace 2 (some .int) 1 := ⟨List.mem_of_getElem? (i := 1030) (by decide +kernel), kC_X6_trace, List.mem_of_getElem? (i := 63) (by decide +kernel), by decide +kernel, Nat.le_of_ble_eq_true rfl⟩
theorem kB_L_145 : CB RL 145 yX6_count cX6_count 4 (some .int) 1 := ⟨List.mem_of_getElem? (i := 1034) (by decide +kernel), kC_X6_count, List.mem_of_getElem? (i := 63) (by decide +kernel), by decide +kernel, Nat.le_of_ble_eq_true rfl⟩
theorem kB_L_149 : CB RL 149 yX6_status cX6_status 1 (some .int) 0 := ⟨List.mem_of_getElem? (i := 1038) (by decide +kernel), kC_X6_status, List.mem_of_getElem? (i := 63) (by decide +kernel), by decide +kernel, Nat.le_of_ble_eq_true rfl⟩
end
section
/-! The flat heap: 291 cells from a base on, each of a kind (0 Acts, 1 Asker, 2 Estuary, 3 Row, 4 Tape, 5 TugLines, 6 the reference, 7 int[], 8 boolean[], 9 Estuary[], 10 Row[]); what isn't a reference is an int, by cell and place. References are fixed. -/
abbrev AH : Type := Nat → Nat → Int32
abbrev WX : Type := Nat × va_G × (Nat → ClassId) × (Nat → Nat)
def kdL : List Nat := [5, 10, 3, 7, 3, 7, 3, 7, 3, 7, 3, 7, 3, 7, 3, 7, 3, 7, 4, 7, 2, 7, 7, 7, 7, 7, 7, 0, 9, 2, 7, 7, 7, 7, 7, 7, 2, 7, 7, 7, 7, 7, 7, 2, 7, 7, 7, 7, 7, 7, 2, 7, 7, 7, 7, 7, 7, 2, 7, 7, 7, 7, 7, 7, 2, 7, 7, 7, 7, 7, 7, 2, 7, 7, 7, 7, 7, 7, 2, 7, 7, 7, 7, 7, 7, 2, 7, 7, 7, 7, 7, 7, 2, 7, 7, 7, 7, 7, 7, 2, 7, 7, 7, 7, 7, 7, 2, 7, 7, 7, 7, 7, 7, 2, 7, 7, 7, 7, 7, 7, 2, 7, 7, 7, 7, 7, 7, 2, 7, 7, 7, 7, 7, 7, 2, 7, 7, 7, 7, 7, 7, 2, 7, 7, 7, 7, 7, 7, 2, 7, 7, 7, 7, 7, 7, 2, 7, 7, 7, 7, 7, 7, 2, 7, 7, 7, 7, 7, 7, 2, 7, 7, 7, 7, 7, 7, 2, 7, 7, 7, 7, 7, 7, 2, 7, 7, 7, 7, 7, 7, 2, 7, 7, 7, 7, 7, 7, 9, 2, 7, 7, 7, 7, 7, 7, 2, 7, 7, 7, 7, 7, 7, 9, 2, 7, 7, 7, 7, 7, 7, 2, 7, 7, 7, 7, 7, 7, 2, 7, 7, 7, 7, 7, 7, 2, 7, 7, 7, 7, 7, 7, 2, 7, 7, 7, 7, 7, 7, 2, 7, 7, 7, 7, 7, 7, 2, 7, 7, 7, 7, 7, 7, 2, 7, 7, 7, 7, 7, 7, 2, 7, 7, 7, 7, 7, 7, 1, 7, 6, 7, 7, 7, 7, 7, 7, 7, 7, 7, 7, 8, 7]
def lnL : List Nat := [0, 8, 0, 40, 0, 40, 0, 40, 0, 40, 0, 40, 0, 40, 0, 40, 0, 40, 0, 90, 0, 6, 6, 6, 6, 4, 4, 0, 24, 0, 6, 6, 6, 6, 4, 4, 0, 6, 6, 6, 6, 4, 4, 0, 6, 6, 6, 6, 4, 4, 0, 6, 6, 6, 6, 4, 4, 0, 6, 6, 6, 6, 4, 4, 0, 6, 6, 6, 6, 4, 4, 0, 6, 6, 6, 6, 4, 4, 0, 6, 6, 6, 6, 4, 4, 0, 6, 6, 6, 6, 4, 4, 0, 6, 6, 6, 6, 4, 4, 0, 6, 6, 6, 6, 4, 4, 0, 6, 6, 6, 6, 4, 4, 0, 6, 6, 6, 6, 4, 4, 0, 6, 6, 6, 6, 4, 4, 0, 6, 6, 6, 6, 4, 4, 0, 6, 6, 6, 6, 4, 4, 0, 6, 6, 6, 6, 4, 4, 0, 6, 6, 6, 6, 4, 4, 0, 6, 6, 6, 6, 4, 4, 0, 6, 6, 6, 6, 4, 4, 0, 6, 6, 6, 6, 4, 4, 0, 6, 6, 6, 6, 4, 4, 0, 6, 6, 6, 6, 4, 4, 0, 6, 6, 6, 6, 4, 4, 2, 0, 6, 6, 6, 6, 4, 4, 0, 6, 6, 6, 6, 4, 4, 9, 0, 6, 6, 6, 6, 4, 4, 0, 6, 6, 6, 6, 4, 4, 0, 6, 6, 6, 6, 4, 4, 0, 6, 6, 6, 6, 4, 4, 0, 6, 6, 6, 6, 4, 4, 0, 6, 6, 6, 6, 4, 4, 0, 6, 6, 6, 6, 4, 4, 0, 6, 6, 6, 6, 4, 4, 0, 6, 6, 6, 6, 4, 4, 0, 16, 0, 8, 8, 320, 40, 90, 43, 43, 43, 1032, 86, 2, 16]
def kd (k : Nat) : Nat := kdL.getD k 99
def ln (k : Nat) : Nat := lnL.getD k 0
def lay (X : WX) (h : AH) (k : Nat) : va_E := match kd k with
  | 0 => .inr (0, [.ref (X.1 + (k + 1)), .int (h k 1), .int (h k 2)])
  | 1 => .inr (1, [.ref (X.1 + (k + 1)), .int (h k 1)])
  | 2 => .inr (2, [.int (h k 0), .int (h k 1), .int (h k 2), .int (h k 3), .int (h k 4), .int (h k 5), .ref (X.1 + (k + 1)), .ref (X.1 + (k + 2)), .ref (X.1 + (k + 3)), .ref (X.1 + (k + 4)), .ref (X.1 + (k + 5)), .ref (X.1 + (k + 6))])
  | 3 => .inr (3, [.ref (X.1 + (k + 1)), .int (h k 1), .int (h k 2)])
  | 4 => .inr (4, [.ref (X.1 + (k + 1)), .int (h k 1), .int (h k 2), .int (h k 3), .int (h k 4)])
  | 5 => .inr (5, [.ref (X.1 + (k + 1)), .ref (X.1 + (k + 18)), .ref (X.1 + (k + 20)), .ref (X.1 + (k + 27)), .ref (X.1 + (k + 197)), .ref (X.1 + (k + 212)), .ref (X.1 + (k + 276)), .int (h k 7)])
  | 6 => .inr (6, [.ref (X.1 + (k + 1)), .ref (X.1 + (k + 2)), .ref (X.1 + (k + 3)), .ref (X.1 + (k + 4)), .int (h k 4), .ref (X.1 + (k + 5)), .int (h k 6), .int (h k 7), .int (h k 8), .int (h k 9), .int (h k 10), .int (h k 11), .int (h k 12), .ref (X.1 + (k + 6)), .ref (X.1 + (k + 7)), .ref (X.1 + (k + 8)), .ref (X.1 + (k + 9)), .int (h k 17), .ref (X.1 + (k + 10)), .ref (X.1 + (k + 11)), .ref (X.1 + (k + 12)), .int (h k 21)])
  | 7 => .inl (X.2.2.1 0, ln k, .inl (h k))
  | 8 => .inl (X.2.2.1 1, ln k, .inl (h k))
  | 9 => .inl (X.2.2.1 2, ln k, .inr (.inr (.inr (.inr (fun j => some (X.1 + (k + 1 + 7 * j)))))))
  | 10 => .inl (X.2.2.1 3, ln k, .inr (.inr (.inr (.inr (fun j => some (X.1 + (k + 1 + 2 * j)))))))
  | _ => .inr (99, [])
def wl (X : WX) (h : AH) : va_W := (List.range 291).map (fun k => (X.1 + k, lay X h k))
def Hp (X : WX) (h : AH) (H : Heap) : Prop := va_P X.2.1 vwCl (wl X h) H
abbrev xA (X : WX) : Nat → Prop := fun q => X.1 ≤ q
abbrev xT (X : WX) : List (ClassId × FieldType) := [(X.2.2.1 0, .int), (X.2.2.1 1, .boolean), (X.2.2.1 2, .object "TugLines$Estuary"), (X.2.2.1 3, .object "TugLines$Row")]
def hr (h : AH) (k : Nat) (f : Nat → Int32) : AH := fun q => if q = k then f else h q
def hs (h : AH) (k j : Nat) (v : Int32) : AH := hr h k (upd (h k) j v)
theorem kdL_len : kdL.length = 291 := by decide +kernel
theorem kd_lt {k c : Nat} (h : kd k = c) (hc : c < 99) : k < 291 := by
  rcases Nat.lt_or_ge k 291 with q | q
  · exact q
  · have e : kd k = 99 := by
      unfold kd
      rw [List.getD_eq_getElem?_getD, List.getElem?_eq_none (by rw [kdL_len]; exact q)]
      rfl
    omega
theorem hr_eq (h : AH) (k : Nat) (f : Nat → Int32) : hr h k f k = f := by simp [hr]
theorem hr_ne (h : AH) {k q : Nat} (f : Nat → Int32) (e : q ≠ k) : hr h k f q = h q := by simp [hr, e]
theorem lay_ne (X : WX) (h : AH) {k q : Nat} (f : Nat → Int32) (e : q ≠ k) : lay X (hr h k f) q = lay X h q := by
  simp only [lay, hr_ne h f e]
theorem wl_get (X : WX) (h : AH) {k : Nat} (hk : k < 291) : (wl X h)[k]? = some (X.1 + k, lay X h k) := by
  simp [wl, hk]
theorem wl_out (X : WX) (h : AH) {k : Nat} {q : Nat × va_E} (e : (wl X h)[k]? = some q) : k < 291 ∧ q = (X.1 + k, lay X h k) := by
  have hk : k < 291 := by
    have := (List.getElem?_eq_some_iff.mp e).1
    simpa [wl] using this
  rw [wl_get X h hk] at e
  exact ⟨hk, (Option.some.inj e).symm⟩
theorem wl_set (X : WX) (h : AH) {k : Nat} (hk : k < 291) (f : Nat → Int32) {v : va_E} (hv : lay X (hr h k f) k = v) : (wl X h).set k (X.1 + k, v) = wl X (hr h k f) := by
  apply List.ext_getElem?
  intro j
  by_cases hj : j < 291
  · rw [wl_get X _ hj]
    by_cases e : j = k
    · subst e
      rw [List.getElem?_set_self (by simpa [wl] using hj), hv]
    · rw [List.getElem?_set_ne (fun q => e q.symm), wl_get X h hj, lay_ne X h f e]
  · rw [List.getElem?_eq_none (by simp [wl]; omega), List.getElem?_eq_none (by simp [wl]; omega)]
theorem wl_D (X : WX) (h : AH) : va_D (xA X) (wl X h) := by
  refine ⟨fun i j p q hi hj hpq => ?_, fun k q hk => ?_⟩
  · obtain ⟨_, rfl⟩ := wl_out X h hi
    obtain ⟨_, rfl⟩ := wl_out X h hj
    have : X.1 + i = X.1 + j := hpq
    omega
  · obtain ⟨_, rfl⟩ := wl_out X h hk
    exact Nat.le_add_right _ _
theorem lay_0 (X : WX) (h : AH) {k : Nat} (e : kd k = 0) : lay X h k = .inr (0, [.ref (X.1 + (k + 1)), .int (h k 1), .int (h k 2)]) := by simp only [lay, e]
theorem lay_1 (X : WX) (h : AH) {k : Nat} (e : kd k = 1) : lay X h k = .inr (1, [.ref (X.1 + (k + 1)), .int (h k 1)]) := by simp only [lay, e]
theorem lay_2 (X : WX) (h : AH) {k : Nat} (e : kd k = 2) : lay X h k = .inr (2, [.int (h k 0), .int (h k 1), .int (h k 2), .int (h k 3), .int (h k 4), .int (h k 5), .ref (X.1 + (k + 1)), .ref (X.1 + (k + 2)), .ref (X.1 + (k + 3)), .ref (X.1 + (k + 4)), .ref (X.1 + (k + 5)), .ref (X.1 + (k + 6))]) := by simp only [lay, e]
theorem lay_3 (X : WX) (h : AH) {k : Nat} (e : kd k = 3) : lay X h k = .inr (3, [.ref (X.1 + (k + 1)), .int (h k 1), .int (h k 2)]) := by simp only [lay, e]
theorem lay_4 (X : WX) (h : AH) {k : Nat} (e : kd k = 4) : lay X h k = .inr (4, [.ref (X.1 + (k + 1)), .int (h k 1), .int (h k 2), .int (h k 3), .int (h k 4)]) := by simp only [lay, e]
theorem lay_5 (X : WX) (h : AH) {k : Nat} (e : kd k = 5) : lay X h k = .inr (5, [.ref (X.1 + (k + 1)), .ref (X.1 + (k + 18)), .ref (X.1 + (k + 20)), .ref (X.1 + (k + 27)), .ref (X.1 + (k + 197)), .ref (X.1 + (k + 212)), .ref (X.1 + (k + 276)), .int (h k 7)]) := by simp only [lay, e]
theorem lay_6 (X : WX) (h : AH) {k : Nat} (e : kd k = 6) : lay X h k = .inr (6, [.ref (X.1 + (k + 1)), .ref (X.1 + (k + 2)), .ref (X.1 + (k + 3)), .ref (X.1 + (k + 4)), .int (h k 4), .ref (X.1 + (k + 5)), .int (h k 6), .int (h k 7), .int (h k 8), .int (h k 9), .int (h k 10), .int (h k 11), .int (h k 12), .ref (X.1 + (k + 6)), .ref (X.1 + (k + 7)), .ref (X.1 + (k + 8)), .ref (X.1 + (k + 9)), .int (h k 17), .ref (X.1 + (k + 10)), .ref (X.1 + (k + 11)), .ref (X.1 + (k + 12)), .int (h k 21)]) := by simp only [lay, e]
theorem lay_7 (X : WX) (h : AH) {k : Nat} (e : kd k = 7) : lay X h k = .inl (X.2.2.1 0, ln k, .inl (h k)) := by simp only [lay, e]
theorem lay_8 (X : WX) (h : AH) {k : Nat} (e : kd k = 8) : lay X h k = .inl (X.2.2.1 1, ln k, .inl (h k)) := by simp only [lay, e]
theorem lay_9 (X : WX) (h : AH) {k : Nat} (e : kd k = 9) : lay X h k = .inl (X.2.2.1 2, ln k, .inr (.inr (.inr (.inr (fun j => some (X.1 + (k + 1 + 7 * j))))))) := by simp only [lay, e]
theorem lay_10 (X : WX) (h : AH) {k : Nat} (e : kd k = 10) : lay X h k = .inl (X.2.2.1 3, ln k, .inr (.inr (.inr (.inr (fun j => some (X.1 + (k + 1 + 2 * j))))))) := by simp only [lay, e]
/-! What is the same all along: the classes' numbers, the static arrays. -/
def stN (i : Nat) : String × String := match i with
  | 0 => ("TugLines", "MOST_SUPPOSED")
  | 1 => ("TugLines", "ALSO")
  | 2 => ("TugLines$Asker", "SIZE_BODY")
  | _ => ("TugLines$Asker", "MARK_BODY")
def stL (i : Nat) : List Int32 := match i with
  | 0 => [5, 20, 20, 60, 60]
  | 1 => [-1, 0, 1, 1, 0, 4]
  | 2 => [10, 11, 12, 11, 13, 14]
  | _ => [20, 21, 24, 22, 23, 23]
def stV (i j : Nat) : Int32 := (stL i).getD j 0
def xEnv (X : WX) (U : State) : Prop := va_K X.2.1 vwCl (xT X) U ∧ ∀ i, i < 4 → va_Z (stN i).1 (stN i).2 "[I" (.ref (X.2.2.2 i)) (xA X) U U.heap ∧ va_T .int (X.2.2.2 i) (stL i).length (fun j => .int (stV i j)) (xA X) U U.heap
theorem xEnv.go {X : WX} {u U : State} (hvm : u.vm.Alike U.vm) (hq : ∀ a : Nat, a < u.heap.size → ¬ xA X a → U.heap[a]? = u.heap[a]?) (h : xEnv X u) : xEnv X U :=
  ⟨h.1.moved hvm, fun i hi => ⟨((h.2 i hi).1.moved hvm).kept hq, ((h.2 i hi).2.moved hvm).kept hq⟩⟩
def lw_g : List Cond := lw_tbl.filter goodWord
theorem lw_in {w : Cond} (h : w ∈ lw_tbl) (hg : goodWord w = true) : w ∈ lw_g := List.mem_filter.mpr ⟨h, hg⟩
theorem lw_gG : GoodIn lw_g lw_g := fun w h => ⟨h, good_of_word (List.mem_filter.mp h).2⟩
abbrev MC : Type := Program × Launch × Env × Room × State × MethodId × Array Value × List Frame × Method × Code × Nat × Nat
def Ok (K : MC) (X : WX) (own : String) (cc : ByteArray) (nL : Nat) (ret : Option FieldType) (kk : Nat) : Prop := match K with
  | (p, _, _, R, s, m, args, _, meth, c, cells, slots) => p.tables.exec = Jvm.exec ∧ c.code = cc ∧ c.maxLocals = nL ∧ s.vm.findClass own = some m.cls ∧ (∀ w ∈ lw_g, w.before args s = true) ∧ meth.locks = false ∧ meth.sig.returnType = ret ∧ xEnv X s ∧ kk ≤ R.frames ∧ 64 * kk ≤ R.locals ∧ cells ≤ R.cells ∧ slots ≤ R.slots
def JW (K : MC) (Z : State → Prop) (H : Heap) (locs : List Loc) (pc : Nat) (ls : Array Slot) (st : List Value) : Prop := match K with
  | (p, l, e, R, s, m, args, below, meth, c, cells, slots) => W p l e R s m args below meth c H locs cells slots Z (F0 m pc ls st)
def kS (K : MC) : State := K.2.2.2.2.1
def kL (K : MC) : Launch := K.2.1
/-- the code at pc, with these locals, stack and heap, does what the term o says: where o is some (r, h'), it comes to Z of r and h' -/
def J {α : Type} (K : MC) (X : WX) (nL : Nat) (Z : Option Value → AH → State → Prop) (enc : α → Option Value) (pc : Nat) (lv : List (Nat × Value)) (st : List Value) (h : AH) (o : Option (α × AH)) : Prop :=
  ∀ (r : α) (h' : AH), o = some (r, h') → ∀ (H : Heap) (locs : List Loc) (ls : Array Slot), Hp X h H → va_S (xA X) (kS K).heap H locs → lv_has ls nL lv → JW K (Z (enc r) h') H locs pc ls st
abbrev DD (cc : ByteArray) (pc : Nat) (i : Instr) (len pc' : Nat) : Prop := decode cc pc = .ok (i, len) ∧ pc + len = pc'
abbrev DT (pc : Nat) (off : Int) (tgt : Nat) : Prop := (pc : Int) + off = (tgt : Int)
abbrev inb (i : Int32) (n : Nat) : Prop := ¬ (i < 0 ∨ n ≤ i.toNatClampNeg)
def chk {α : Type} (c : Prop) [Decidable c] (o : Option α) : Option α := if c then o else none
def sto {β : Type} (h : AH) (k : AH → β) : β := k h
def vl {α β : Type} (v : α) (k : α → β) : β := k v
theorem chk_some {α : Type} {c : Prop} [Decidable c] {o : Option α} {v : α} (h : chk c o = some v) : c ∧ o = some v := by
  unfold chk at h
  split at h
  · exact ⟨by assumption, h⟩
  · cases h
def eI : Int32 → Option Value := fun v => some (.int v)
def eV : Unit → Option Value := fun _ => none
def eR (X : WX) : Nat → Option Value := fun a => some (.ref (X.1 + a))
end
section
section JR
variable {α : Type} {K : MC} {X : WX} {nL : Nat} {Z : Option Value → AH → State → Prop} {enc : α → Option Value} {own : String} {cc : ByteArray} {ret : Option FieldType} {kk pc pc' : Nat} {lv : List (Nat × Value)} {st : List Value} {h : AH} {o : Option (α × AH)}
theorem J_iadd {x y : Int32} (hK : Ok K X own cc nL ret kk) (hd : DD cc pc .iadd 1 pc') (k : J K X nL Z enc pc' lv (.int (x + y) :: st) h o) : J K X nL Z enc pc lv (.int y :: .int x :: st) h o := by
  obtain ⟨p, l, e, R, s, m, args, below, meth, c, cells, slots⟩ := K
  obtain ⟨hx, hb, hml, hown, hts, hlk, hrt, hE, hfr, hlo, hce, hsl⟩ := hK
  obtain ⟨hd, rfl⟩ := hd
  intro r h' ho H locs ls hH hS hl
  exact lv_iadd hx hb hd (k r h' ho H locs ls hH hS hl)
theorem J_isub {x y : Int32} (hK : Ok K X own cc nL ret kk) (hd : DD cc pc .isub 1 pc') (k : J K X nL Z enc pc' lv (.int (x - y) :: st) h o) : J K X nL Z enc pc lv (.int y :: .int x :: st) h o := by
  obtain ⟨p, l, e, R, s, m, args, below, meth, c, cells, slots⟩ := K
  obtain ⟨hx, hb, hml, hown, hts, hlk, hrt, hE, hfr, hlo, hce, hsl⟩ := hK
  obtain ⟨hd, rfl⟩ := hd
  intro r h' ho H locs ls hH hS hl
  exact lv_isub hx hb hd (k r h' ho H locs ls hH hS hl)
theorem J_imul {x y : Int32} (hK : Ok K X own cc nL ret kk) (hd : DD cc pc .imul 1 pc') (k : J K X nL Z enc pc' lv (.int (x * y) :: st) h o) : J K X nL Z enc pc lv (.int y :: .int x :: st) h o := by
  obtain ⟨p, l, e, R, s, m, args, below, meth, c, cells, slots⟩ := K
  obtain ⟨hx, hb, hml, hown, hts, hlk, hrt, hE, hfr, hlo, hce, hsl⟩ := hK
  obtain ⟨hd, rfl⟩ := hd
  intro r h' ho H locs ls hH hS hl
  exact lv_imul hx hb hd (k r h' ho H locs ls hH hS hl)
theorem J_iand {x y : Int32} (hK : Ok K X own cc nL ret kk) (hd : DD cc pc .iand 1 pc') (k : J K X nL Z enc pc' lv (.int (x &&& y) :: st) h o) : J K X nL Z enc pc lv (.int y :: .int x :: st) h o := by
  obtain ⟨p, l, e, R, s, m, args, below, meth, c, cells, slots⟩ := K
  obtain ⟨hx, hb, hml, hown, hts, hlk, hrt, hE, hfr, hlo, hce, hsl⟩ := hK
  obtain ⟨hd, rfl⟩ := hd
  intro r h' ho H locs ls hH hS hl
  exact lv_iand hx hb hd (k r h' ho H locs ls hH hS hl)
theorem J_ior {x y : Int32} (hK : Ok K X own cc nL ret kk) (hd : DD cc pc .ior 1 pc') (k : J K X nL Z enc pc' lv (.int (x ||| y) :: st) h o) : J K X nL Z enc pc lv (.int y :: .int x :: st) h o := by
  obtain ⟨p, l, e, R, s, m, args, below, meth, c, cells, slots⟩ := K
  obtain ⟨hx, hb, hml, hown, hts, hlk, hrt, hE, hfr, hlo, hce, hsl⟩ := hK
  obtain ⟨hd, rfl⟩ := hd
  intro r h' ho H locs ls hH hS hl
  exact lv_ior hx hb hd (k r h' ho H locs ls hH hS hl)
theorem J_ixor {x y : Int32} (hK : Ok K X own cc nL ret kk) (hd : DD cc pc .ixor 1 pc') (k : J K X nL Z enc pc' lv (.int (x ^^^ y) :: st) h o) : J K X nL Z enc pc lv (.int y :: .int x :: st) h o := by
  obtain ⟨p, l, e, R, s, m, args, below, meth, c, cells, slots⟩ := K
  obtain ⟨hx, hb, hml, hown, hts, hlk, hrt, hE, hfr, hlo, hce, hsl⟩ := hK
  obtain ⟨hd, rfl⟩ := hd
  intro r h' ho H locs ls hH hS hl
  exact lv_ixor hx hb hd (k r h' ho H locs ls hH hS hl)
theorem J_ishl {x y : Int32} (hK : Ok K X own cc nL ret kk) (hd : DD cc pc .ishl 1 pc') (k : J K X nL Z enc pc' lv (.int (x <<< (y &&& 31)) :: st) h o) : J K X nL Z enc pc lv (.int y :: .int x :: st) h o := by
  obtain ⟨p, l, e, R, s, m, args, below, meth, c, cells, slots⟩ := K
  obtain ⟨hx, hb, hml, hown, hts, hlk, hrt, hE, hfr, hlo, hce, hsl⟩ := hK
  obtain ⟨hd, rfl⟩ := hd
  intro r h' ho H locs ls hH hS hl
  exact lv_ishl hx hb hd (k r h' ho H locs ls hH hS hl)
theorem J_ishr {x y : Int32} (hK : Ok K X own cc nL ret kk) (hd : DD cc pc .ishr 1 pc') (k : J K X nL Z enc pc' lv (.int (x >>> (y &&& 31)) :: st) h o) : J K X nL Z enc pc lv (.int y :: .int x :: st) h o := by
  obtain ⟨p, l, e, R, s, m, args, below, meth, c, cells, slots⟩ := K
  obtain ⟨hx, hb, hml, hown, hts, hlk, hrt, hE, hfr, hlo, hce, hsl⟩ := hK
  obtain ⟨hd, rfl⟩ := hd
  intro r h' ho H locs ls hH hS hl
  exact lv_ishr hx hb hd (k r h' ho H locs ls hH hS hl)
theorem J_ineg {x : Int32} (hK : Ok K X own cc nL ret kk) (hd : DD cc pc .ineg 1 pc') (k : J K X nL Z enc pc' lv (.int (-x) :: st) h o) : J K X nL Z enc pc lv (.int x :: st) h o := by
  obtain ⟨p, l, e, R, s, m, args, below, meth, c, cells, slots⟩ := K
  obtain ⟨hx, hb, hml, hown, hts, hlk, hrt, hE, hfr, hlo, hce, hsl⟩ := hK
  obtain ⟨hd, rfl⟩ := hd
  intro r h' ho H locs ls hH hS hl
  exact lv_ineg hx hb hd (k r h' ho H locs ls hH hS hl)
theorem J_iushr {x y : Int32} (hK : Ok K X own cc nL ret kk) (hd : DD cc pc .iushr 1 pc') (k : J K X nL Z enc pc' lv (.int ((x.toUInt32 >>> (y.toUInt32 &&& Int32.toUInt32 31)).toInt32) :: st) h o) : J K X nL Z enc pc lv (.int y :: .int x :: st) h o := by
  obtain ⟨p, l, e, R, s, m, args, below, meth, c, cells, slots⟩ := K
  obtain ⟨hx, hb, hml, hown, hts, hlk, hrt, hE, hfr, hlo, hce, hsl⟩ := hK
  obtain ⟨hd, rfl⟩ := hd
  intro r h' ho H locs ls hH hS hl
  exact lv_iushr hx hb hd rfl (k r h' ho H locs ls hH hS hl)
theorem J_lmul {x y : Int64} (hK : Ok K X own cc nL ret kk) (hd : DD cc pc .lmul 1 pc') (k : J K X nL Z enc pc' lv (.long (x * y) :: st) h o) : J K X nL Z enc pc lv (.long y :: .long x :: st) h o := by
  obtain ⟨p, l, e, R, s, m, args, below, meth, c, cells, slots⟩ := K
  obtain ⟨hx, hb, hml, hown, hts, hlk, hrt, hE, hfr, hlo, hce, hsl⟩ := hK
  obtain ⟨hd, rfl⟩ := hd
  intro r h' ho H locs ls hH hS hl
  exact lv_lmul hx hb hd (k r h' ho H locs ls hH hS hl)
theorem J_lcmp {x y : Int64} (hK : Ok K X own cc nL ret kk) (hd : DD cc pc .lcmp 1 pc') (k : J K X nL Z enc pc' lv (.int (lg_cmp x y) :: st) h o) : J K X nL Z enc pc lv (.long y :: .long x :: st) h o := by
  obtain ⟨p, l, e, R, s, m, args, below, meth, c, cells, slots⟩ := K
  obtain ⟨hx, hb, hml, hown, hts, hlk, hrt, hE, hfr, hlo, hce, hsl⟩ := hK
  obtain ⟨hd, rfl⟩ := hd
  intro r h' ho H locs ls hH hS hl
  exact W.lcmp hx hb hd (k r h' ho H locs ls hH hS hl)
theorem J_i2l {x : Int32} (hK : Ok K X own cc nL ret kk) (hd : DD cc pc .i2l 1 pc') (k : J K X nL Z enc pc' lv (.long x.toInt64 :: st) h o) : J K X nL Z enc pc lv (.int x :: st) h o := by
  obtain ⟨p, l, e, R, s, m, args, below, meth, c, cells, slots⟩ := K
  obtain ⟨hx, hb, hml, hown, hts, hlk, hrt, hE, hfr, hlo, hce, hsl⟩ := hK
  obtain ⟨hd, rfl⟩ := hd
  intro r h' ho H locs ls hH hS hl
  exact lv_i2l hx hb hd rfl (k r h' ho H locs ls hH hS hl)
theorem J_l2i {x : Int64} (hK : Ok K X own cc nL ret kk) (hd : DD cc pc .l2i 1 pc') (k : J K X nL Z enc pc' lv (.int x.toInt32 :: st) h o) : J K X nL Z enc pc lv (.long x :: st) h o := by
  obtain ⟨p, l, e, R, s, m, args, below, meth, c, cells, slots⟩ := K
  obtain ⟨hx, hb, hml, hown, hts, hlk, hrt, hE, hfr, hlo, hce, hsl⟩ := hK
  obtain ⟨hd, rfl⟩ := hd
  intro r h' ho H locs ls hH hS hl
  exact lv_l2i hx hb hd rfl (k r h' ho H locs ls hH hS hl)
theorem J_i2b {x : Int32} (hK : Ok K X own cc nL ret kk) (hd : DD cc pc .i2b 1 pc') (k : J K X nL Z enc pc' lv (.int x.toInt8.toInt32 :: st) h o) : J K X nL Z enc pc lv (.int x :: st) h o := by
  obtain ⟨p, l, e, R, s, m, args, below, meth, c, cells, slots⟩ := K
  obtain ⟨hx, hb, hml, hown, hts, hlk, hrt, hE, hfr, hlo, hce, hsl⟩ := hK
  obtain ⟨hd, rfl⟩ := hd
  intro r h' ho H locs ls hH hS hl
  exact lv_i2b hx hb hd rfl (k r h' ho H locs ls hH hS hl)
theorem J_i2s {x : Int32} (hK : Ok K X own cc nL ret kk) (hd : DD cc pc .i2s 1 pc') (k : J K X nL Z enc pc' lv (.int x.toInt16.toInt32 :: st) h o) : J K X nL Z enc pc lv (.int x :: st) h o := by
  obtain ⟨p, l, e, R, s, m, args, below, meth, c, cells, slots⟩ := K
  obtain ⟨hx, hb, hml, hown, hts, hlk, hrt, hE, hfr, hlo, hce, hsl⟩ := hK
  obtain ⟨hd, rfl⟩ := hd
  intro r h' ho H locs ls hH hS hl
  exact lv_i2s hx hb hd rfl (k r h' ho H locs ls hH hS hl)
theorem J_iconst {n : Int} {v : Int32} (hK : Ok K X own cc nL ret kk) (hd : DD cc pc (.iconst n) 1 pc') (hv : Int32.ofInt n = v) (k : J K X nL Z enc pc' lv (.int v :: st) h o) : J K X nL Z enc pc lv st h o := by
  obtain ⟨p, l, e, R, s, m, args, below, meth, c, cells, slots⟩ := K
  obtain ⟨hx, hb, hml, hown, hts, hlk, hrt, hE, hfr, hlo, hce, hsl⟩ := hK
  obtain ⟨hd, rfl⟩ := hd
  intro r h' ho H locs ls hH hS hl
  exact lv_iconst hx hb hd hv (k r h' ho H locs ls hH hS hl)
theorem J_bipush {n : Int} {v : Int32} (hK : Ok K X own cc nL ret kk) (hd : DD cc pc (.bipush n) 2 pc') (hv : (Int8.ofInt n).toInt32 = v) (k : J K X nL Z enc pc' lv (.int v :: st) h o) : J K X nL Z enc pc lv st h o := by
  obtain ⟨p, l, e, R, s, m, args, below, meth, c, cells, slots⟩ := K
  obtain ⟨hx, hb, hml, hown, hts, hlk, hrt, hE, hfr, hlo, hce, hsl⟩ := hK
  obtain ⟨hd, rfl⟩ := hd
  intro r h' ho H locs ls hH hS hl
  exact lv_bipush hx hb hd hv (k r h' ho H locs ls hH hS hl)
theorem J_sipush {n : Int} {v : Int32} (hK : Ok K X own cc nL ret kk) (hd : DD cc pc (.sipush n) 3 pc') (hv : (Int16.ofInt n).toInt32 = v) (k : J K X nL Z enc pc' lv (.int v :: st) h o) : J K X nL Z enc pc lv st h o := by
  obtain ⟨p, l, e, R, s, m, args, below, meth, c, cells, slots⟩ := K
  obtain ⟨hx, hb, hml, hown, hts, hlk, hrt, hE, hfr, hlo, hce, hsl⟩ := hK
  obtain ⟨hd, rfl⟩ := hd
  intro r h' ho H locs ls hH hS hl
  exact lv_sipush hx hb hd hv (k r h' ho H locs ls hH hS hl)
theorem J_lconst {n : Fin 2} {v : Int64} (hK : Ok K X own cc nL ret kk) (hd : DD cc pc (.lconst n) 1 pc') (hv : Int64.ofNat (n : Nat) = v) (k : J K X nL Z enc pc' lv (.long v :: st) h o) : J K X nL Z enc pc lv st h o := by
  obtain ⟨p, l, e, R, s, m, args, below, meth, c, cells, slots⟩ := K
  obtain ⟨hx, hb, hml, hown, hts, hlk, hrt, hE, hfr, hlo, hce, hsl⟩ := hK
  obtain ⟨hd, rfl⟩ := hd
  intro r h' ho H locs ls hH hS hl
  exact lv_lconst hx hb hd hv (k r h' ho H locs ls hH hS hl)
theorem J_ldc {index : Nat} {v : Int32} (hK : Ok K X own cc nL ret kk) (hd : DD cc pc (.ldc index) 2 pc') (hv : Cond.constant own index v ∈ lw_tbl) (k : J K X nL Z enc pc' lv (.int v :: st) h o) : J K X nL Z enc pc lv st h o := by
  obtain ⟨p, l, e, R, s, m, args, below, meth, c, cells, slots⟩ := K
  obtain ⟨hx, hb, hml, hown, hts, hlk, hrt, hE, hfr, hlo, hce, hsl⟩ := hK
  obtain ⟨hd, rfl⟩ := hd
  intro r h' ho H locs ls hH hS hl
  exact lv_ldc hx hb hown (hts _ (lw_in hv rfl)) hd (k r h' ho H locs ls hH hS hl)
theorem J_ldcw {index : Nat} {v : Int32} (hK : Ok K X own cc nL ret kk) (hd : DD cc pc (.ldc_w index) 3 pc') (hv : Cond.constant own index v ∈ lw_tbl) (k : J K X nL Z enc pc' lv (.int v :: st) h o) : J K X nL Z enc pc lv st h o := by
  obtain ⟨p, l, e, R, s, m, args, below, meth, c, cells, slots⟩ := K
  obtain ⟨hx, hb, hml, hown, hts, hlk, hrt, hE, hfr, hlo, hce, hsl⟩ := hK
  obtain ⟨hd, rfl⟩ := hd
  intro r h' ho H locs ls hH hS hl
  exact lv_ldcw hx hb hown (hts _ (lw_in hv rfl)) hd (k r h' ho H locs ls hH hS hl)
theorem J_ldc2 {index : Nat} {v : Int64} (hK : Ok K X own cc nL ret kk) (hd : DD cc pc (.ldc2_w index) 3 pc') (hv : Cond.constantLong own index v ∈ lw_tbl) (k : J K X nL Z enc pc' lv (.long v :: st) h o) : J K X nL Z enc pc lv st h o := by
  obtain ⟨p, l, e, R, s, m, args, below, meth, c, cells, slots⟩ := K
  obtain ⟨hx, hb, hml, hown, hts, hlk, hrt, hE, hfr, hlo, hce, hsl⟩ := hK
  obtain ⟨hd, rfl⟩ := hd
  intro r h' ho H locs ls hH hS hl
  exact lv_ldc2 hx hb hown (hts _ (lw_in hv rfl)) hd (k r h' ho H locs ls hH hS hl)
theorem J_dup {v : Value} (hK : Ok K X own cc nL ret kk) (hd : DD cc pc .dup 1 pc') (hv : v.category = 1) (k : J K X nL Z enc pc' lv (v :: v :: st) h o) : J K X nL Z enc pc lv (v :: st) h o := by
  obtain ⟨p, l, e, R, s, m, args, below, meth, c, cells, slots⟩ := K
  obtain ⟨hx, hb, hml, hown, hts, hlk, hrt, hE, hfr, hlo, hce, hsl⟩ := hK
  obtain ⟨hd, rfl⟩ := hd
  intro r h' ho H locs ls hH hS hl
  exact lv_dup hx hb hd hv (k r h' ho H locs ls hH hS hl)
theorem J_dup2 {v w : Value} (hK : Ok K X own cc nL ret kk) (hd : DD cc pc .dup2 1 pc') (hv : v.category = 1) (hw : w.category = 1) (k : J K X nL Z enc pc' lv (v :: w :: v :: w :: st) h o) : J K X nL Z enc pc lv (v :: w :: st) h o := by
  obtain ⟨p, l, e, R, s, m, args, below, meth, c, cells, slots⟩ := K
  obtain ⟨hx, hb, hml, hown, hts, hlk, hrt, hE, hfr, hlo, hce, hsl⟩ := hK
  obtain ⟨hd, rfl⟩ := hd
  intro r h' ho H locs ls hH hS hl
  exact lv_dup2_11 hx hb hd hv hw (k r h' ho H locs ls hH hS hl)
theorem J_pop {v : Value} (hK : Ok K X own cc nL ret kk) (hd : DD cc pc .pop 1 pc') (hv : v.category = 1) (k : J K X nL Z enc pc' lv st h o) : J K X nL Z enc pc lv (v :: st) h o := by
  obtain ⟨p, l, e, R, s, m, args, below, meth, c, cells, slots⟩ := K
  obtain ⟨hx, hb, hml, hown, hts, hlk, hrt, hE, hfr, hlo, hce, hsl⟩ := hK
  obtain ⟨hd, rfl⟩ := hd
  intro r h' ho H locs ls hH hS hl
  exact lv_pop hx hb hd hv (k r h' ho H locs ls hH hS hl)
theorem J_iload {i : Nat} {x : Int32} (hK : Ok K X own cc nL ret kk) (hd : DD cc pc (.iload i) 2 pc') (j : Nat) (hj : lv[j]? = some (i, .int x)) (k : J K X nL Z enc pc' lv (.int x :: st) h o) : J K X nL Z enc pc lv st h o := by
  obtain ⟨p, l, e, R, s, m, args, below, meth, c, cells, slots⟩ := K
  obtain ⟨hx, hb, hml, hown, hts, hlk, hrt, hE, hfr, hlo, hce, hsl⟩ := hK
  obtain ⟨hd, rfl⟩ := hd
  intro r h' ho H locs ls hH hS hl
  exact lv_iload hx hb hd (lv_at hl j hj) (k r h' ho H locs ls hH hS hl)
theorem J_iload_n {i : Fin 4} {x : Int32} (hK : Ok K X own cc nL ret kk) (hd : DD cc pc (.iload_n i) 1 pc') (j : Nat) (hj : lv[j]? = some ((i : Nat), .int x)) (k : J K X nL Z enc pc' lv (.int x :: st) h o) : J K X nL Z enc pc lv st h o := by
  obtain ⟨p, l, e, R, s, m, args, below, meth, c, cells, slots⟩ := K
  obtain ⟨hx, hb, hml, hown, hts, hlk, hrt, hE, hfr, hlo, hce, hsl⟩ := hK
  obtain ⟨hd, rfl⟩ := hd
  intro r h' ho H locs ls hH hS hl
  exact lv_iload_n hx hb hd rfl (lv_at hl j hj) (k r h' ho H locs ls hH hS hl)
theorem J_lload {i : Nat} {x : Int64} (hK : Ok K X own cc nL ret kk) (hd : DD cc pc (.lload i) 2 pc') (j : Nat) (hj : lv[j]? = some (i, .long x)) (k : J K X nL Z enc pc' lv (.long x :: st) h o) : J K X nL Z enc pc lv st h o := by
  obtain ⟨p, l, e, R, s, m, args, below, meth, c, cells, slots⟩ := K
  obtain ⟨hx, hb, hml, hown, hts, hlk, hrt, hE, hfr, hlo, hce, hsl⟩ := hK
  obtain ⟨hd, rfl⟩ := hd
  intro r h' ho H locs ls hH hS hl
  exact lv_lload hx hb hd (lv_at hl j hj) (k r h' ho H locs ls hH hS hl)
theorem J_lload_n {i : Fin 4} {x : Int64} (hK : Ok K X own cc nL ret kk) (hd : DD cc pc (.lload_n i) 1 pc') (j : Nat) (hj : lv[j]? = some ((i : Nat), .long x)) (k : J K X nL Z enc pc' lv (.long x :: st) h o) : J K X nL Z enc pc lv st h o := by
  obtain ⟨p, l, e, R, s, m, args, below, meth, c, cells, slots⟩ := K
  obtain ⟨hx, hb, hml, hown, hts, hlk, hrt, hE, hfr, hlo, hce, hsl⟩ := hK
  obtain ⟨hd, rfl⟩ := hd
  intro r h' ho H locs ls hH hS hl
  exact lv_lload_n hx hb hd rfl (lv_at hl j hj) (k r h' ho H locs ls hH hS hl)
theorem J_aload {i : Nat} {x : Nat} (hK : Ok K X own cc nL ret kk) (hd : DD cc pc (.aload i) 2 pc') (j : Nat) (hj : lv[j]? = some (i, .ref x)) (k : J K X nL Z enc pc' lv (.ref x :: st) h o) : J K X nL Z enc pc lv st h o := by
  obtain ⟨p, l, e, R, s, m, args, below, meth, c, cells, slots⟩ := K
  obtain ⟨hx, hb, hml, hown, hts, hlk, hrt, hE, hfr, hlo, hce, hsl⟩ := hK
  obtain ⟨hd, rfl⟩ := hd
  intro r h' ho H locs ls hH hS hl
  exact lv_aload hx hb hd (lv_at hl j hj) (k r h' ho H locs ls hH hS hl)
theorem J_aload_n {i : Fin 4} {x : Nat} (hK : Ok K X own cc nL ret kk) (hd : DD cc pc (.aload_n i) 1 pc') (j : Nat) (hj : lv[j]? = some ((i : Nat), .ref x)) (k : J K X nL Z enc pc' lv (.ref x :: st) h o) : J K X nL Z enc pc lv st h o := by
  obtain ⟨p, l, e, R, s, m, args, below, meth, c, cells, slots⟩ := K
  obtain ⟨hx, hb, hml, hown, hts, hlk, hrt, hE, hfr, hlo, hce, hsl⟩ := hK
  obtain ⟨hd, rfl⟩ := hd
  intro r h' ho H locs ls hH hS hl
  exact lv_aload_n hx hb hd rfl (lv_at hl j hj) (k r h' ho H locs ls hH hS hl)
theorem J_istore {i : Nat} {x : Int32} {lw : List (Nat × Value)} (hK : Ok K X own cc nL ret kk) (hd : DD cc pc (.istore i) 2 pc') (hn : i < nL) (hw : lv.filter (fun q => !(q.1 == i) && !(q.1 + 1 == i && q.2.category == 2)) = lw) (k : J K X nL Z enc pc' ((i, Value.int x) :: lw) st h o) : J K X nL Z enc pc lv (.int x :: st) h o := by
  obtain ⟨p, l, e, R, s, m, args, below, meth, c, cells, slots⟩ := K
  obtain ⟨hx, hb, hml, hown, hts, hlk, hrt, hE, hfr, hlo, hce, hsl⟩ := hK
  obtain ⟨hd, rfl⟩ := hd
  intro r h' ho H locs ls hH hS hl
  exact lv_istore hx hb hd hl hn (by rw [hw]) (fun ls hl => k r h' ho H locs ls hH hS hl)
theorem J_istoreV {i : Nat} {x : Int32} {lw : List (Nat × Value)} {f : Int32 → Option (α × AH)} (hK : Ok K X own cc nL ret kk) (hd : DD cc pc (.istore i) 2 pc') (hn : i < nL) (hw : lv.filter (fun q => !(q.1 == i) && !(q.1 + 1 == i && q.2.category == 2)) = lw) (k : ∀ z : Int32, J K X nL Z enc pc' ((i, Value.int z) :: lw) st h (f z)) : J K X nL Z enc pc lv (.int x :: st) h (vl x f) := J_istore hK hd hn hw (k x)
theorem J_istore_n {i : Fin 4} {x : Int32} {lw : List (Nat × Value)} (hK : Ok K X own cc nL ret kk) (hd : DD cc pc (.istore_n i) 1 pc') (hn : (i : Nat) < nL) (hw : lv.filter (fun q => !(q.1 == (i : Nat)) && !(q.1 + 1 == (i : Nat) && q.2.category == 2)) = lw) (k : J K X nL Z enc pc' (((i : Nat), Value.int x) :: lw) st h o) : J K X nL Z enc pc lv (.int x :: st) h o := by
  obtain ⟨p, l, e, R, s, m, args, below, meth, c, cells, slots⟩ := K
  obtain ⟨hx, hb, hml, hown, hts, hlk, hrt, hE, hfr, hlo, hce, hsl⟩ := hK
  obtain ⟨hd, rfl⟩ := hd
  intro r h' ho H locs ls hH hS hl
  exact lv_istore_n hx hb hd rfl hl hn (by rw [hw]) (fun ls hl => k r h' ho H locs ls hH hS hl)
theorem J_istoreV_n {i : Fin 4} {x : Int32} {lw : List (Nat × Value)} {f : Int32 → Option (α × AH)} (hK : Ok K X own cc nL ret kk) (hd : DD cc pc (.istore_n i) 1 pc') (hn : (i : Nat) < nL) (hw : lv.filter (fun q => !(q.1 == (i : Nat)) && !(q.1 + 1 == (i : Nat) && q.2.category == 2)) = lw) (k : ∀ z : Int32, J K X nL Z enc pc' (((i : Nat), Value.int z) :: lw) st h (f z)) : J K X nL Z enc pc lv (.int x :: st) h (vl x f) := J_istore_n hK hd hn hw (k x)
theorem J_astore {i : Nat} {x : Nat} {lw : List (Nat × Value)} (hK : Ok K X own cc nL ret kk) (hd : DD cc pc (.astore i) 2 pc') (hn : i < nL) (hw : lv.filter (fun q => !(q.1 == i) && !(q.1 + 1 == i && q.2.category == 2)) = lw) (k : J K X nL Z enc pc' ((i, Value.ref x) :: lw) st h o) : J K X nL Z enc pc lv (.ref x :: st) h o := by
  obtain ⟨p, l, e, R, s, m, args, below, meth, c, cells, slots⟩ := K
  obtain ⟨hx, hb, hml, hown, hts, hlk, hrt, hE, hfr, hlo, hce, hsl⟩ := hK
  obtain ⟨hd, rfl⟩ := hd
  intro r h' ho H locs ls hH hS hl
  exact lv_astore hx hb hd hl hn (by rw [hw]) (fun ls hl => k r h' ho H locs ls hH hS hl)
theorem J_astore_n {i : Fin 4} {x : Nat} {lw : List (Nat × Value)} (hK : Ok K X own cc nL ret kk) (hd : DD cc pc (.astore_n i) 1 pc') (hn : (i : Nat) < nL) (hw : lv.filter (fun q => !(q.1 == (i : Nat)) && !(q.1 + 1 == (i : Nat) && q.2.category == 2)) = lw) (k : J K X nL Z enc pc' (((i : Nat), Value.ref x) :: lw) st h o) : J K X nL Z enc pc lv (.ref x :: st) h o := by
  obtain ⟨p, l, e, R, s, m, args, below, meth, c, cells, slots⟩ := K
  obtain ⟨hx, hb, hml, hown, hts, hlk, hrt, hE, hfr, hlo, hce, hsl⟩ := hK
  obtain ⟨hd, rfl⟩ := hd
  intro r h' ho H locs ls hH hS hl
  exact lv_astore_n hx hb hd rfl hl hn (by rw [hw]) (fun ls hl => k r h' ho H locs ls hH hS hl)
theorem J_lstore {i : Nat} {x : Int64} {lw : List (Nat × Value)} (hK : Ok K X own cc nL ret kk) (hd : DD cc pc (.lstore i) 2 pc') (hn : i + 1 < nL) (hw : lv.filter (fun q => !(q.1 == i) && (!(q.1 == i + 1) && !(q.1 + 1 == i && q.2.category == 2))) = lw) (k : J K X nL Z enc pc' ((i, Value.long x) :: lw) st h o) : J K X nL Z enc pc lv (.long x :: st) h o := by
  obtain ⟨p, l, e, R, s, m, args, below, meth, c, cells, slots⟩ := K
  obtain ⟨hx, hb, hml, hown, hts, hlk, hrt, hE, hfr, hlo, hce, hsl⟩ := hK
  obtain ⟨hd, rfl⟩ := hd
  intro r h' ho H locs ls hH hS hl
  exact lv_lstore hx hb hd hl hn (by rw [hw]) (fun ls hl => k r h' ho H locs ls hH hS hl)
theorem J_lstoreV {i : Nat} {x : Int64} {lw : List (Nat × Value)} {f : Int64 → Option (α × AH)} (hK : Ok K X own cc nL ret kk) (hd : DD cc pc (.lstore i) 2 pc') (hn : i + 1 < nL) (hw : lv.filter (fun q => !(q.1 == i) && (!(q.1 == i + 1) && !(q.1 + 1 == i && q.2.category == 2))) = lw) (k : ∀ z : Int64, J K X nL Z enc pc' ((i, Value.long z) :: lw) st h (f z)) : J K X nL Z enc pc lv (.long x :: st) h (vl x f) := J_lstore hK hd hn hw (k x)
theorem J_lstore_n {i : Fin 4} {x : Int64} {lw : List (Nat × Value)} (hK : Ok K X own cc nL ret kk) (hd : DD cc pc (.lstore_n i) 1 pc') (hn : (i : Nat) + 1 < nL) (hw : lv.filter (fun q => !(q.1 == (i : Nat)) && (!(q.1 == (i : Nat) + 1) && !(q.1 + 1 == (i : Nat) && q.2.category == 2))) = lw) (k : J K X nL Z enc pc' (((i : Nat), Value.long x) :: lw) st h o) : J K X nL Z enc pc lv (.long x :: st) h o := by
  obtain ⟨p, l, e, R, s, m, args, below, meth, c, cells, slots⟩ := K
  obtain ⟨hx, hb, hml, hown, hts, hlk, hrt, hE, hfr, hlo, hce, hsl⟩ := hK
  obtain ⟨hd, rfl⟩ := hd
  intro r h' ho H locs ls hH hS hl
  exact lv_lstore_n hx hb hd rfl hl hn (by rw [hw]) (fun ls hl => k r h' ho H locs ls hH hS hl)
theorem J_lstoreV_n {i : Fin 4} {x : Int64} {lw : List (Nat × Value)} {f : Int64 → Option (α × AH)} (hK : Ok K X own cc nL ret kk) (hd : DD cc pc (.lstore_n i) 1 pc') (hn : (i : Nat) + 1 < nL) (hw : lv.filter (fun q => !(q.1 == (i : Nat)) && (!(q.1 == (i : Nat) + 1) && !(q.1 + 1 == (i : Nat) && q.2.category == 2))) = lw) (k : ∀ z : Int64, J K X nL Z enc pc' (((i : Nat), Value.long z) :: lw) st h (f z)) : J K X nL Z enc pc lv (.long x :: st) h (vl x f) := J_lstore_n hK hd hn hw (k x)
theorem J_iinc {i : Nat} {n : Int} {x v : Int32} {lw : List (Nat × Value)} {f : Int32 → Option (α × AH)} (hK : Ok K X own cc nL ret kk) (hd : DD cc pc (.iinc i n) 3 pc') (j : Nat) (hj : lv[j]? = some (i, .int x)) (hn : i < nL) (hv : Int32.ofInt n = v) (hw : lv.filter (fun q => !(q.1 == i) && !(q.1 + 1 == i && q.2.category == 2)) = lw) (k : ∀ z : Int32, J K X nL Z enc pc' ((i, Value.int z) :: lw) st h (f z)) : J K X nL Z enc pc lv st h (vl (x + v) f) := by
  obtain ⟨p, l, e, R, s, m, args, below, meth, c, cells, slots⟩ := K
  obtain ⟨hx, hb, hml, hown, hts, hlk, hrt, hE, hfr, hlo, hce, hsl⟩ := hK
  obtain ⟨hd, rfl⟩ := hd
  intro r h' ho H locs ls hH hS hl
  exact lv_iinc hx hb hd hl hj (by rw [hv]) hn (by rw [hw]) (fun ls hl => k (x + v) r h' ho H locs ls hH hS hl)
theorem J_goto {off : Int} {tgt len : Nat} (hK : Ok K X own cc nL ret kk) (hd : DD cc pc (.goto off) 3 pc') (ht : DT pc off tgt) (k : J K X nL Z enc tgt lv st h o) : J K X nL Z enc pc lv st h o := by
  obtain ⟨p, l, e, R, s, m, args, below, meth, c, cells, slots⟩ := K
  obtain ⟨hx, hb, hml, hown, hts, hlk, hrt, hE, hfr, hlo, hce, hsl⟩ := hK
  obtain ⟨hd, rfl⟩ := hd
  intro r h' ho H locs ls hH hS hl
  exact lv_goto hx hb hd ht (k r h' ho H locs ls hH hS hl)
theorem J_if_eq {x : Int32} {off : Int} {tgt : Nat} {o1 o2 : Option (α × AH)} (hK : Ok K X own cc nL ret kk) (hd : DD cc pc (.ifCond .eq off) 3 pc') (ht : DT pc off tgt) (k1 : J K X nL Z enc tgt lv st h o1) (k2 : J K X nL Z enc pc' lv st h o2) : J K X nL Z enc pc lv (.int x :: st) h (if x = 0 then o1 else o2) := by
  obtain ⟨p, l, e, R, s, m, args, below, meth, c, cells, slots⟩ := K
  obtain ⟨hx, hb, hml, hown, hts, hlk, hrt, hE, hfr, hlo, hce, hsl⟩ := hK
  obtain ⟨hd, rfl⟩ := hd
  intro r h' ho H locs ls hH hS hl
  exact lv_if_eq hx hb hd ht (fun q => k1 r h' (by rw [if_pos q] at ho; exact ho) H locs ls hH hS hl) (fun q => k2 r h' (by rw [if_neg q] at ho; exact ho) H locs ls hH hS hl)
theorem J_if_ne {x : Int32} {off : Int} {tgt : Nat} {o1 o2 : Option (α × AH)} (hK : Ok K X own cc nL ret kk) (hd : DD cc pc (.ifCond .ne off) 3 pc') (ht : DT pc off tgt) (k1 : J K X nL Z enc pc' lv st h o1) (k2 : J K X nL Z enc tgt lv st h o2) : J K X nL Z enc pc lv (.int x :: st) h (if x = 0 then o1 else o2) := by
  obtain ⟨p, l, e, R, s, m, args, below, meth, c, cells, slots⟩ := K
  obtain ⟨hx, hb, hml, hown, hts, hlk, hrt, hE, hfr, hlo, hce, hsl⟩ := hK
  obtain ⟨hd, rfl⟩ := hd
  intro r h' ho H locs ls hH hS hl
  exact lv_if_ne hx hb hd ht (fun q => k2 r h' (by rw [if_neg q] at ho; exact ho) H locs ls hH hS hl) (fun q => k1 r h' (by rw [if_pos q] at ho; exact ho) H locs ls hH hS hl)
theorem J_if_lt {x : Int32} {off : Int} {tgt : Nat} {o1 o2 : Option (α × AH)} (hK : Ok K X own cc nL ret kk) (hd : DD cc pc (.ifCond .lt off) 3 pc') (ht : DT pc off tgt) (k1 : J K X nL Z enc tgt lv st h o1) (k2 : J K X nL Z enc pc' lv st h o2) : J K X nL Z enc pc lv (.int x :: st) h (if x < 0 then o1 else o2) := by
  obtain ⟨p, l, e, R, s, m, args, below, meth, c, cells, slots⟩ := K
  obtain ⟨hx, hb, hml, hown, hts, hlk, hrt, hE, hfr, hlo, hce, hsl⟩ := hK
  obtain ⟨hd, rfl⟩ := hd
  intro r h' ho H locs ls hH hS hl
  exact lv_if_lt hx hb hd ht (fun q => k1 r h' (by rw [if_pos q] at ho; exact ho) H locs ls hH hS hl) (fun q => k2 r h' (by rw [if_neg q] at ho; exact ho) H locs ls hH hS hl)
theorem J_if_ge {x : Int32} {off : Int} {tgt : Nat} {o1 o2 : Option (α × AH)} (hK : Ok K X own cc nL ret kk) (hd : DD cc pc (.ifCond .ge off) 3 pc') (ht : DT pc off tgt) (k1 : J K X nL Z enc pc' lv st h o1) (k2 : J K X nL Z enc tgt lv st h o2) : J K X nL Z enc pc lv (.int x :: st) h (if x < 0 then o1 else o2) := by
  obtain ⟨p, l, e, R, s, m, args, below, meth, c, cells, slots⟩ := K
  obtain ⟨hx, hb, hml, hown, hts, hlk, hrt, hE, hfr, hlo, hce, hsl⟩ := hK
  obtain ⟨hd, rfl⟩ := hd
  intro r h' ho H locs ls hH hS hl
  exact lv_if_ge hx hb hd ht (fun q => k2 r h' (by rw [if_neg (Int32.not_lt.mpr q)] at ho; exact ho) H locs ls hH hS hl) (fun q => k1 r h' (by rw [if_pos (Int32.not_le.mp q)] at ho; exact ho) H locs ls hH hS hl)
theorem J_if_gt {x : Int32} {off : Int} {tgt : Nat} {o1 o2 : Option (α × AH)} (hK : Ok K X own cc nL ret kk) (hd : DD cc pc (.ifCond .gt off) 3 pc') (ht : DT pc off tgt) (k1 : J K X nL Z enc tgt lv st h o1) (k2 : J K X nL Z enc pc' lv st h o2) : J K X nL Z enc pc lv (.int x :: st) h (if 0 < x then o1 else o2) := by
  obtain ⟨p, l, e, R, s, m, args, below, meth, c, cells, slots⟩ := K
  obtain ⟨hx, hb, hml, hown, hts, hlk, hrt, hE, hfr, hlo, hce, hsl⟩ := hK
  obtain ⟨hd, rfl⟩ := hd
  intro r h' ho H locs ls hH hS hl
  exact lv_if_gt hx hb hd ht (fun q => k1 r h' (by rw [if_pos q] at ho; exact ho) H locs ls hH hS hl) (fun q => k2 r h' (by rw [if_neg q] at ho; exact ho) H locs ls hH hS hl)
theorem J_if_le {x : Int32} {off : Int} {tgt : Nat} {o1 o2 : Option (α × AH)} (hK : Ok K X own cc nL ret kk) (hd : DD cc pc (.ifCond .le off) 3 pc') (ht : DT pc off tgt) (k1 : J K X nL Z enc pc' lv st h o1) (k2 : J K X nL Z enc tgt lv st h o2) : J K X nL Z enc pc lv (.int x :: st) h (if 0 < x then o1 else o2) := by
  obtain ⟨p, l, e, R, s, m, args, below, meth, c, cells, slots⟩ := K
  obtain ⟨hx, hb, hml, hown, hts, hlk, hrt, hE, hfr, hlo, hce, hsl⟩ := hK
  obtain ⟨hd, rfl⟩ := hd
  intro r h' ho H locs ls hH hS hl
  exact lv_if_le hx hb hd ht (fun q => k2 r h' (by rw [if_neg (Int32.not_lt.mpr q)] at ho; exact ho) H locs ls hH hS hl) (fun q => k1 r h' (by rw [if_pos (Int32.not_le.mp q)] at ho; exact ho) H locs ls hH hS hl)
theorem J_icmp_eq {x y : Int32} {off : Int} {tgt : Nat} {o1 o2 : Option (α × AH)} (hK : Ok K X own cc nL ret kk) (hd : DD cc pc (.if_icmp .eq off) 3 pc') (ht : DT pc off tgt) (k1 : J K X nL Z enc tgt lv st h o1) (k2 : J K X nL Z enc pc' lv st h o2) : J K X nL Z enc pc lv (.int y :: .int x :: st) h (if x = y then o1 else o2) := by
  obtain ⟨p, l, e, R, s, m, args, below, meth, c, cells, slots⟩ := K
  obtain ⟨hx, hb, hml, hown, hts, hlk, hrt, hE, hfr, hlo, hce, hsl⟩ := hK
  obtain ⟨hd, rfl⟩ := hd
  intro r h' ho H locs ls hH hS hl
  exact lv_icmp_eq hx hb hd ht (fun q => k1 r h' (by rw [if_pos q] at ho; exact ho) H locs ls hH hS hl) (fun q => k2 r h' (by rw [if_neg q] at ho; exact ho) H locs ls hH hS hl)
theorem J_icmp_ne {x y : Int32} {off : Int} {tgt : Nat} {o1 o2 : Option (α × AH)} (hK : Ok K X own cc nL ret kk) (hd : DD cc pc (.if_icmp .ne off) 3 pc') (ht : DT pc off tgt) (k1 : J K X nL Z enc pc' lv st h o1) (k2 : J K X nL Z enc tgt lv st h o2) : J K X nL Z enc pc lv (.int y :: .int x :: st) h (if x = y then o1 else o2) := by
  obtain ⟨p, l, e, R, s, m, args, below, meth, c, cells, slots⟩ := K
  obtain ⟨hx, hb, hml, hown, hts, hlk, hrt, hE, hfr, hlo, hce, hsl⟩ := hK
  obtain ⟨hd, rfl⟩ := hd
  intro r h' ho H locs ls hH hS hl
  exact lv_icmp_ne hx hb hd ht (fun q => k2 r h' (by rw [if_neg q] at ho; exact ho) H locs ls hH hS hl) (fun q => k1 r h' (by rw [if_pos q] at ho; exact ho) H locs ls hH hS hl)
theorem J_icmp_lt {x y : Int32} {off : Int} {tgt : Nat} {o1 o2 : Option (α × AH)} (hK : Ok K X own cc nL ret kk) (hd : DD cc pc (.if_icmp .lt off) 3 pc') (ht : DT pc off tgt) (k1 : J K X nL Z enc tgt lv st h o1) (k2 : J K X nL Z enc pc' lv st h o2) : J K X nL Z enc pc lv (.int y :: .int x :: st) h (if x < y then o1 else o2) := by
  obtain ⟨p, l, e, R, s, m, args, below, meth, c, cells, slots⟩ := K
  obtain ⟨hx, hb, hml, hown, hts, hlk, hrt, hE, hfr, hlo, hce, hsl⟩ := hK
  obtain ⟨hd, rfl⟩ := hd
  intro r h' ho H locs ls hH hS hl
  exact lv_icmp_lt hx hb hd ht (fun q => k1 r h' (by rw [if_pos q] at ho; exact ho) H locs ls hH hS hl) (fun q => k2 r h' (by rw [if_neg q] at ho; exact ho) H locs ls hH hS hl)
theorem J_icmp_ge {x y : Int32} {off : Int} {tgt : Nat} {o1 o2 : Option (α × AH)} (hK : Ok K X own cc nL ret kk) (hd : DD cc pc (.if_icmp .ge off) 3 pc') (ht : DT pc off tgt) (k1 : J K X nL Z enc pc' lv st h o1) (k2 : J K X nL Z enc tgt lv st h o2) : J K X nL Z enc pc lv (.int y :: .int x :: st) h (if x < y then o1 else o2) := by
  obtain ⟨p, l, e, R, s, m, args, below, meth, c, cells, slots⟩ := K
  obtain ⟨hx, hb, hml, hown, hts, hlk, hrt, hE, hfr, hlo, hce, hsl⟩ := hK
  obtain ⟨hd, rfl⟩ := hd
  intro r h' ho H locs ls hH hS hl
  exact lv_icmp_ge hx hb hd ht (fun q => k2 r h' (by rw [if_neg (Int32.not_lt.mpr q)] at ho; exact ho) H locs ls hH hS hl) (fun q => k1 r h' (by rw [if_pos (Int32.not_le.mp q)] at ho; exact ho) H locs ls hH hS hl)
theorem J_icmp_gt {x y : Int32} {off : Int} {tgt : Nat} {o1 o2 : Option (α × AH)} (hK : Ok K X own cc nL ret kk) (hd : DD cc pc (.if_icmp .gt off) 3 pc') (ht : DT pc off tgt) (k1 : J K X nL Z enc tgt lv st h o1) (k2 : J K X nL Z enc pc' lv st h o2) : J K X nL Z enc pc lv (.int y :: .int x :: st) h (if y < x then o1 else o2) := by
  obtain ⟨p, l, e, R, s, m, args, below, meth, c, cells, slots⟩ := K
  obtain ⟨hx, hb, hml, hown, hts, hlk, hrt, hE, hfr, hlo, hce, hsl⟩ := hK
  obtain ⟨hd, rfl⟩ := hd
  intro r h' ho H locs ls hH hS hl
  exact lv_icmp_gt hx hb hd ht (fun q => k1 r h' (by rw [if_pos q] at ho; exact ho) H locs ls hH hS hl) (fun q => k2 r h' (by rw [if_neg q] at ho; exact ho) H locs ls hH hS hl)
theorem J_icmp_le {x y : Int32} {off : Int} {tgt : Nat} {o1 o2 : Option (α × AH)} (hK : Ok K X own cc nL ret kk) (hd : DD cc pc (.if_icmp .le off) 3 pc') (ht : DT pc off tgt) (k1 : J K X nL Z enc pc' lv st h o1) (k2 : J K X nL Z enc tgt lv st h o2) : J K X nL Z enc pc lv (.int y :: .int x :: st) h (if y < x then o1 else o2) := by
  obtain ⟨p, l, e, R, s, m, args, below, meth, c, cells, slots⟩ := K
  obtain ⟨hx, hb, hml, hown, hts, hlk, hrt, hE, hfr, hlo, hce, hsl⟩ := hK
  obtain ⟨hd, rfl⟩ := hd
  intro r h' ho H locs ls hH hS hl
  exact lv_icmp_le hx hb hd ht (fun q => k2 r h' (by rw [if_neg (Int32.not_lt.mpr q)] at ho; exact ho) H locs ls hH hS hl) (fun q => k1 r h' (by rw [if_pos (Int32.not_le.mp q)] at ho; exact ho) H locs ls hH hS hl)
theorem J_idiv {x y : Int32} (hK : Ok K X own cc nL ret kk) (hd : DD cc pc .idiv 1 pc') (k : J K X nL Z enc pc' lv (.int (x / y) :: st) h o) : J K X nL Z enc pc lv (.int y :: .int x :: st) h (chk (¬ y = 0) o) := by
  obtain ⟨p, l, e, R, s, m, args, below, meth, c, cells, slots⟩ := K
  obtain ⟨hx, hb, hml, hown, hts, hlk, hrt, hE, hfr, hlo, hce, hsl⟩ := hK
  obtain ⟨hd, rfl⟩ := hd
  intro r h' ho H locs ls hH hS hl
  obtain ⟨hne, ho⟩ := chk_some ho
  exact lv_idiv hx hb hd hne (k r h' ho H locs ls hH hS hl)
theorem J_irem {x y : Int32} (hK : Ok K X own cc nL ret kk) (hd : DD cc pc .irem 1 pc') (k : J K X nL Z enc pc' lv (.int (x - x / y * y) :: st) h o) : J K X nL Z enc pc lv (.int y :: .int x :: st) h (chk (¬ y = 0) o) := by
  obtain ⟨p, l, e, R, s, m, args, below, meth, c, cells, slots⟩ := K
  obtain ⟨hx, hb, hml, hown, hts, hlk, hrt, hE, hfr, hlo, hce, hsl⟩ := hK
  obtain ⟨hd, rfl⟩ := hd
  intro r h' ho H locs ls hH hS hl
  obtain ⟨hne, ho⟩ := chk_some ho
  exact lv_irem hx hb hd hne (k r h' ho H locs ls hH hS hl)
theorem J_lrem {x y : Int64} (hK : Ok K X own cc nL ret kk) (hd : DD cc pc .lrem 1 pc') (k : J K X nL Z enc pc' lv (.long (x - x / y * y) :: st) h o) : J K X nL Z enc pc lv (.long y :: .long x :: st) h (chk (¬ y = 0) o) := by
  obtain ⟨p, l, e, R, s, m, args, below, meth, c, cells, slots⟩ := K
  obtain ⟨hx, hb, hml, hown, hts, hlk, hrt, hE, hfr, hlo, hce, hsl⟩ := hK
  obtain ⟨hd, rfl⟩ := hd
  intro r h' ho H locs ls hH hS hl
  obtain ⟨hne, ho⟩ := chk_some ho
  exact lv_lrem hx hb hd hne (k r h' ho H locs ls hH hS hl)
theorem J_split {c : Prop} [Decidable c] {o1 o2 : Option (α × AH)} (k1 : c → J K X nL Z enc pc lv st h o1) (k2 : ¬ c → J K X nL Z enc pc lv st h o2) : J K X nL Z enc pc lv st h (if c then o1 else o2) := by
  intro r h' ho H locs ls hH hS hl
  by_cases q : c
  · exact k1 q r h' (by rw [if_pos q] at ho; exact ho) H locs ls hH hS hl
  · exact k2 q r h' (by rw [if_neg q] at ho; exact ho) H locs ls hH hS hl
theorem J_sub {lv' : List (Nat × Value)} (ks : List Nat) (hp : lv_pick lv ks = lv') (k : J K X nL Z enc pc lv' st h o) : J K X nL Z enc pc lv st h o := fun r h' ho H locs ls hH hS hl => k r h' ho H locs ls hH hS (lv_sub hl ks hp)
theorem J_chk {c : Prop} [Decidable c] (k : c → J K X nL Z enc pc lv st h o) : J K X nL Z enc pc lv st h (chk c o) := fun r h' ho => k (chk_some ho).1 r h' (chk_some ho).2
theorem J_none : J K X nL Z enc pc lv st h none := fun r h' ho => by cases ho
theorem J_tableIn {x v : Int32} {dflt lo hi off : Int} {offs : Array Int} {len tgt : Nat} (hK : Ok K X own cc nL ret kk) (hd : DD cc pc (.tableswitch dflt lo hi offs) len pc') (ev : x = v) (hv : (¬ v.toInt < lo) ∧ (¬ hi < v.toInt) ∧ offs[(v.toInt - lo).toNat]? = some off ∧ DT pc off tgt) (k : J K X nL Z enc tgt lv st h o) : J K X nL Z enc pc lv (.int x :: st) h o := by
  subst ev
  obtain ⟨p, l, e, R, s, m, args, below, meth, c, cells, slots⟩ := K
  obtain ⟨hx, hb, hml, hown, hts, hlk, hrt, hE, hfr, hlo, hce, hsl⟩ := hK
  obtain ⟨hd, rfl⟩ := hd
  intro r h' ho H locs ls hH hS hl
  exact lv_tableIn hx hb hd hv.1 hv.2.1 hv.2.2.1 hv.2.2.2 (k r h' ho H locs ls hH hS hl)
theorem J_tableOut {x : Int32} {dflt lo hi : Int} {offs : Array Int} {len tgt : Nat} (hK : Ok K X own cc nL ret kk) (hd : DD cc pc (.tableswitch dflt lo hi offs) len pc') (hv : x.toInt < lo ∨ hi < x.toInt) (ht : DT pc dflt tgt) (k : J K X nL Z enc tgt lv st h o) : J K X nL Z enc pc lv (.int x :: st) h o := by
  obtain ⟨p, l, e, R, s, m, args, below, meth, c, cells, slots⟩ := K
  obtain ⟨hx, hb, hml, hown, hts, hlk, hrt, hE, hfr, hlo, hce, hsl⟩ := hK
  obtain ⟨hd, rfl⟩ := hd
  intro r h' ho H locs ls hH hS hl
  exact lv_tableOut hx hb hd hv ht (k r h' ho H locs ls hH hS hl)
theorem J_lookup {x : Int32} {dflt off : Int} {ps : Array (Int × Int)} {len tgt : Nat} (hK : Ok K X own cc nL ret kk) (hd : DD cc pc (.lookupswitch dflt ps) len pc') (hp : (ps.toList.zip (ps.toList.drop 1)).all (fun (a, next) => a.1 < next.1) = true) (hv : Op.lookupswitch.offset ps.toList dflt x.toInt = off) (ht : DT pc off tgt) (k : J K X nL Z enc tgt lv st h o) : J K X nL Z enc pc lv (.int x :: st) h o := by
  obtain ⟨p, l, e, R, s, m, args, below, meth, c, cells, slots⟩ := K
  obtain ⟨hx, hb, hml, hown, hts, hlk, hrt, hE, hfr, hlo, hce, hsl⟩ := hK
  obtain ⟨hd, rfl⟩ := hd
  intro r h' ho H locs ls hH hS hl
  exact lv_lookup hx hb hd hp hv ht (k r h' ho H locs ls hH hS hl)
theorem J_get {q j N ci index : Nat} {C ref : String} {T : u_T} {fs : List Value} {v : Value} (hK : Ok K X own cc nL ret kk) (hd : DD cc pc (.getfield index) 3 pc') (hin : ∀ w ∈ u_ws C T N, w ∈ lw_g) (hq : q < 291) (hc : vwCl[ci]? = some (C, T, N)) (hj : j < N) (hlay : lay X h q = .inr (ci, fs)) (hv : fs[j]? = some v) (hlink : Cond.fieldLink own index ref (T j).2.1 (T j).2.2.1 ∈ lw_tbl) (hsame : (T j).1 = ref) (k : J K X nL Z enc pc' lv (v :: st) h o) : J K X nL Z enc pc lv (.ref (X.1 + q) :: st) h o := by
  obtain ⟨p, l, e, R, s, m, args, below, meth, c, cells, slots⟩ := K
  obtain ⟨hx, hb, hml, hown, hts, hlk, hrt, hE, hfr, hlo, hce, hsl⟩ := hK
  obtain ⟨hd, rfl⟩ := hd
  intro r h' ho H locs ls hH hS hl
  refine va_get hx hb hts hin hown hE.1 hH q (fs := fs) (by rw [wl_get X h hq, hlay]) hc j hj (hts _ (lw_in hlink rfl)) (by subst hsame; exact fun x e => e) hv hd (k r h' ho H locs ls hH hS hl)
theorem J_put {q j N ci index : Nat} {C ref : String} {T : u_T} {ty0 : Nat → FieldType} {fs : List Value} {v : Int32} {f : AH → Option (α × AH)} (hK : Ok K X own cc nL ret kk) (hd : DD cc pc (.putfield index) 3 pc') (hin : ∀ w ∈ u_ws C T N, w ∈ lw_g) (hty : ∀ k, k < N → parseFieldDescriptor (T k).2.2.1 = some (ty0 k)) (hnm : ∀ a, a < N → ∀ b, b < N → a ≠ b → (T a).2.1 ≠ (T b).2.1) (hq : q < 291) (hc : vwCl[ci]? = some (C, T, N)) (hj : j < N) (hlay : lay X h q = .inr (ci, fs)) (hlay2 : lay X (hs h q j v) q = .inr (ci, fs.set j (.int v))) (hlen : j < fs.length) (hlink : Cond.fieldLink own index ref (T j).2.1 (T j).2.2.1 ∈ lw_tbl) (hsame : (T j).1 = ref) (hfin : (T j).2.2.2 = false) (hdI : parseFieldDescriptor (T j).2.2.1 = some .int) (k : ∀ h1, J K X nL Z enc pc' lv st h1 (f h1)) : J K X nL Z enc pc lv (.int v :: .ref (X.1 + q) :: st) h (sto (hs h q j v) f) := by
  obtain ⟨p, l, e, R, s, m, args, below, meth, c, cells, slots⟩ := K
  obtain ⟨hx, hb, hml, hown, hts, hlk, hrt, hE, hfr, hlo, hce, hsl⟩ := hK
  obtain ⟨hd, rfl⟩ := hd
  intro r h' ho H locs ls hH hS hl
  refine va_put hx hb hts hin ty0 hty hnm hown hE.1 hH (wl_D X h) hS q (fs := fs) (by rw [wl_get X h hq, hlay]) hc j hj (hts _ (lw_in hlink rfl)) (by subst hsame; exact fun x e => e) hfin hdI rfl rfl hlen hd (fun H1 locs1 hP1 _ hS1 => ?_)
  rw [wl_set X h hq _ hlay2] at hP1
  exact k _ r h' ho H1 locs1 ls hP1 hS1 hl
theorem J_iald {q : Nat} {i : Int32} (hK : Ok K X own cc nL ret kk) (hd : DD cc pc .iaload 1 pc') (hq : kd q = 7) (k : inb i (ln q) → J K X nL Z enc pc' lv (.int (h q i.toNatClampNeg) :: st) h o) : J K X nL Z enc pc lv (.int i :: .ref (X.1 + q) :: st) h (chk (inb i (ln q)) o) := by
  obtain ⟨p, l, e, R, s, m, args, below, meth, c, cells, slots⟩ := K
  obtain ⟨hx, hb, hml, hown, hts, hlk, hrt, hE, hfr, hlo, hce, hsl⟩ := hK
  obtain ⟨hd, rfl⟩ := hd
  intro r h' ho H locs ls hH hS hl
  obtain ⟨hin, ho⟩ := chk_some ho
  exact va_iald hx hb hE.1 hH q 0 (by rw [wl_get X h (kd_lt hq (by decide)), lay_7 X h hq]) rfl hin hd (k hin r h' ho H locs ls hH hS hl)
theorem J_zald {q : Nat} {i : Int32} (hK : Ok K X own cc nL ret kk) (hd : DD cc pc .baload 1 pc') (hq : kd q = 8) (k : inb i (ln q) → J K X nL Z enc pc' lv (.int (h q i.toNatClampNeg) :: st) h o) : J K X nL Z enc pc lv (.int i :: .ref (X.1 + q) :: st) h (chk (inb i (ln q)) o) := by
  obtain ⟨p, l, e, R, s, m, args, below, meth, c, cells, slots⟩ := K
  obtain ⟨hx, hb, hml, hown, hts, hlk, hrt, hE, hfr, hlo, hce, hsl⟩ := hK
  obtain ⟨hd, rfl⟩ := hd
  intro r h' ho H locs ls hH hS hl
  obtain ⟨hin, ho⟩ := chk_some ho
  exact va_zald hx hb hE.1 hH q 1 (by rw [wl_get X h (kd_lt hq (by decide)), lay_8 X h hq]) rfl hin hd (k hin r h' ho H locs ls hH hS hl)
theorem J_iast {q : Nat} {i x : Int32} {f : AH → Option (α × AH)} (hK : Ok K X own cc nL ret kk) (hd : DD cc pc .iastore 1 pc') (hq : kd q = 7) (k : ∀ h1, J K X nL Z enc pc' lv st h1 (f h1)) : J K X nL Z enc pc lv (.int x :: .int i :: .ref (X.1 + q) :: st) h (chk (inb i (ln q)) (sto (hs h q i.toNatClampNeg x) f)) := by
  obtain ⟨p, l, e, R, s, m, args, below, meth, c, cells, slots⟩ := K
  obtain ⟨hx, hb, hml, hown, hts, hlk, hrt, hE, hfr, hlo, hce, hsl⟩ := hK
  obtain ⟨hd, rfl⟩ := hd
  intro r h' ho H locs ls hH hS hl
  obtain ⟨hin, ho⟩ := chk_some ho
  refine va_iast hx hb hE.1 hH (wl_D X h) hS q 0 (by rw [wl_get X h (kd_lt hq (by decide)), lay_7 X h hq]) rfl hin hd (fun H1 locs1 hP1 _ hS1 => ?_)
  rw [wl_set X h (kd_lt hq (by decide)) (upd (h q) i.toNatClampNeg x) (by rw [lay_7 X _ hq, hr_eq])] at hP1
  exact k _ r h' ho H1 locs1 ls hP1 hS1 hl
theorem J_zast {q : Nat} {i x : Int32} {f : AH → Option (α × AH)} (hK : Ok K X own cc nL ret kk) (hd : DD cc pc .bastore 1 pc') (hq : kd q = 8) (k : ∀ h1, J K X nL Z enc pc' lv st h1 (f h1)) : J K X nL Z enc pc lv (.int x :: .int i :: .ref (X.1 + q) :: st) h (chk (inb i (ln q)) (sto (hs h q i.toNatClampNeg (vp_nar .boolean x)) f)) := by
  obtain ⟨p, l, e, R, s, m, args, below, meth, c, cells, slots⟩ := K
  obtain ⟨hx, hb, hml, hown, hts, hlk, hrt, hE, hfr, hlo, hce, hsl⟩ := hK
  obtain ⟨hd, rfl⟩ := hd
  intro r h' ho H locs ls hH hS hl
  obtain ⟨hin, ho⟩ := chk_some ho
  refine va_zast hx hb hE.1 hH (wl_D X h) hS q 1 (by rw [wl_get X h (kd_lt hq (by decide)), lay_8 X h hq]) rfl hin hd (fun H1 locs1 hP1 _ hS1 => ?_)
  rw [wl_set X h (kd_lt hq (by decide)) (upd (h q) i.toNatClampNeg (vp_nar .boolean x)) (by rw [lay_8 X _ hq, hr_eq])] at hP1
  exact k _ r h' ho H1 locs1 ls hP1 hS1 hl
theorem J_aaldE {q : Nat} {i : Int32} (hK : Ok K X own cc nL ret kk) (hd : DD cc pc .aaload 1 pc') (hq : kd q = 9) (k : inb i (ln q) → J K X nL Z enc pc' lv (.ref (X.1 + (q + 1 + 7 * i.toNatClampNeg)) :: st) h o) : J K X nL Z enc pc lv (.int i :: .ref (X.1 + q) :: st) h (chk (inb i (ln q)) o) := by
  obtain ⟨p, l, e, R, s, m, args, below, meth, c, cells, slots⟩ := K
  obtain ⟨hx, hb, hml, hown, hts, hlk, hrt, hE, hfr, hlo, hce, hsl⟩ := hK
  obtain ⟨hd, rfl⟩ := hd
  intro r h' ho H locs ls hH hS hl
  obtain ⟨hin, ho⟩ := chk_some ho
  exact va_aldq (f := fun j => some (X.1 + (q + 1 + 7 * j))) hx hb hE.1 hH q 2 (by rw [wl_get X h (kd_lt hq (by decide)), lay_9 X h hq]) rfl hin hd (k hin r h' ho H locs ls hH hS hl)
theorem J_aaldR {q : Nat} {i : Int32} (hK : Ok K X own cc nL ret kk) (hd : DD cc pc .aaload 1 pc') (hq : kd q = 10) (k : inb i (ln q) → J K X nL Z enc pc' lv (.ref (X.1 + (q + 1 + 2 * i.toNatClampNeg)) :: st) h o) : J K X nL Z enc pc lv (.int i :: .ref (X.1 + q) :: st) h (chk (inb i (ln q)) o) := by
  obtain ⟨p, l, e, R, s, m, args, below, meth, c, cells, slots⟩ := K
  obtain ⟨hx, hb, hml, hown, hts, hlk, hrt, hE, hfr, hlo, hce, hsl⟩ := hK
  obtain ⟨hd, rfl⟩ := hd
  intro r h' ho H locs ls hH hS hl
  obtain ⟨hin, ho⟩ := chk_some ho
  exact va_aldq (f := fun j => some (X.1 + (q + 1 + 2 * j))) hx hb hE.1 hH q 3 (by rw [wl_get X h (kd_lt hq (by decide)), lay_10 X h hq]) rfl hin hd (k hin r h' ho H locs ls hH hS hl)
theorem J_gets (i : Nat) {index : Nat} (hi : i < 4) (hK : Ok K X own cc nL ret kk) (hd : DD cc pc (.getstatic index) 3 pc') (hlink : Cond.fieldLink own index (stN i).1 (stN i).2 "[I" ∈ lw_tbl) (k : J K X nL Z enc pc' lv (.ref (X.2.2.2 i) :: st) h o) : J K X nL Z enc pc lv st h o := by
  obtain ⟨p, l, e, R, s, m, args, below, meth, c, cells, slots⟩ := K
  obtain ⟨hx, hb, hml, hown, hts, hlk, hrt, hE, hfr, hlo, hce, hsl⟩ := hK
  obtain ⟨hd, rfl⟩ := hd
  intro r h' ho H locs ls hH hS hl
  exact va_gets hx hb (hE.2 i hi).1 hS hown (hts _ (lw_in hlink rfl)) (fun x e => e) hd (k r h' ho H locs ls hH hS hl)
theorem J_sald (i : Nat) {x : Int32} (hi : i < 4) (hK : Ok K X own cc nL ret kk) (hd : DD cc pc .iaload 1 pc') (k : inb x (stL i).length → J K X nL Z enc pc' lv (.int (stV i x.toNatClampNeg) :: st) h o) : J K X nL Z enc pc lv (.int x :: .ref (X.2.2.2 i) :: st) h (chk (inb x (stL i).length) o) := by
  obtain ⟨p, l, e, R, s, m, args, below, meth, c, cells, slots⟩ := K
  obtain ⟨hx, hb, hml, hown, hts, hlk, hrt, hE, hfr, hlo, hce, hsl⟩ := hK
  obtain ⟨hd, rfl⟩ := hd
  intro r h' ho H locs ls hH hS hl
  obtain ⟨hin, ho⟩ := chk_some ho
  exact va_ti hx hb (hE.2 i hi).2 hS hin rfl hd (k hin r h' ho H locs ls hH hS hl)
theorem J_slen (i : Nat) {v : Int32} (hi : i < 4) (hK : Ok K X own cc nL ret kk) (hd : DD cc pc .arraylength 1 pc') (hv : Int32.ofNat (stL i).length = v) (k : J K X nL Z enc pc' lv (.int v :: st) h o) : J K X nL Z enc pc lv (.ref (X.2.2.2 i) :: st) h o := by
  obtain ⟨p, l, e, R, s, m, args, below, meth, c, cells, slots⟩ := K
  obtain ⟨hx, hb, hml, hown, hts, hlk, hrt, hE, hfr, hlo, hce, hsl⟩ := hK
  obtain ⟨hd, rfl⟩ := hd
  intro r h' ho H locs ls hH hS hl
  exact va_tlen hx hb (hE.2 i hi).2 hS hv hd (k r h' ho H locs ls hH hS hl)
end JR
end
section
def Qm (X : WX) (v : Option Value) (h' : AH) : Array Value → State → Outcome → State → Prop := fun _ st oc t => oc = .returned v ∧ Hp X h' t.heap ∧ va_F (xA X) st t
def Pm (X : WX) (av : List Value) (h : AH) : Array Value → State → Prop := fun v U => v = av.toArray ∧ xEnv X U ∧ Hp X h U.heap
def rmk (k : Nat) : Room := { frames := k, cells := 0, slots := 0, locals := 64 * k }
/-- method y, called with av on a heap that holds h, returns v and leaves h' -/
def Does (l : Launch) (X : WX) (k : Nat) (y : MethodName) (cc : ByteArray) (nL : Nat) (ret : Option FieldType) (av : List Value) (h : AH) (v : Option Value) (h' : AH) : Prop :=
  Met l y (.code y cc nL ret :: lw_g) (rmk k) (Pm X av h) (Qm X v h') 0 0 (xA X)
def Zm (K : MC) (X : WX) (v : Option Value) (h' : AH) : State → Prop := match K with
  | (_, _, _, _, s, _, args, below, _, _, cells, slots) => MQ below (Qm X v h') args s cells slots (xA X)
theorem Does.of {α : Type} {l : Launch} {X : WX} {k : Nat} {y : MethodName} {cc : ByteArray} {nL : Nat} {ret : Option FieldType} {av : List Value} {h h' : AH} {r : α} {enc : α → Option Value} {o : Option (α × AH)} (hy : plainName y.cls = true) (hn : (lg_sl av).length ≤ nL) {lv : List (Nat × Value)} (hlv : lv_args 0 av = lv) (ho : o = some (r, h'))
    (body : ∀ K : MC, kL K = l → Ok K X y.cls cc nL ret k → J K X nL (Zm K X) enc 0 lv [] h o) : Does l X k y cc nL ret av h (enc r) h' := by
  refine Met.ofW (cc := cc) (maxL := nL) (ret := ret) hy rfl ?_
  intro p e s m args below meth c s₁ B hml hv
  obtain ⟨rfl, hE, hH⟩ := hv
  have hts := atoms_spec (ws := .code y cc nL ret :: lw_g) B.pre
  have hown : s.vm.findClass y.cls = some m.cls := findClass_of_methodNamed B.named
  have hK : Ok (p, l, e, (headSpec (.code y cc nL ret :: lw_g) (rmk k)).room, s, m, av.toArray, below, meth, c, 0, 0) X y.cls cc nL ret k :=
    ⟨B.exec, B.bytes, hml, hown, fun w hw => hts w (List.mem_cons_of_mem _ hw), B.notSynchronized, B.returns, hE, Nat.le_refl _, Nat.le_refl _, Nat.zero_le _, Nat.zero_le _⟩
  have hl := lv_entry av (n := nL) hn
  rw [hlv] at hl
  rw [lg_entry_eq]
  exact body _ rfl hK r h' ho s.heap [] _ hH va_S.rf hl
theorem Pm.blind {X : WX} {av : List Value} {h : AH} : FrameBlind (Pm X av h) := fun a U g mk q =>
  ⟨q.1, q.2.1.go (u := U) (U := U.calling g mk a) (Vm.Alike.refl U.vm) (fun _ _ _ => rfl), q.2.2⟩
theorem Pm.at {X : WX} {av : List Value} {h : AH} {s U : State} {H : Heap} {locs : List Loc} (hE : xEnv X s) (hS : va_S (xA X) s.heap H locs) (hH : Hp X h H) (hU : U.heap = H) (hW : s.WarmedH U.vm) : Pm X av h av.toArray U :=
  ⟨rfl, hE.go hW.alike (fun a h1 h2 => by rw [hU]; exact hS.2.1 a h1 h2), by rw [hU]; exact hH⟩
theorem CB.of {own : String} {index : Nat} {y : MethodName} {cc : ByteArray} {nL : Nat} {ret : Option FieldType} {n j kk : Nat} {R : Room} {s : State} {args : Array Value} (hB : CB own index y cc nL ret n) (hts : ∀ w ∈ lw_g, w.before args s = true) (hfr : kk ≤ R.frames) (hlo : 64 * kk ≤ R.locals) (hj : j + 1 ≤ kk) : CallB R s args own index y cc nL ret (.code y cc nL ret :: lw_g) (rmk j) 0 0 n := by
  obtain ⟨h1, h2, h3, h4, h5⟩ := hB
  refine callB_of n hts (fun w hw => ?_) rfl rfl rfl (hts _ (lw_in h3 rfl)) (hts _ (lw_in h1 rfl)) h4 ⟨?_, ?_⟩
  · rcases List.mem_cons.mp hw with rfl | hw
    · exact lw_gG _ (lw_in h2 rfl)
    · exact lw_gG w hw
  · show j + 1 ≤ R.frames
    omega
  · show 8 + (nL + 11) + 64 * j ≤ R.locals
    omega
theorem kd_recv {D : va_G} {tys : List (ClassId × FieldType)} {X : WX} {h : AH} {s : State} {H : Heap} {q ci : Nat} {C : vw_C} (hK : va_K X.2.1 vwCl tys s) (hH : Hp X h H) (hq : kd q = ci) (hci : ci < 7) (hc : vwCl[ci]? = some C) : ∃ cell : Cell, H[X.1 + q]? = some cell ∧ cell.vm.isStatics = false ∧ s.vm.findClass C.1 = some cell.cls := by
  have hlt : q < 291 := kd_lt hq (by omega)
  have key : ∃ fs, lay X h q = .inr (ci, fs) := by
    rcases (show ci = 0 ∨ ci = 1 ∨ ci = 2 ∨ ci = 3 ∨ ci = 4 ∨ ci = 5 ∨ ci = 6 by omega) with e | e | e | e | e | e | e <;> subst e
    · exact ⟨_, lay_0 X h hq⟩
    · exact ⟨_, lay_1 X h hq⟩
    · exact ⟨_, lay_2 X h hq⟩
    · exact ⟨_, lay_3 X h hq⟩
    · exact ⟨_, lay_4 X h hq⟩
    · exact ⟨_, lay_5 X h hq⟩
    · exact ⟨_, lay_6 X h hq⟩
  obtain ⟨fs, hf⟩ := key
  exact va_recv hK hH (ci := ci) (q0 := q) hc (by rw [wl_get X h hlt, hf])
def bnd {β γ : Type} (f : Option (β × AH)) (g : β → AH → Option γ) : Option γ := match f with
  | some p => g p.1 p.2
  | none => none
section JC
variable {α β : Type} {K : MC} {X : WX} {nL : Nat} {Z : Option Value → AH → State → Prop} {enc : α → Option Value} {own : String} {cc : ByteArray} {ret : Option FieldType} {kk pc pc' : Nat} {lv : List (Nat × Value)} {st : List Value} {h : AH} {o : Option (α × AH)}
theorem JW.call {p : Program} {l : Launch} {e : Env} {R : Room} {s : State} {m : MethodId} {args : Array Value} {below : List Frame} {meth : Method} {c : Code} {cells slots : Nat} {H : Heap} {locs : List Loc} {ls : Array Slot} {st0 rest : List Value} {a : Array Value} {v : Option Value} {h1 : AH} {Q : State → Prop}
    (hr : va_Run p l e R s m args below meth c H locs cells slots 0 0 (F0 m pc ls st0) rest (Qm X v h1 a) (xA X)) (hS : va_S (xA X) s.heap H locs)
    (kk : ∀ (H1 : Heap) (locs1 : List Loc), Hp X h1 H1 → va_S (xA X) s.heap H1 locs1 → W p l e R s m args below meth c H1 locs1 cells slots Q (F0 m (pc + 3) ls (v.toList ++ rest))) : W p l e R s m args below meth c H locs cells slots Q (F0 m pc ls st0) := by
  intro T hT X0
  obtain ⟨v', st₀, t, T', L, h0, X', hL, e1, e2, ⟨hv, hP, hz, hk⟩, st⟩ := hr T hT X0
  cases hv
  rw [h0] at hz hk
  obtain ⟨t2, a1, b1⟩ := kk T'.heap (locs ++ L) (by rw [e1]; exact hP)
    ⟨Nat.le_trans hS.1 (by rw [e1]; exact hz), fun q h1 h2 => by rw [e1, hk q (Nat.lt_of_lt_of_le h1 hS.1) h2]; exact hS.2.1 q h1 h2, fun q hq => by
      rcases List.mem_append.mp hq with h | h
      · exact hS.2.2 q h
      · exact hL q h⟩ T' rfl X'
  exact ⟨t2, st t2 a1, b1⟩
theorem J_callVi {j n index : Nat} {y : MethodName} {cb : ByteArray} {nb : Nat} {rb : Option FieldType} {q ci : Nat} {C : vw_C} {As st0 : List Value} {f : Option (Int32 × AH)} {g : Int32 → AH → Option (α × AH)} (hK : Ok K X own cc nL ret kk) (hd : DD cc pc (.invokevirtual index) 3 pc') (hB : CB own index y cb nb rb n) (hV : CV y) (hq : kd q = ci) (hci : ci < 7) (hc : vwCl[ci]? = some C) (hC : C.1 = y.cls) (hj : j + 1 ≤ kk) (hn : As.length = n) (hst : st0 = As.reverse ++ .ref (X.1 + q) :: st) (hcat : (st.map fun v => v.category).sum ≤ 8) (hM : ∀ (v : Int32) (h1 : AH), f = some (v, h1) → Does (kL K) X j y cb nb rb (.ref (X.1 + q) :: As) h (eI v) h1) (k : ∀ (v : Int32) (h1 : AH), J K X nL Z enc pc' lv (.int v :: st) h1 (g v h1)) : J K X nL Z enc pc lv st0 h (bnd f g) := by
  subst hst
  obtain ⟨p, l, e, R, s, m, args, below, meth, c, cells, slots⟩ := K
  obtain ⟨hx, hb, hml, hown, hts, hlk, hrt, hE, hfr, hlo, hce, hsl⟩ := hK
  obtain ⟨hd, rfl⟩ := hd
  intro r h' ho H locs ls hH hS hl
  cases hf : f with
  | none => rw [hf] at ho; cases ho
  | some w =>
    obtain ⟨v, h1⟩ := w
    rw [hf] at ho
    refine JW.call (pc := pc) (va_runV (As := As) (rest := st) ⟨hx, hb, hml, hown, hts⟩ (hM v h1 hf) ⟨hB.of hts hfr hlo hj, hts _ (lw_in hV.1 rfl), hts _ (lw_in hV.2 rfl)⟩ ⟨Pm.blind, (by rw [← hC]; exact kd_recv (D := X.2.1) hE.1 hH hq hci hc), fun U hU hW => Pm.at hE hS hH hU hW⟩ rfl hn hl.1 rfl (lv_room hcat) hd ⟨hce, hsl⟩) hS (fun H1 locs1 hP1 hS1 => k v h1 r h' ho H1 locs1 ls hP1 hS1 hl)
theorem J_callSi {j n index : Nat} {y : MethodName} {cb : ByteArray} {nb : Nat} {rb : Option FieldType} {As st0 : List Value} {f : Option (Int32 × AH)} {g : Int32 → AH → Option (α × AH)} (hK : Ok K X own cc nL ret kk) (hd : DD cc pc (.invokestatic index) 3 pc') (hB : CB own index y cb nb rb n) (hT : Cond.static y ∈ lw_tbl) (hj : j + 1 ≤ kk) (hn : As.length = n) (hst : st0 = As.reverse ++ st) (hcat : (st.map fun v => v.category).sum ≤ 8) (hM : ∀ (v : Int32) (h1 : AH), f = some (v, h1) → Does (kL K) X j y cb nb rb As h (eI v) h1) (k : ∀ (v : Int32) (h1 : AH), J K X nL Z enc pc' lv (.int v :: st) h1 (g v h1)) : J K X nL Z enc pc lv st0 h (bnd f g) := by
  subst hst
  obtain ⟨p, l, e, R, s, m, args, below, meth, c, cells, slots⟩ := K
  obtain ⟨hx, hb, hml, hown, hts, hlk, hrt, hE, hfr, hlo, hce, hsl⟩ := hK
  obtain ⟨hd, rfl⟩ := hd
  intro r h' ho H locs ls hH hS hl
  cases hf : f with
  | none => rw [hf] at ho; cases ho
  | some w =>
    obtain ⟨v, h1⟩ := w
    rw [hf] at ho
    refine JW.call (pc := pc) (va_runS (As := As) (rest := st) ⟨hx, hb, hml, hown, hts⟩ (hM v h1 hf) ⟨hB.of hts hfr hlo hj, hts _ (lw_in hT rfl)⟩ ⟨Pm.blind, fun U hU hW => Pm.at hE hS hH hU hW⟩ rfl hn hl.1 rfl (lv_room hcat) hd ⟨hce, hsl⟩) hS (fun H1 locs1 hP1 hS1 => k v h1 r h' ho H1 locs1 ls hP1 hS1 hl)
theorem J_callVv {j n index : Nat} {y : MethodName} {cb : ByteArray} {nb : Nat} {rb : Option FieldType} {q ci : Nat} {C : vw_C} {As st0 : List Value} {f : Option (Unit × AH)} {g : Unit → AH → Option (α × AH)} (hK : Ok K X own cc nL ret kk) (hd : DD cc pc (.invokevirtual index) 3 pc') (hB : CB own index y cb nb rb n) (hV : CV y) (hq : kd q = ci) (hci : ci < 7) (hc : vwCl[ci]? = some C) (hC : C.1 = y.cls) (hj : j + 1 ≤ kk) (hn : As.length = n) (hst : st0 = As.reverse ++ .ref (X.1 + q) :: st) (hcat : (st.map fun v => v.category).sum ≤ 8) (hM : ∀ (v : Unit) (h1 : AH), f = some (v, h1) → Does (kL K) X j y cb nb rb (.ref (X.1 + q) :: As) h (eV v) h1) (k : ∀ (v : Unit) (h1 : AH), J K X nL Z enc pc' lv (st) h1 (g v h1)) : J K X nL Z enc pc lv st0 h (bnd f g) := by
  subst hst
  obtain ⟨p, l, e, R, s, m, args, below, meth, c, cells, slots⟩ := K
  obtain ⟨hx, hb, hml, hown, hts, hlk, hrt, hE, hfr, hlo, hce, hsl⟩ := hK
  obtain ⟨hd, rfl⟩ := hd
  intro r h' ho H locs ls hH hS hl
  cases hf : f with
  | none => rw [hf] at ho; cases ho
  | some w =>
    obtain ⟨v, h1⟩ := w
    rw [hf] at ho
    refine JW.call (pc := pc) (va_runV (As := As) (rest := st) ⟨hx, hb, hml, hown, hts⟩ (hM v h1 hf) ⟨hB.of hts hfr hlo hj, hts _ (lw_in hV.1 rfl), hts _ (lw_in hV.2 rfl)⟩ ⟨Pm.blind, (by rw [← hC]; exact kd_recv (D := X.2.1) hE.1 hH hq hci hc), fun U hU hW => Pm.at hE hS hH hU hW⟩ rfl hn hl.1 rfl (lv_room hcat) hd ⟨hce, hsl⟩) hS (fun H1 locs1 hP1 hS1 => k v h1 r h' ho H1 locs1 ls hP1 hS1 hl)
theorem J_callSv {j n index : Nat} {y : MethodName} {cb : ByteArray} {nb : Nat} {rb : Option FieldType} {As st0 : List Value} {f : Option (Unit × AH)} {g : Unit → AH → Option (α × AH)} (hK : Ok K X own cc nL ret kk) (hd : DD cc pc (.invokestatic index) 3 pc') (hB : CB own index y cb nb rb n) (hT : Cond.static y ∈ lw_tbl) (hj : j + 1 ≤ kk) (hn : As.length = n) (hst : st0 = As.reverse ++ st) (hcat : (st.map fun v => v.category).sum ≤ 8) (hM : ∀ (v : Unit) (h1 : AH), f = some (v, h1) → Does (kL K) X j y cb nb rb As h (eV v) h1) (k : ∀ (v : Unit) (h1 : AH), J K X nL Z enc pc' lv (st) h1 (g v h1)) : J K X nL Z enc pc lv st0 h (bnd f g) := by
  subst hst
  obtain ⟨p, l, e, R, s, m, args, below, meth, c, cells, slots⟩ := K
  obtain ⟨hx, hb, hml, hown, hts, hlk, hrt, hE, hfr, hlo, hce, hsl⟩ := hK
  obtain ⟨hd, rfl⟩ := hd
  intro r h' ho H locs ls hH hS hl
  cases hf : f with
  | none => rw [hf] at ho; cases ho
  | some w =>
    obtain ⟨v, h1⟩ := w
    rw [hf] at ho
    refine JW.call (pc := pc) (va_runS (As := As) (rest := st) ⟨hx, hb, hml, hown, hts⟩ (hM v h1 hf) ⟨hB.of hts hfr hlo hj, hts _ (lw_in hT rfl)⟩ ⟨Pm.blind, fun U hU hW => Pm.at hE hS hH hU hW⟩ rfl hn hl.1 rfl (lv_room hcat) hd ⟨hce, hsl⟩) hS (fun H1 locs1 hP1 hS1 => k v h1 r h' ho H1 locs1 ls hP1 hS1 hl)
theorem J_callVr {j n index : Nat} {y : MethodName} {cb : ByteArray} {nb : Nat} {rb : Option FieldType} {q ci : Nat} {C : vw_C} {As st0 : List Value} {f : Option (Nat × AH)} {g : Nat → AH → Option (α × AH)} (hK : Ok K X own cc nL ret kk) (hd : DD cc pc (.invokevirtual index) 3 pc') (hB : CB own index y cb nb rb n) (hV : CV y) (hq : kd q = ci) (hci : ci < 7) (hc : vwCl[ci]? = some C) (hC : C.1 = y.cls) (hj : j + 1 ≤ kk) (hn : As.length = n) (hst : st0 = As.reverse ++ .ref (X.1 + q) :: st) (hcat : (st.map fun v => v.category).sum ≤ 8) (hM : ∀ (v : Nat) (h1 : AH), f = some (v, h1) → Does (kL K) X j y cb nb rb (.ref (X.1 + q) :: As) h ((eR X) v) h1) (k : ∀ (v : Nat) (h1 : AH), J K X nL Z enc pc' lv (.ref (X.1 + v) :: st) h1 (g v h1)) : J K X nL Z enc pc lv st0 h (bnd f g) := by
  subst hst
  obtain ⟨p, l, e, R, s, m, args, below, meth, c, cells, slots⟩ := K
  obtain ⟨hx, hb, hml, hown, hts, hlk, hrt, hE, hfr, hlo, hce, hsl⟩ := hK
  obtain ⟨hd, rfl⟩ := hd
  intro r h' ho H locs ls hH hS hl
  cases hf : f with
  | none => rw [hf] at ho; cases ho
  | some w =>
    obtain ⟨v, h1⟩ := w
    rw [hf] at ho
    refine JW.call (pc := pc) (va_runV (As := As) (rest := st) ⟨hx, hb, hml, hown, hts⟩ (hM v h1 hf) ⟨hB.of hts hfr hlo hj, hts _ (lw_in hV.1 rfl), hts _ (lw_in hV.2 rfl)⟩ ⟨Pm.blind, (by rw [← hC]; exact kd_recv (D := X.2.1) hE.1 hH hq hci hc), fun U hU hW => Pm.at hE hS hH hU hW⟩ rfl hn hl.1 rfl (lv_room hcat) hd ⟨hce, hsl⟩) hS (fun H1 locs1 hP1 hS1 => k v h1 r h' ho H1 locs1 ls hP1 hS1 hl)
theorem J_callSr {j n index : Nat} {y : MethodName} {cb : ByteArray} {nb : Nat} {rb : Option FieldType} {As st0 : List Value} {f : Option (Nat × AH)} {g : Nat → AH → Option (α × AH)} (hK : Ok K X own cc nL ret kk) (hd : DD cc pc (.invokestatic index) 3 pc') (hB : CB own index y cb nb rb n) (hT : Cond.static y ∈ lw_tbl) (hj : j + 1 ≤ kk) (hn : As.length = n) (hst : st0 = As.reverse ++ st) (hcat : (st.map fun v => v.category).sum ≤ 8) (hM : ∀ (v : Nat) (h1 : AH), f = some (v, h1) → Does (kL K) X j y cb nb rb As h ((eR X) v) h1) (k : ∀ (v : Nat) (h1 : AH), J K X nL Z enc pc' lv (.ref (X.1 + v) :: st) h1 (g v h1)) : J K X nL Z enc pc lv st0 h (bnd f g) := by
  subst hst
  obtain ⟨p, l, e, R, s, m, args, below, meth, c, cells, slots⟩ := K
  obtain ⟨hx, hb, hml, hown, hts, hlk, hrt, hE, hfr, hlo, hce, hsl⟩ := hK
  obtain ⟨hd, rfl⟩ := hd
  intro r h' ho H locs ls hH hS hl
  cases hf : f with
  | none => rw [hf] at ho; cases ho
  | some w =>
    obtain ⟨v, h1⟩ := w
    rw [hf] at ho
    refine JW.call (pc := pc) (va_runS (As := As) (rest := st) ⟨hx, hb, hml, hown, hts⟩ (hM v h1 hf) ⟨hB.of hts hfr hlo hj, hts _ (lw_in hT rfl)⟩ ⟨Pm.blind, fun U hU hW => Pm.at hE hS hH hU hW⟩ rfl hn hl.1 rfl (lv_room hcat) hd ⟨hce, hsl⟩) hS (fun H1 locs1 hP1 hS1 => k v h1 r h' ho H1 locs1 ls hP1 hS1 hl)
theorem J_iret {v : Int32} (hK : Ok K X own cc nL (some .int) kk) (hd : DD cc pc .ireturn 1 pc') : J K X nL (Zm K X) eI pc lv [.int v] h (some (v, h)) := by
  obtain ⟨p, l, e, R, s, m, args, below, meth, c, cells, slots⟩ := K
  obtain ⟨hx, hb, hml, hown, hts, hlk, hrt, hE, hfr, hlo, hce, hsl⟩ := hK
  intro r h' ho H locs ls hH hS hl
  cases ho
  exact W.iret (cc := cc) hx hb hrt (fun t ht hW => ⟨rfl, by rw [ht]; exact hH, hS.F ht⟩) hS.2.2 hd.1 hlk
theorem J_zret {v : Int32} (hK : Ok K X own cc nL (some .boolean) kk) (hd : DD cc pc .ireturn 1 pc') : J K X nL (Zm K X) eI pc lv [.int v] h (chk (v = 0 ∨ v = 1) (some (v, h))) := by
  obtain ⟨p, l, e, R, s, m, args, below, meth, c, cells, slots⟩ := K
  obtain ⟨hx, hb, hml, hown, hts, hlk, hrt, hE, hfr, hlo, hce, hsl⟩ := hK
  intro r h' ho H locs ls hH hS hl
  obtain ⟨hv, ho⟩ := chk_some ho
  cases ho
  exact W.zret (cc := cc) (ty := .boolean) hx hb hrt (by rcases hv with e | e <;> subst e <;> rfl) (fun t ht hW => ⟨rfl, by rw [ht]; exact hH, hS.F ht⟩) hS.2.2 hd.1 hlk
theorem J_zret0 (hK : Ok K X own cc nL (some .boolean) kk) (hd : DD cc pc .ireturn 1 pc') : J K X nL (Zm K X) eI pc lv [.int 0] h (some (0, h)) := by
  obtain ⟨p, l, e, R, s, m, args, below, meth, c, cells, slots⟩ := K
  obtain ⟨hx, hb, hml, hown, hts, hlk, hrt, hE, hfr, hlo, hce, hsl⟩ := hK
  intro r h' ho H locs ls hH hS hl
  cases ho
  exact W.zret (cc := cc) (ty := .boolean) hx hb hrt rfl (fun t ht hW => ⟨rfl, by rw [ht]; exact hH, hS.F ht⟩) hS.2.2 hd.1 hlk
theorem J_zret1 (hK : Ok K X own cc nL (some .boolean) kk) (hd : DD cc pc .ireturn 1 pc') : J K X nL (Zm K X) eI pc lv [.int 1] h (some (1, h)) := by
  obtain ⟨p, l, e, R, s, m, args, below, meth, c, cells, slots⟩ := K
  obtain ⟨hx, hb, hml, hown, hts, hlk, hrt, hE, hfr, hlo, hce, hsl⟩ := hK
  intro r h' ho H locs ls hH hS hl
  cases ho
  exact W.zret (cc := cc) (ty := .boolean) hx hb hrt rfl (fun t ht hW => ⟨rfl, by rw [ht]; exact hH, hS.F ht⟩) hS.2.2 hd.1 hlk
theorem J_vret (hK : Ok K X own cc nL none kk) (hd : DD cc pc .return_ 1 pc') : J K X nL (Zm K X) eV pc lv [] h (some ((), h)) := by
  obtain ⟨p, l, e, R, s, m, args, below, meth, c, cells, slots⟩ := K
  obtain ⟨hx, hb, hml, hown, hts, hlk, hrt, hE, hfr, hlo, hce, hsl⟩ := hK
  intro r h' ho H locs ls hH hS hl
  cases ho
  exact W.vret (cc := cc) hx hb hrt (fun t ht hW => ⟨rfl, by rw [ht]; exact hH, hS.F ht⟩) hS.2.2 hd.1 hlk
theorem J_aret {v : Nat} {C : String} (hK : Ok K X own cc nL (some (.object C)) kk) (hd : DD cc pc .areturn 1 pc') : J K X nL (Zm K X) (eR X) pc lv [.ref (X.1 + v)] h (some (v, h)) := by
  obtain ⟨p, l, e, R, s, m, args, below, meth, c, cells, slots⟩ := K
  obtain ⟨hx, hb, hml, hown, hts, hlk, hrt, hE, hfr, hlo, hce, hsl⟩ := hK
  intro r h' ho H locs ls hH hS hl
  cases ho
  exact W.aret (cc := cc) hx hb hrt (Or.inl ⟨_, rfl⟩) (Or.inr ⟨_, rfl⟩) (fun t ht hW => ⟨rfl, by rw [ht]; exact hH, hS.F ht⟩) hS.2.2 hd.1 hlk
theorem J_min {x y : Int32} {index : Nat} (hK : Ok K X own cc nL ret kk) (hd : DD cc pc (.invokestatic index) 3 pc') (hk : 1 ≤ kk) (hlink : Cond.methodLink own index Lib.Math.min.name ∈ lw_tbl) (hstat : Cond.static Lib.Math.min.name ∈ lw_tbl) (hini : Cond.initialized "java/lang/Math" ∈ lw_tbl) (hcode : Cond.code Lib.Math.min.name Lib.Math.min.code 2 (some .int) ∈ lw_tbl) (hcat : (st.map fun v => v.category).sum ≤ 8) (k : J K X nL Z enc pc' lv (.int (if y < x then y else x) :: st) h o) : J K X nL Z enc pc lv (.int y :: .int x :: st) h o := by
  obtain ⟨p, l, e, R, s, m, args, below, meth, c, cells, slots⟩ := K
  obtain ⟨hx, hb, hml, hown, hts, hlk, hrt, hE, hfr, hlo, hce, hsl⟩ := hK
  obtain ⟨hd, rfl⟩ := hd
  intro r h' ho H locs ls hH hS hl
  exact va_mmin hx hb (hml.trans hl.1.symm) hown (hts _ (lw_in hlink rfl)) (hts _ (lw_in hstat rfl)) (hts _ (lw_in hini rfl)) (hts _ (lw_in hcode rfl)) (by omega) (by omega) hce hsl hd (k r h' ho H locs ls hH hS hl)
theorem J_max {x y : Int32} {index : Nat} (hK : Ok K X own cc nL ret kk) (hd : DD cc pc (.invokestatic index) 3 pc') (hk : 1 ≤ kk) (hlink : Cond.methodLink own index Lib.Math.max.name ∈ lw_tbl) (hstat : Cond.static Lib.Math.max.name ∈ lw_tbl) (hini : Cond.initialized "java/lang/Math" ∈ lw_tbl) (hcode : Cond.code Lib.Math.max.name Lib.Math.max.code 2 (some .int) ∈ lw_tbl) (hcat : (st.map fun v => v.category).sum ≤ 8) (k : J K X nL Z enc pc' lv (.int (if x < y then y else x) :: st) h o) : J K X nL Z enc pc lv (.int y :: .int x :: st) h o := by
  obtain ⟨p, l, e, R, s, m, args, below, meth, c, cells, slots⟩ := K
  obtain ⟨hx, hb, hml, hown, hts, hlk, hrt, hE, hfr, hlo, hce, hsl⟩ := hK
  obtain ⟨hd, rfl⟩ := hd
  intro r h' ho H locs ls hH hS hl
  exact va_mmax hx hb (hml.trans hl.1.symm) hown (hts _ (lw_in hlink rfl)) (hts _ (lw_in hstat rfl)) (hts _ (lw_in hini rfl)) (hts _ (lw_in hcode rfl)) (by omega) (by omega) hce hsl hd (k r h' ho H locs ls hH hS hl)
theorem J_acopy {qa qb : Nat} {sp dp n : Int32} {index : Nat} {f : AH → Option (α × AH)} (hK : Ok K X own cc nL ret kk) (hd : DD cc pc (.invokestatic index) 3 pc') (hk : 1 ≤ kk) (hqa : kd qa = 7) (hqb : kd qb = 7) (hlink : Cond.methodLink own index arraycopyName ∈ lw_tbl) (hnat : Cond.native arraycopyName ∈ lw_tbl) (hstat : Cond.static arraycopyName ∈ lw_tbl) (hini : Cond.initialized "java/lang/System" ∈ lw_tbl) (hcat : (st.map fun v => v.category).sum ≤ 8) (k : ∀ h1, J K X nL Z enc pc' lv st h1 (f h1)) : J K X nL Z enc pc lv (.int n :: .int dp :: .ref (X.1 + qb) :: .int sp :: .ref (X.1 + qa) :: st) h (chk (¬ sp < 0 ∧ ¬ dp < 0 ∧ ¬ n < 0 ∧ sp.toNatClampNeg + n.toNatClampNeg ≤ ln qa ∧ dp.toNatClampNeg + n.toNatClampNeg ≤ ln qb) (sto (hr h qb (va_cpy (h qa) (h qb) sp.toNatClampNeg dp.toNatClampNeg n.toNatClampNeg)) f)) := by
  obtain ⟨p, l, e, R, s, m, args, below, meth, c, cells, slots⟩ := K
  obtain ⟨hx, hb, hml, hown, hts, hlk, hrt, hE, hfr, hlo, hce, hsl⟩ := hK
  obtain ⟨hd, rfl⟩ := hd
  intro r h' ho H locs ls hH hS hl
  obtain ⟨⟨h1, h2, h3, h4, h5⟩, ho⟩ := chk_some ho
  have hnw : nativeFrameWords "java/lang/System" "arraycopy" 5 ≤ 40 := by decide +kernel
  have h64 : 64 ≤ R.locals := by omega
  refine va_copyi hx hb (hml.trans hl.1.symm) hown (hts _ (lw_in hlink rfl)) (hts _ (lw_in hnat rfl)) (hts _ (lw_in hstat rfl)) (hts _ (lw_in hini rfl)) hE.1 hH (wl_D X h) hS qa qb 0 0 (by rw [wl_get X h (kd_lt hqa (by decide)), lay_7 X h hqa]) (by rw [wl_get X h (kd_lt hqb (by decide)), lay_7 X h hqb]) rfl rfl rfl h1 h2 h3 h4 h5 (fun _ _ => rfl) (by omega) (by omega) hd (fun H1 locs1 hP1 _ hS1 => ?_)
  rw [wl_set X h (kd_lt hqb (by decide)) (va_cpy (h qa) (h qb) sp.toNatClampNeg dp.toNatClampNeg n.toNatClampNeg) (by rw [lay_7 X _ hqb, hr_eq])] at hP1
  exact k _ r h' ho H1 locs1 ls hP1 hS1 hl
end JC
end
section
theorem inXg0 : ∀ w ∈ u_ws RX0 TX0 3, w ∈ lw_g := fun w hw => lw_in (inX0 w hw) (List.all_eq_true.mp (show (u_ws RX0 TX0 3).all goodWord = true by decide +kernel) w hw)
theorem inXg1 : ∀ w ∈ u_ws RX1 TX1 2, w ∈ lw_g := fun w hw => lw_in (inX1 w hw) (List.all_eq_true.mp (show (u_ws RX1 TX1 2).all goodWord = true by decide +kernel) w hw)
theorem inXg2 : ∀ w ∈ u_ws RX2 TX2 12, w ∈ lw_g := fun w hw => lw_in (inX2 w hw) (List.all_eq_true.mp (show (u_ws RX2 TX2 12).all goodWord = true by decide +kernel) w hw)
theorem inXg3 : ∀ w ∈ u_ws RX3 TX3 3, w ∈ lw_g := fun w hw => lw_in (inX3 w hw) (List.all_eq_true.mp (show (u_ws RX3 TX3 3).all goodWord = true by decide +kernel) w hw)
theorem inXg4 : ∀ w ∈ u_ws RX4 TX4 5, w ∈ lw_g := fun w hw => lw_in (inX4 w hw) (List.all_eq_true.mp (show (u_ws RX4 TX4 5).all goodWord = true by decide +kernel) w hw)
theorem inXg5 : ∀ w ∈ u_ws RX5 TX5 8, w ∈ lw_g := fun w hw => lw_in (inX5 w hw) (List.all_eq_true.mp (show (u_ws RX5 TX5 8).all goodWord = true by decide +kernel) w hw)
theorem inXg6 : ∀ w ∈ u_ws RX6 TX6 22, w ∈ lw_g := fun w hw => lw_in (inX6 w hw) (List.all_eq_true.mp (show (u_ws RX6 TX6 22).all goodWord = true by decide +kernel) w hw)
section JF
variable {α : Type} {K : MC} {X : WX} {nL : Nat} {Z : Option Value → AH → State → Prop} {enc : α → Option Value} {own : String} {cc : ByteArray} {ret : Option FieldType} {kk pc pc' q : Nat} {lv : List (Nat × Value)} {st : List Value} {h : AH} {o : Option (α × AH)}
theorem gF_X3_9 (hK : Ok K X RX3 cc nL ret kk) (hd : DD cc pc (.getfield 9) 3 pc') (hq : kd q = 3) (k : J K X nL Z enc pc' lv (.ref (X.1 + (q + 1)) :: st) h o) : J K X nL Z enc pc lv (.ref (X.1 + q) :: st) h o := J_get hK hd inXg3 (kd_lt hq (by decide)) rfl (j := 0) (by decide) (lay_3 X h hq) rfl kF_X3_9 rfl k
theorem gF_X5_75 (hK : Ok K X RX5 cc nL ret kk) (hd : DD cc pc (.getfield 75) 3 pc') (hq : kd q = 3) (k : J K X nL Z enc pc' lv (.ref (X.1 + (q + 1)) :: st) h o) : J K X nL Z enc pc lv (.ref (X.1 + q) :: st) h o := J_get hK hd inXg3 (kd_lt hq (by decide)) rfl (j := 0) (by decide) (lay_3 X h hq) rfl kF_X5_75 rfl k
theorem gF_X3_15 (hK : Ok K X RX3 cc nL ret kk) (hd : DD cc pc (.getfield 15) 3 pc') (hq : kd q = 3) (k : J K X nL Z enc pc' lv (.int (h q 1) :: st) h o) : J K X nL Z enc pc lv (.ref (X.1 + q) :: st) h o := J_get hK hd inXg3 (kd_lt hq (by decide)) rfl (j := 1) (by decide) (lay_3 X h hq) rfl kF_X3_15 rfl k
theorem pF_X3_15 {v : Int32} {f : AH → Option (α × AH)} (hK : Ok K X RX3 cc nL ret kk) (hd : DD cc pc (.putfield 15) 3 pc') (hq : kd q = 3) (k : ∀ h1, J K X nL Z enc pc' lv st h1 (f h1)) : J K X nL Z enc pc lv (.int v :: .ref (X.1 + q) :: st) h (sto (hs h q 1 v) f) := J_put hK hd inXg3 tyX3_ok nmX3 (kd_lt hq (by decide)) rfl (j := 1) (by decide) (lay_3 X h hq) (by rw [lay_3 X _ hq]; simp [hs, hr, upd]) (Nat.le_of_ble_eq_true rfl) kF_X3_15 rfl rfl (by decide +kernel) k
theorem gF_X5_82 (hK : Ok K X RX5 cc nL ret kk) (hd : DD cc pc (.getfield 82) 3 pc') (hq : kd q = 3) (k : J K X nL Z enc pc' lv (.int (h q 1) :: st) h o) : J K X nL Z enc pc lv (.ref (X.1 + q) :: st) h o := J_get hK hd inXg3 (kd_lt hq (by decide)) rfl (j := 1) (by decide) (lay_3 X h hq) rfl kF_X5_82 rfl k
theorem gF_X3_19 (hK : Ok K X RX3 cc nL ret kk) (hd : DD cc pc (.getfield 19) 3 pc') (hq : kd q = 3) (k : J K X nL Z enc pc' lv (.int (h q 2) :: st) h o) : J K X nL Z enc pc lv (.ref (X.1 + q) :: st) h o := J_get hK hd inXg3 (kd_lt hq (by decide)) rfl (j := 2) (by decide) (lay_3 X h hq) rfl kF_X3_19 rfl k
theorem pF_X3_19 {v : Int32} {f : AH → Option (α × AH)} (hK : Ok K X RX3 cc nL ret kk) (hd : DD cc pc (.putfield 19) 3 pc') (hq : kd q = 3) (k : ∀ h1, J K X nL Z enc pc' lv st h1 (f h1)) : J K X nL Z enc pc lv (.int v :: .ref (X.1 + q) :: st) h (sto (hs h q 2 v) f) := J_put hK hd inXg3 tyX3_ok nmX3 (kd_lt hq (by decide)) rfl (j := 2) (by decide) (lay_3 X h hq) (by rw [lay_3 X _ hq]; simp [hs, hr, upd]) (Nat.le_of_ble_eq_true rfl) kF_X3_19 rfl rfl (by decide +kernel) k
theorem gF_X4_9 (hK : Ok K X RX4 cc nL ret kk) (hd : DD cc pc (.getfield 9) 3 pc') (hq : kd q = 4) (k : J K X nL Z enc pc' lv (.ref (X.1 + (q + 1)) :: st) h o) : J K X nL Z enc pc lv (.ref (X.1 + q) :: st) h o := J_get hK hd inXg4 (kd_lt hq (by decide)) rfl (j := 0) (by decide) (lay_4 X h hq) rfl kF_X4_9 rfl k
theorem gF_X4_15 (hK : Ok K X RX4 cc nL ret kk) (hd : DD cc pc (.getfield 15) 3 pc') (hq : kd q = 4) (k : J K X nL Z enc pc' lv (.int (h q 1) :: st) h o) : J K X nL Z enc pc lv (.ref (X.1 + q) :: st) h o := J_get hK hd inXg4 (kd_lt hq (by decide)) rfl (j := 1) (by decide) (lay_4 X h hq) rfl kF_X4_15 rfl k
theorem pF_X4_15 {v : Int32} {f : AH → Option (α × AH)} (hK : Ok K X RX4 cc nL ret kk) (hd : DD cc pc (.putfield 15) 3 pc') (hq : kd q = 4) (k : ∀ h1, J K X nL Z enc pc' lv st h1 (f h1)) : J K X nL Z enc pc lv (.int v :: .ref (X.1 + q) :: st) h (sto (hs h q 1 v) f) := J_put hK hd inXg4 tyX4_ok nmX4 (kd_lt hq (by decide)) rfl (j := 1) (by decide) (lay_4 X h hq) (by rw [lay_4 X _ hq]; simp [hs, hr, upd]) (Nat.le_of_ble_eq_true rfl) kF_X4_15 rfl rfl (by decide +kernel) k
theorem gF_X5_96 (hK : Ok K X RX5 cc nL ret kk) (hd : DD cc pc (.getfield 96) 3 pc') (hq : kd q = 4) (k : J K X nL Z enc pc' lv (.int (h q 1) :: st) h o) : J K X nL Z enc pc lv (.ref (X.1 + q) :: st) h o := J_get hK hd inXg4 (kd_lt hq (by decide)) rfl (j := 1) (by decide) (lay_4 X h hq) rfl kF_X5_96 rfl k
theorem gF_X4_19 (hK : Ok K X RX4 cc nL ret kk) (hd : DD cc pc (.getfield 19) 3 pc') (hq : kd q = 4) (k : J K X nL Z enc pc' lv (.int (h q 2) :: st) h o) : J K X nL Z enc pc lv (.ref (X.1 + q) :: st) h o := J_get hK hd inXg4 (kd_lt hq (by decide)) rfl (j := 2) (by decide) (lay_4 X h hq) rfl kF_X4_19 rfl k
theorem pF_X4_19 {v : Int32} {f : AH → Option (α × AH)} (hK : Ok K X RX4 cc nL ret kk) (hd : DD cc pc (.putfield 19) 3 pc') (hq : kd q = 4) (k : ∀ h1, J K X nL Z enc pc' lv st h1 (f h1)) : J K X nL Z enc pc lv (.int v :: .ref (X.1 + q) :: st) h (sto (hs h q 2 v) f) := J_put hK hd inXg4 tyX4_ok nmX4 (kd_lt hq (by decide)) rfl (j := 2) (by decide) (lay_4 X h hq) (by rw [lay_4 X _ hq]; simp [hs, hr, upd]) (Nat.le_of_ble_eq_true rfl) kF_X4_19 rfl rfl (by decide +kernel) k
theorem gF_X5_108 (hK : Ok K X RX5 cc nL ret kk) (hd : DD cc pc (.getfield 108) 3 pc') (hq : kd q = 4) (k : J K X nL Z enc pc' lv (.int (h q 2) :: st) h o) : J K X nL Z enc pc lv (.ref (X.1 + q) :: st) h o := J_get hK hd inXg4 (kd_lt hq (by decide)) rfl (j := 2) (by decide) (lay_4 X h hq) rfl kF_X5_108 rfl k
theorem gF_X5_121 (hK : Ok K X RX5 cc nL ret kk) (hd : DD cc pc (.getfield 121) 3 pc') (hq : kd q = 4) (k : J K X nL Z enc pc' lv (.int (h q 3) :: st) h o) : J K X nL Z enc pc lv (.ref (X.1 + q) :: st) h o := J_get hK hd inXg4 (kd_lt hq (by decide)) rfl (j := 3) (by decide) (lay_4 X h hq) rfl kF_X5_121 rfl k
theorem gF_X4_106 (hK : Ok K X RX4 cc nL ret kk) (hd : DD cc pc (.getfield 106) 3 pc') (hq : kd q = 4) (k : J K X nL Z enc pc' lv (.int (h q 3) :: st) h o) : J K X nL Z enc pc lv (.ref (X.1 + q) :: st) h o := J_get hK hd inXg4 (kd_lt hq (by decide)) rfl (j := 3) (by decide) (lay_4 X h hq) rfl kF_X4_106 rfl k
theorem pF_X4_106 {v : Int32} {f : AH → Option (α × AH)} (hK : Ok K X RX4 cc nL ret kk) (hd : DD cc pc (.putfield 106) 3 pc') (hq : kd q = 4) (k : ∀ h1, J K X nL Z enc pc' lv st h1 (f h1)) : J K X nL Z enc pc lv (.int v :: .ref (X.1 + q) :: st) h (sto (hs h q 3 v) f) := J_put hK hd inXg4 tyX4_ok nmX4 (kd_lt hq (by decide)) rfl (j := 3) (by decide) (lay_4 X h hq) (by rw [lay_4 X _ hq]; simp [hs, hr, upd]) (Nat.le_of_ble_eq_true rfl) kF_X4_106 rfl rfl (by decide +kernel) k
theorem gF_X4_49 (hK : Ok K X RX4 cc nL ret kk) (hd : DD cc pc (.getfield 49) 3 pc') (hq : kd q = 4) (k : J K X nL Z enc pc' lv (.int (h q 4) :: st) h o) : J K X nL Z enc pc lv (.ref (X.1 + q) :: st) h o := J_get hK hd inXg4 (kd_lt hq (by decide)) rfl (j := 4) (by decide) (lay_4 X h hq) rfl kF_X4_49 rfl k
theorem pF_X4_49 {v : Int32} {f : AH → Option (α × AH)} (hK : Ok K X RX4 cc nL ret kk) (hd : DD cc pc (.putfield 49) 3 pc') (hq : kd q = 4) (k : ∀ h1, J K X nL Z enc pc' lv st h1 (f h1)) : J K X nL Z enc pc lv (.int v :: .ref (X.1 + q) :: st) h (sto (hs h q 4 v) f) := J_put hK hd inXg4 tyX4_ok nmX4 (kd_lt hq (by decide)) rfl (j := 4) (by decide) (lay_4 X h hq) (by rw [lay_4 X _ hq]; simp [hs, hr, upd]) (Nat.le_of_ble_eq_true rfl) kF_X4_49 rfl rfl (by decide +kernel) k
theorem gF_X2_30 (hK : Ok K X RX2 cc nL ret kk) (hd : DD cc pc (.getfield 30) 3 pc') (hq : kd q = 2) (k : J K X nL Z enc pc' lv (.int (h q 0) :: st) h o) : J K X nL Z enc pc lv (.ref (X.1 + q) :: st) h o := J_get hK hd inXg2 (kd_lt hq (by decide)) rfl (j := 0) (by decide) (lay_2 X h hq) rfl kF_X2_30 rfl k
theorem pF_X2_30 {v : Int32} {f : AH → Option (α × AH)} (hK : Ok K X RX2 cc nL ret kk) (hd : DD cc pc (.putfield 30) 3 pc') (hq : kd q = 2) (k : ∀ h1, J K X nL Z enc pc' lv st h1 (f h1)) : J K X nL Z enc pc lv (.int v :: .ref (X.1 + q) :: st) h (sto (hs h q 0 v) f) := J_put hK hd inXg2 tyX2_ok nmX2 (kd_lt hq (by decide)) rfl (j := 0) (by decide) (lay_2 X h hq) (by rw [lay_2 X _ hq]; simp [hs, hr, upd]) (Nat.le_of_ble_eq_true rfl) kF_X2_30 rfl rfl (by decide +kernel) k
theorem gF_X4_81 (hK : Ok K X RX4 cc nL ret kk) (hd : DD cc pc (.getfield 81) 3 pc') (hq : kd q = 2) (k : J K X nL Z enc pc' lv (.int (h q 0) :: st) h o) : J K X nL Z enc pc lv (.ref (X.1 + q) :: st) h o := J_get hK hd inXg2 (kd_lt hq (by decide)) rfl (j := 0) (by decide) (lay_2 X h hq) rfl kF_X4_81 rfl k
theorem pF_X4_81 {v : Int32} {f : AH → Option (α × AH)} (hK : Ok K X RX4 cc nL ret kk) (hd : DD cc pc (.putfield 81) 3 pc') (hq : kd q = 2) (k : ∀ h1, J K X nL Z enc pc' lv st h1 (f h1)) : J K X nL Z enc pc lv (.int v :: .ref (X.1 + q) :: st) h (sto (hs h q 0 v) f) := J_put hK hd inXg2 tyX2_ok nmX2 (kd_lt hq (by decide)) rfl (j := 0) (by decide) (lay_2 X h hq) (by rw [lay_2 X _ hq]; simp [hs, hr, upd]) (Nat.le_of_ble_eq_true rfl) kF_X4_81 rfl rfl (by decide +kernel) k
theorem gF_X5_118 (hK : Ok K X RX5 cc nL ret kk) (hd : DD cc pc (.getfield 118) 3 pc') (hq : kd q = 2) (k : J K X nL Z enc pc' lv (.int (h q 0) :: st) h o) : J K X nL Z enc pc lv (.ref (X.1 + q) :: st) h o := J_get hK hd inXg2 (kd_lt hq (by decide)) rfl (j := 0) (by decide) (lay_2 X h hq) rfl kF_X5_118 rfl k
theorem gF_X2_34 (hK : Ok K X RX2 cc nL ret kk) (hd : DD cc pc (.getfield 34) 3 pc') (hq : kd q = 2) (k : J K X nL Z enc pc' lv (.int (h q 1) :: st) h o) : J K X nL Z enc pc lv (.ref (X.1 + q) :: st) h o := J_get hK hd inXg2 (kd_lt hq (by decide)) rfl (j := 1) (by decide) (lay_2 X h hq) rfl kF_X2_34 rfl k
theorem pF_X2_34 {v : Int32} {f : AH → Option (α × AH)} (hK : Ok K X RX2 cc nL ret kk) (hd : DD cc pc (.putfield 34) 3 pc') (hq : kd q = 2) (k : ∀ h1, J K X nL Z enc pc' lv st h1 (f h1)) : J K X nL Z enc pc lv (.int v :: .ref (X.1 + q) :: st) h (sto (hs h q 1 v) f) := J_put hK hd inXg2 tyX2_ok nmX2 (kd_lt hq (by decide)) rfl (j := 1) (by decide) (lay_2 X h hq) (by rw [lay_2 X _ hq]; simp [hs, hr, upd]) (Nat.le_of_ble_eq_true rfl) kF_X2_34 rfl rfl (by decide +kernel) k
theorem gF_X4_96 (hK : Ok K X RX4 cc nL ret kk) (hd : DD cc pc (.getfield 96) 3 pc') (hq : kd q = 2) (k : J K X nL Z enc pc' lv (.int (h q 1) :: st) h o) : J K X nL Z enc pc lv (.ref (X.1 + q) :: st) h o := J_get hK hd inXg2 (kd_lt hq (by decide)) rfl (j := 1) (by decide) (lay_2 X h hq) rfl kF_X4_96 rfl k
theorem pF_X4_96 {v : Int32} {f : AH → Option (α × AH)} (hK : Ok K X RX4 cc nL ret kk) (hd : DD cc pc (.putfield 96) 3 pc') (hq : kd q = 2) (k : ∀ h1, J K X nL Z enc pc' lv st h1 (f h1)) : J K X nL Z enc pc lv (.int v :: .ref (X.1 + q) :: st) h (sto (hs h q 1 v) f) := J_put hK hd inXg2 tyX2_ok nmX2 (kd_lt hq (by decide)) rfl (j := 1) (by decide) (lay_2 X h hq) (by rw [lay_2 X _ hq]; simp [hs, hr, upd]) (Nat.le_of_ble_eq_true rfl) kF_X4_96 rfl rfl (by decide +kernel) k
theorem gF_X5_273 (hK : Ok K X RX5 cc nL ret kk) (hd : DD cc pc (.getfield 273) 3 pc') (hq : kd q = 2) (k : J K X nL Z enc pc' lv (.int (h q 1) :: st) h o) : J K X nL Z enc pc lv (.ref (X.1 + q) :: st) h o := J_get hK hd inXg2 (kd_lt hq (by decide)) rfl (j := 1) (by decide) (lay_2 X h hq) rfl kF_X5_273 rfl k
theorem gF_X2_37 (hK : Ok K X RX2 cc nL ret kk) (hd : DD cc pc (.getfield 37) 3 pc') (hq : kd q = 2) (k : J K X nL Z enc pc' lv (.int (h q 2) :: st) h o) : J K X nL Z enc pc lv (.ref (X.1 + q) :: st) h o := J_get hK hd inXg2 (kd_lt hq (by decide)) rfl (j := 2) (by decide) (lay_2 X h hq) rfl kF_X2_37 rfl k
theorem pF_X2_37 {v : Int32} {f : AH → Option (α × AH)} (hK : Ok K X RX2 cc nL ret kk) (hd : DD cc pc (.putfield 37) 3 pc') (hq : kd q = 2) (k : ∀ h1, J K X nL Z enc pc' lv st h1 (f h1)) : J K X nL Z enc pc lv (.int v :: .ref (X.1 + q) :: st) h (sto (hs h q 2 v) f) := J_put hK hd inXg2 tyX2_ok nmX2 (kd_lt hq (by decide)) rfl (j := 2) (by decide) (lay_2 X h hq) (by rw [lay_2 X _ hq]; simp [hs, hr, upd]) (Nat.le_of_ble_eq_true rfl) kF_X2_37 rfl rfl (by decide +kernel) k
theorem gF_X4_52 (hK : Ok K X RX4 cc nL ret kk) (hd : DD cc pc (.getfield 52) 3 pc') (hq : kd q = 2) (k : J K X nL Z enc pc' lv (.int (h q 2) :: st) h o) : J K X nL Z enc pc lv (.ref (X.1 + q) :: st) h o := J_get hK hd inXg2 (kd_lt hq (by decide)) rfl (j := 2) (by decide) (lay_2 X h hq) rfl kF_X4_52 rfl k
theorem pF_X4_52 {v : Int32} {f : AH → Option (α × AH)} (hK : Ok K X RX4 cc nL ret kk) (hd : DD cc pc (.putfield 52) 3 pc') (hq : kd q = 2) (k : ∀ h1, J K X nL Z enc pc' lv st h1 (f h1)) : J K X nL Z enc pc lv (.int v :: .ref (X.1 + q) :: st) h (sto (hs h q 2 v) f) := J_put hK hd inXg2 tyX2_ok nmX2 (kd_lt hq (by decide)) rfl (j := 2) (by decide) (lay_2 X h hq) (by rw [lay_2 X _ hq]; simp [hs, hr, upd]) (Nat.le_of_ble_eq_true rfl) kF_X4_52 rfl rfl (by decide +kernel) k
theorem gF_X5_276 (hK : Ok K X RX5 cc nL ret kk) (hd : DD cc pc (.getfield 276) 3 pc') (hq : kd q = 2) (k : J K X nL Z enc pc' lv (.int (h q 2) :: st) h o) : J K X nL Z enc pc lv (.ref (X.1 + q) :: st) h o := J_get hK hd inXg2 (kd_lt hq (by decide)) rfl (j := 2) (by decide) (lay_2 X h hq) rfl kF_X5_276 rfl k
theorem gF_X2_40 (hK : Ok K X RX2 cc nL ret kk) (hd : DD cc pc (.getfield 40) 3 pc') (hq : kd q = 2) (k : J K X nL Z enc pc' lv (.int (h q 3) :: st) h o) : J K X nL Z enc pc lv (.ref (X.1 + q) :: st) h o := J_get hK hd inXg2 (kd_lt hq (by decide)) rfl (j := 3) (by decide) (lay_2 X h hq) rfl kF_X2_40 rfl k
theorem pF_X2_40 {v : Int32} {f : AH → Option (α × AH)} (hK : Ok K X RX2 cc nL ret kk) (hd : DD cc pc (.putfield 40) 3 pc') (hq : kd q = 2) (k : ∀ h1, J K X nL Z enc pc' lv st h1 (f h1)) : J K X nL Z enc pc lv (.int v :: .ref (X.1 + q) :: st) h (sto (hs h q 3 v) f) := J_put hK hd inXg2 tyX2_ok nmX2 (kd_lt hq (by decide)) rfl (j := 3) (by decide) (lay_2 X h hq) (by rw [lay_2 X _ hq]; simp [hs, hr, upd]) (Nat.le_of_ble_eq_true rfl) kF_X2_40 rfl rfl (by decide +kernel) k
theorem gF_X4_55 (hK : Ok K X RX4 cc nL ret kk) (hd : DD cc pc (.getfield 55) 3 pc') (hq : kd q = 2) (k : J K X nL Z enc pc' lv (.int (h q 3) :: st) h o) : J K X nL Z enc pc lv (.ref (X.1 + q) :: st) h o := J_get hK hd inXg2 (kd_lt hq (by decide)) rfl (j := 3) (by decide) (lay_2 X h hq) rfl kF_X4_55 rfl k
theorem pF_X4_55 {v : Int32} {f : AH → Option (α × AH)} (hK : Ok K X RX4 cc nL ret kk) (hd : DD cc pc (.putfield 55) 3 pc') (hq : kd q = 2) (k : ∀ h1, J K X nL Z enc pc' lv st h1 (f h1)) : J K X nL Z enc pc lv (.int v :: .ref (X.1 + q) :: st) h (sto (hs h q 3 v) f) := J_put hK hd inXg2 tyX2_ok nmX2 (kd_lt hq (by decide)) rfl (j := 3) (by decide) (lay_2 X h hq) (by rw [lay_2 X _ hq]; simp [hs, hr, upd]) (Nat.le_of_ble_eq_true rfl) kF_X4_55 rfl rfl (by decide +kernel) k
theorem gF_X5_138 (hK : Ok K X RX5 cc nL ret kk) (hd : DD cc pc (.getfield 138) 3 pc') (hq : kd q = 2) (k : J K X nL Z enc pc' lv (.int (h q 3) :: st) h o) : J K X nL Z enc pc lv (.ref (X.1 + q) :: st) h o := J_get hK hd inXg2 (kd_lt hq (by decide)) rfl (j := 3) (by decide) (lay_2 X h hq) rfl kF_X5_138 rfl k
theorem gF_X2_43 (hK : Ok K X RX2 cc nL ret kk) (hd : DD cc pc (.getfield 43) 3 pc') (hq : kd q = 2) (k : J K X nL Z enc pc' lv (.int (h q 4) :: st) h o) : J K X nL Z enc pc lv (.ref (X.1 + q) :: st) h o := J_get hK hd inXg2 (kd_lt hq (by decide)) rfl (j := 4) (by decide) (lay_2 X h hq) rfl kF_X2_43 rfl k
theorem pF_X2_43 {v : Int32} {f : AH → Option (α × AH)} (hK : Ok K X RX2 cc nL ret kk) (hd : DD cc pc (.putfield 43) 3 pc') (hq : kd q = 2) (k : ∀ h1, J K X nL Z enc pc' lv st h1 (f h1)) : J K X nL Z enc pc lv (.int v :: .ref (X.1 + q) :: st) h (sto (hs h q 4 v) f) := J_put hK hd inXg2 tyX2_ok nmX2 (kd_lt hq (by decide)) rfl (j := 4) (by decide) (lay_2 X h hq) (by rw [lay_2 X _ hq]; simp [hs, hr, upd]) (Nat.le_of_ble_eq_true rfl) kF_X2_43 rfl rfl (by decide +kernel) k
theorem gF_X5_128 (hK : Ok K X RX5 cc nL ret kk) (hd : DD cc pc (.getfield 128) 3 pc') (hq : kd q = 2) (k : J K X nL Z enc pc' lv (.int (h q 4) :: st) h o) : J K X nL Z enc pc lv (.ref (X.1 + q) :: st) h o := J_get hK hd inXg2 (kd_lt hq (by decide)) rfl (j := 4) (by decide) (lay_2 X h hq) rfl kF_X5_128 rfl k
theorem gF_X2_46 (hK : Ok K X RX2 cc nL ret kk) (hd : DD cc pc (.getfield 46) 3 pc') (hq : kd q = 2) (k : J K X nL Z enc pc' lv (.int (h q 5) :: st) h o) : J K X nL Z enc pc lv (.ref (X.1 + q) :: st) h o := J_get hK hd inXg2 (kd_lt hq (by decide)) rfl (j := 5) (by decide) (lay_2 X h hq) rfl kF_X2_46 rfl k
theorem pF_X2_46 {v : Int32} {f : AH → Option (α × AH)} (hK : Ok K X RX2 cc nL ret kk) (hd : DD cc pc (.putfield 46) 3 pc') (hq : kd q = 2) (k : ∀ h1, J K X nL Z enc pc' lv st h1 (f h1)) : J K X nL Z enc pc lv (.int v :: .ref (X.1 + q) :: st) h (sto (hs h q 5 v) f) := J_put hK hd inXg2 tyX2_ok nmX2 (kd_lt hq (by decide)) rfl (j := 5) (by decide) (lay_2 X h hq) (by rw [lay_2 X _ hq]; simp [hs, hr, upd]) (Nat.le_of_ble_eq_true rfl) kF_X2_46 rfl rfl (by decide +kernel) k
theorem gF_X4_78 (hK : Ok K X RX4 cc nL ret kk) (hd : DD cc pc (.getfield 78) 3 pc') (hq : kd q = 2) (k : J K X nL Z enc pc' lv (.int (h q 5) :: st) h o) : J K X nL Z enc pc lv (.ref (X.1 + q) :: st) h o := J_get hK hd inXg2 (kd_lt hq (by decide)) rfl (j := 5) (by decide) (lay_2 X h hq) rfl kF_X4_78 rfl k
theorem pF_X4_78 {v : Int32} {f : AH → Option (α × AH)} (hK : Ok K X RX4 cc nL ret kk) (hd : DD cc pc (.putfield 78) 3 pc') (hq : kd q = 2) (k : ∀ h1, J K X nL Z enc pc' lv st h1 (f h1)) : J K X nL Z enc pc lv (.int v :: .ref (X.1 + q) :: st) h (sto (hs h q 5 v) f) := J_put hK hd inXg2 tyX2_ok nmX2 (kd_lt hq (by decide)) rfl (j := 5) (by decide) (lay_2 X h hq) (by rw [lay_2 X _ hq]; simp [hs, hr, upd]) (Nat.le_of_ble_eq_true rfl) kF_X4_78 rfl rfl (by decide +kernel) k
theorem gF_X5_154 (hK : Ok K X RX5 cc nL ret kk) (hd : DD cc pc (.getfield 154) 3 pc') (hq : kd q = 2) (k : J K X nL Z enc pc' lv (.int (h q 5) :: st) h o) : J K X nL Z enc pc lv (.ref (X.1 + q) :: st) h o := J_get hK hd inXg2 (kd_lt hq (by decide)) rfl (j := 5) (by decide) (lay_2 X h hq) rfl kF_X5_154 rfl k
theorem gF_X2_9 (hK : Ok K X RX2 cc nL ret kk) (hd : DD cc pc (.getfield 9) 3 pc') (hq : kd q = 2) (k : J K X nL Z enc pc' lv (.ref (X.1 + (q + 1)) :: st) h o) : J K X nL Z enc pc lv (.ref (X.1 + q) :: st) h o := J_get hK hd inXg2 (kd_lt hq (by decide)) rfl (j := 6) (by decide) (lay_2 X h hq) rfl kF_X2_9 rfl k
theorem gF_X1_23 (hK : Ok K X RX1 cc nL ret kk) (hd : DD cc pc (.getfield 23) 3 pc') (hq : kd q = 2) (k : J K X nL Z enc pc' lv (.ref (X.1 + (q + 1)) :: st) h o) : J K X nL Z enc pc lv (.ref (X.1 + q) :: st) h o := J_get hK hd inXg2 (kd_lt hq (by decide)) rfl (j := 6) (by decide) (lay_2 X h hq) rfl kF_X1_23 rfl k
theorem gF_X4_69 (hK : Ok K X RX4 cc nL ret kk) (hd : DD cc pc (.getfield 69) 3 pc') (hq : kd q = 2) (k : J K X nL Z enc pc' lv (.ref (X.1 + (q + 1)) :: st) h o) : J K X nL Z enc pc lv (.ref (X.1 + q) :: st) h o := J_get hK hd inXg2 (kd_lt hq (by decide)) rfl (j := 6) (by decide) (lay_2 X h hq) rfl kF_X4_69 rfl k
theorem gF_X5_256 (hK : Ok K X RX5 cc nL ret kk) (hd : DD cc pc (.getfield 256) 3 pc') (hq : kd q = 2) (k : J K X nL Z enc pc' lv (.ref (X.1 + (q + 1)) :: st) h o) : J K X nL Z enc pc lv (.ref (X.1 + q) :: st) h o := J_get hK hd inXg2 (kd_lt hq (by decide)) rfl (j := 6) (by decide) (lay_2 X h hq) rfl kF_X5_256 rfl k
theorem gF_X2_15 (hK : Ok K X RX2 cc nL ret kk) (hd : DD cc pc (.getfield 15) 3 pc') (hq : kd q = 2) (k : J K X nL Z enc pc' lv (.ref (X.1 + (q + 2)) :: st) h o) : J K X nL Z enc pc lv (.ref (X.1 + q) :: st) h o := J_get hK hd inXg2 (kd_lt hq (by decide)) rfl (j := 7) (by decide) (lay_2 X h hq) rfl kF_X2_15 rfl k
theorem gF_X1_41 (hK : Ok K X RX1 cc nL ret kk) (hd : DD cc pc (.getfield 41) 3 pc') (hq : kd q = 2) (k : J K X nL Z enc pc' lv (.ref (X.1 + (q + 2)) :: st) h o) : J K X nL Z enc pc lv (.ref (X.1 + q) :: st) h o := J_get hK hd inXg2 (kd_lt hq (by decide)) rfl (j := 7) (by decide) (lay_2 X h hq) rfl kF_X1_41 rfl k
theorem gF_X4_72 (hK : Ok K X RX4 cc nL ret kk) (hd : DD cc pc (.getfield 72) 3 pc') (hq : kd q = 2) (k : J K X nL Z enc pc' lv (.ref (X.1 + (q + 2)) :: st) h o) : J K X nL Z enc pc lv (.ref (X.1 + q) :: st) h o := J_get hK hd inXg2 (kd_lt hq (by decide)) rfl (j := 7) (by decide) (lay_2 X h hq) rfl kF_X4_72 rfl k
theorem gF_X5_160 (hK : Ok K X RX5 cc nL ret kk) (hd : DD cc pc (.getfield 160) 3 pc') (hq : kd q = 2) (k : J K X nL Z enc pc' lv (.ref (X.1 + (q + 2)) :: st) h o) : J K X nL Z enc pc lv (.ref (X.1 + q) :: st) h o := J_get hK hd inXg2 (kd_lt hq (by decide)) rfl (j := 7) (by decide) (lay_2 X h hq) rfl kF_X5_160 rfl k
theorem gF_X2_18 (hK : Ok K X RX2 cc nL ret kk) (hd : DD cc pc (.getfield 18) 3 pc') (hq : kd q = 2) (k : J K X nL Z enc pc' lv (.ref (X.1 + (q + 3)) :: st) h o) : J K X nL Z enc pc lv (.ref (X.1 + q) :: st) h o := J_get hK hd inXg2 (kd_lt hq (by decide)) rfl (j := 8) (by decide) (lay_2 X h hq) rfl kF_X2_18 rfl k
theorem gF_X4_75 (hK : Ok K X RX4 cc nL ret kk) (hd : DD cc pc (.getfield 75) 3 pc') (hq : kd q = 2) (k : J K X nL Z enc pc' lv (.ref (X.1 + (q + 3)) :: st) h o) : J K X nL Z enc pc lv (.ref (X.1 + q) :: st) h o := J_get hK hd inXg2 (kd_lt hq (by decide)) rfl (j := 8) (by decide) (lay_2 X h hq) rfl kF_X4_75 rfl k
theorem gF_X5_176 (hK : Ok K X RX5 cc nL ret kk) (hd : DD cc pc (.getfield 176) 3 pc') (hq : kd q = 2) (k : J K X nL Z enc pc' lv (.ref (X.1 + (q + 3)) :: st) h o) : J K X nL Z enc pc lv (.ref (X.1 + q) :: st) h o := J_get hK hd inXg2 (kd_lt hq (by decide)) rfl (j := 8) (by decide) (lay_2 X h hq) rfl kF_X5_176 rfl k
theorem gF_X2_21 (hK : Ok K X RX2 cc nL ret kk) (hd : DD cc pc (.getfield 21) 3 pc') (hq : kd q = 2) (k : J K X nL Z enc pc' lv (.ref (X.1 + (q + 4)) :: st) h o) : J K X nL Z enc pc lv (.ref (X.1 + q) :: st) h o := J_get hK hd inXg2 (kd_lt hq (by decide)) rfl (j := 9) (by decide) (lay_2 X h hq) rfl kF_X2_21 rfl k
theorem gF_X1_44 (hK : Ok K X RX1 cc nL ret kk) (hd : DD cc pc (.getfield 44) 3 pc') (hq : kd q = 2) (k : J K X nL Z enc pc' lv (.ref (X.1 + (q + 4)) :: st) h o) : J K X nL Z enc pc lv (.ref (X.1 + q) :: st) h o := J_get hK hd inXg2 (kd_lt hq (by decide)) rfl (j := 9) (by decide) (lay_2 X h hq) rfl kF_X1_44 rfl k
theorem gF_X5_147 (hK : Ok K X RX5 cc nL ret kk) (hd : DD cc pc (.getfield 147) 3 pc') (hq : kd q = 2) (k : J K X nL Z enc pc' lv (.ref (X.1 + (q + 4)) :: st) h o) : J K X nL Z enc pc lv (.ref (X.1 + q) :: st) h o := J_get hK hd inXg2 (kd_lt hq (by decide)) rfl (j := 9) (by decide) (lay_2 X h hq) rfl kF_X5_147 rfl k
theorem gF_X2_24 (hK : Ok K X RX2 cc nL ret kk) (hd : DD cc pc (.getfield 24) 3 pc') (hq : kd q = 2) (k : J K X nL Z enc pc' lv (.ref (X.1 + (q + 5)) :: st) h o) : J K X nL Z enc pc lv (.ref (X.1 + q) :: st) h o := J_get hK hd inXg2 (kd_lt hq (by decide)) rfl (j := 10) (by decide) (lay_2 X h hq) rfl kF_X2_24 rfl k
theorem gF_X4_90 (hK : Ok K X RX4 cc nL ret kk) (hd : DD cc pc (.getfield 90) 3 pc') (hq : kd q = 2) (k : J K X nL Z enc pc' lv (.ref (X.1 + (q + 5)) :: st) h o) : J K X nL Z enc pc lv (.ref (X.1 + q) :: st) h o := J_get hK hd inXg2 (kd_lt hq (by decide)) rfl (j := 10) (by decide) (lay_2 X h hq) rfl kF_X4_90 rfl k
theorem gF_X5_182 (hK : Ok K X RX5 cc nL ret kk) (hd : DD cc pc (.getfield 182) 3 pc') (hq : kd q = 2) (k : J K X nL Z enc pc' lv (.ref (X.1 + (q + 5)) :: st) h o) : J K X nL Z enc pc lv (.ref (X.1 + q) :: st) h o := J_get hK hd inXg2 (kd_lt hq (by decide)) rfl (j := 10) (by decide) (lay_2 X h hq) rfl kF_X5_182 rfl k
theorem gF_X2_27 (hK : Ok K X RX2 cc nL ret kk) (hd : DD cc pc (.getfield 27) 3 pc') (hq : kd q = 2) (k : J K X nL Z enc pc' lv (.ref (X.1 + (q + 6)) :: st) h o) : J K X nL Z enc pc lv (.ref (X.1 + q) :: st) h o := J_get hK hd inXg2 (kd_lt hq (by decide)) rfl (j := 11) (by decide) (lay_2 X h hq) rfl kF_X2_27 rfl k
theorem gF_X4_93 (hK : Ok K X RX4 cc nL ret kk) (hd : DD cc pc (.getfield 93) 3 pc') (hq : kd q = 2) (k : J K X nL Z enc pc' lv (.ref (X.1 + (q + 6)) :: st) h o) : J K X nL Z enc pc lv (.ref (X.1 + q) :: st) h o := J_get hK hd inXg2 (kd_lt hq (by decide)) rfl (j := 11) (by decide) (lay_2 X h hq) rfl kF_X4_93 rfl k
theorem gF_X5_166 (hK : Ok K X RX5 cc nL ret kk) (hd : DD cc pc (.getfield 166) 3 pc') (hq : kd q = 2) (k : J K X nL Z enc pc' lv (.ref (X.1 + (q + 6)) :: st) h o) : J K X nL Z enc pc lv (.ref (X.1 + q) :: st) h o := J_get hK hd inXg2 (kd_lt hq (by decide)) rfl (j := 11) (by decide) (lay_2 X h hq) rfl kF_X5_166 rfl k
theorem gF_X0_11 (hK : Ok K X RX0 cc nL ret kk) (hd : DD cc pc (.getfield 11) 3 pc') (hq : kd q = 0) (k : J K X nL Z enc pc' lv (.ref (X.1 + (q + 1)) :: st) h o) : J K X nL Z enc pc lv (.ref (X.1 + q) :: st) h o := J_get hK hd inXg0 (kd_lt hq (by decide)) rfl (j := 0) (by decide) (lay_0 X h hq) rfl kF_X0_11 rfl k
theorem gF_X0_18 (hK : Ok K X RX0 cc nL ret kk) (hd : DD cc pc (.getfield 18) 3 pc') (hq : kd q = 0) (k : J K X nL Z enc pc' lv (.int (h q 1) :: st) h o) : J K X nL Z enc pc lv (.ref (X.1 + q) :: st) h o := J_get hK hd inXg0 (kd_lt hq (by decide)) rfl (j := 1) (by decide) (lay_0 X h hq) rfl kF_X0_18 rfl k
theorem pF_X0_18 {v : Int32} {f : AH → Option (α × AH)} (hK : Ok K X RX0 cc nL ret kk) (hd : DD cc pc (.putfield 18) 3 pc') (hq : kd q = 0) (k : ∀ h1, J K X nL Z enc pc' lv st h1 (f h1)) : J K X nL Z enc pc lv (.int v :: .ref (X.1 + q) :: st) h (sto (hs h q 1 v) f) := J_put hK hd inXg0 tyX0_ok nmX0 (kd_lt hq (by decide)) rfl (j := 1) (by decide) (lay_0 X h hq) (by rw [lay_0 X _ hq]; simp [hs, hr, upd]) (Nat.le_of_ble_eq_true rfl) kF_X0_18 rfl rfl (by decide +kernel) k
theorem gF_X0_22 (hK : Ok K X RX0 cc nL ret kk) (hd : DD cc pc (.getfield 22) 3 pc') (hq : kd q = 0) (k : J K X nL Z enc pc' lv (.int (h q 2) :: st) h o) : J K X nL Z enc pc lv (.ref (X.1 + q) :: st) h o := J_get hK hd inXg0 (kd_lt hq (by decide)) rfl (j := 2) (by decide) (lay_0 X h hq) rfl kF_X0_22 rfl k
theorem pF_X0_22 {v : Int32} {f : AH → Option (α × AH)} (hK : Ok K X RX0 cc nL ret kk) (hd : DD cc pc (.putfield 22) 3 pc') (hq : kd q = 0) (k : ∀ h1, J K X nL Z enc pc' lv st h1 (f h1)) : J K X nL Z enc pc lv (.int v :: .ref (X.1 + q) :: st) h (sto (hs h q 2 v) f) := J_put hK hd inXg0 tyX0_ok nmX0 (kd_lt hq (by decide)) rfl (j := 2) (by decide) (lay_0 X h hq) (by rw [lay_0 X _ hq]; simp [hs, hr, upd]) (Nat.le_of_ble_eq_true rfl) kF_X0_22 rfl rfl (by decide +kernel) k
theorem gF_X5_169 (hK : Ok K X RX5 cc nL ret kk) (hd : DD cc pc (.getfield 169) 3 pc') (hq : kd q = 0) (k : J K X nL Z enc pc' lv (.int (h q 2) :: st) h o) : J K X nL Z enc pc lv (.ref (X.1 + q) :: st) h o := J_get hK hd inXg0 (kd_lt hq (by decide)) rfl (j := 2) (by decide) (lay_0 X h hq) rfl kF_X5_169 rfl k
theorem gF_X1_9 (hK : Ok K X RX1 cc nL ret kk) (hd : DD cc pc (.getfield 9) 3 pc') (hq : kd q = 1) (k : J K X nL Z enc pc' lv (.ref (X.1 + (q + 1)) :: st) h o) : J K X nL Z enc pc lv (.ref (X.1 + q) :: st) h o := J_get hK hd inXg1 (kd_lt hq (by decide)) rfl (j := 0) (by decide) (lay_1 X h hq) rfl kF_X1_9 rfl k
theorem gF_X5_267 (hK : Ok K X RX5 cc nL ret kk) (hd : DD cc pc (.getfield 267) 3 pc') (hq : kd q = 1) (k : J K X nL Z enc pc' lv (.ref (X.1 + (q + 1)) :: st) h o) : J K X nL Z enc pc lv (.ref (X.1 + q) :: st) h o := J_get hK hd inXg1 (kd_lt hq (by decide)) rfl (j := 0) (by decide) (lay_1 X h hq) rfl kF_X5_267 rfl k
theorem gF_X1_15 (hK : Ok K X RX1 cc nL ret kk) (hd : DD cc pc (.getfield 15) 3 pc') (hq : kd q = 1) (k : J K X nL Z enc pc' lv (.int (h q 1) :: st) h o) : J K X nL Z enc pc lv (.ref (X.1 + q) :: st) h o := J_get hK hd inXg1 (kd_lt hq (by decide)) rfl (j := 1) (by decide) (lay_1 X h hq) rfl kF_X1_15 rfl k
theorem pF_X1_15 {v : Int32} {f : AH → Option (α × AH)} (hK : Ok K X RX1 cc nL ret kk) (hd : DD cc pc (.putfield 15) 3 pc') (hq : kd q = 1) (k : ∀ h1, J K X nL Z enc pc' lv st h1 (f h1)) : J K X nL Z enc pc lv (.int v :: .ref (X.1 + q) :: st) h (sto (hs h q 1 v) f) := J_put hK hd inXg1 tyX1_ok nmX1 (kd_lt hq (by decide)) rfl (j := 1) (by decide) (lay_1 X h hq) (by rw [lay_1 X _ hq]; simp [hs, hr, upd]) (Nat.le_of_ble_eq_true rfl) kF_X1_15 rfl rfl (by decide +kernel) k
theorem gF_X5_266 (hK : Ok K X RX5 cc nL ret kk) (hd : DD cc pc (.getfield 266) 3 pc') (hq : kd q = 1) (k : J K X nL Z enc pc' lv (.int (h q 1) :: st) h o) : J K X nL Z enc pc lv (.ref (X.1 + q) :: st) h o := J_get hK hd inXg1 (kd_lt hq (by decide)) rfl (j := 1) (by decide) (lay_1 X h hq) rfl kF_X5_266 rfl k
theorem gF_X5_11 (hK : Ok K X RX5 cc nL ret kk) (hd : DD cc pc (.getfield 11) 3 pc') (hq : kd q = 5) (k : J K X nL Z enc pc' lv (.ref (X.1 + (q + 1)) :: st) h o) : J K X nL Z enc pc lv (.ref (X.1 + q) :: st) h o := J_get hK hd inXg5 (kd_lt hq (by decide)) rfl (j := 0) (by decide) (lay_5 X h hq) rfl kF_X5_11 rfl k
theorem gF_X5_19 (hK : Ok K X RX5 cc nL ret kk) (hd : DD cc pc (.getfield 19) 3 pc') (hq : kd q = 5) (k : J K X nL Z enc pc' lv (.ref (X.1 + (q + 18)) :: st) h o) : J K X nL Z enc pc lv (.ref (X.1 + q) :: st) h o := J_get hK hd inXg5 (kd_lt hq (by decide)) rfl (j := 1) (by decide) (lay_5 X h hq) rfl kF_X5_19 rfl k
theorem gF_X5_26 (hK : Ok K X RX5 cc nL ret kk) (hd : DD cc pc (.getfield 26) 3 pc') (hq : kd q = 5) (k : J K X nL Z enc pc' lv (.ref (X.1 + (q + 20)) :: st) h o) : J K X nL Z enc pc lv (.ref (X.1 + q) :: st) h o := J_get hK hd inXg5 (kd_lt hq (by decide)) rfl (j := 2) (by decide) (lay_5 X h hq) rfl kF_X5_26 rfl k
theorem gF_X5_33 (hK : Ok K X RX5 cc nL ret kk) (hd : DD cc pc (.getfield 33) 3 pc') (hq : kd q = 5) (k : J K X nL Z enc pc' lv (.ref (X.1 + (q + 27)) :: st) h o) : J K X nL Z enc pc lv (.ref (X.1 + q) :: st) h o := J_get hK hd inXg5 (kd_lt hq (by decide)) rfl (j := 3) (by decide) (lay_5 X h hq) rfl kF_X5_33 rfl k
theorem gF_X5_37 (hK : Ok K X RX5 cc nL ret kk) (hd : DD cc pc (.getfield 37) 3 pc') (hq : kd q = 5) (k : J K X nL Z enc pc' lv (.ref (X.1 + (q + 197)) :: st) h o) : J K X nL Z enc pc lv (.ref (X.1 + q) :: st) h o := J_get hK hd inXg5 (kd_lt hq (by decide)) rfl (j := 4) (by decide) (lay_5 X h hq) rfl kF_X5_37 rfl k
theorem gF_X5_41 (hK : Ok K X RX5 cc nL ret kk) (hd : DD cc pc (.getfield 41) 3 pc') (hq : kd q = 5) (k : J K X nL Z enc pc' lv (.ref (X.1 + (q + 212)) :: st) h o) : J K X nL Z enc pc lv (.ref (X.1 + q) :: st) h o := J_get hK hd inXg5 (kd_lt hq (by decide)) rfl (j := 5) (by decide) (lay_5 X h hq) rfl kF_X5_41 rfl k
theorem gF_X5_47 (hK : Ok K X RX5 cc nL ret kk) (hd : DD cc pc (.getfield 47) 3 pc') (hq : kd q = 5) (k : J K X nL Z enc pc' lv (.ref (X.1 + (q + 276)) :: st) h o) : J K X nL Z enc pc lv (.ref (X.1 + q) :: st) h o := J_get hK hd inXg5 (kd_lt hq (by decide)) rfl (j := 6) (by decide) (lay_5 X h hq) rfl kF_X5_47 rfl k
theorem gF_X5_279 (hK : Ok K X RX5 cc nL ret kk) (hd : DD cc pc (.getfield 279) 3 pc') (hq : kd q = 5) (k : J K X nL Z enc pc' lv (.int (h q 7) :: st) h o) : J K X nL Z enc pc lv (.ref (X.1 + q) :: st) h o := J_get hK hd inXg5 (kd_lt hq (by decide)) rfl (j := 7) (by decide) (lay_5 X h hq) rfl kF_X5_279 rfl k
theorem pF_X5_279 {v : Int32} {f : AH → Option (α × AH)} (hK : Ok K X RX5 cc nL ret kk) (hd : DD cc pc (.putfield 279) 3 pc') (hq : kd q = 5) (k : ∀ h1, J K X nL Z enc pc' lv st h1 (f h1)) : J K X nL Z enc pc lv (.int v :: .ref (X.1 + q) :: st) h (sto (hs h q 7 v) f) := J_put hK hd inXg5 tyX5_ok nmX5 (kd_lt hq (by decide)) rfl (j := 7) (by decide) (lay_5 X h hq) (by rw [lay_5 X _ hq]; simp [hs, hr, upd]) (Nat.le_of_ble_eq_true rfl) kF_X5_279 rfl rfl (by decide +kernel) k
theorem gF_X6_7 (hK : Ok K X RX6 cc nL ret kk) (hd : DD cc pc (.getfield 7) 3 pc') (hq : kd q = 6) (k : J K X nL Z enc pc' lv (.ref (X.1 + (q + 1)) :: st) h o) : J K X nL Z enc pc lv (.ref (X.1 + q) :: st) h o := J_get hK hd inXg6 (kd_lt hq (by decide)) rfl (j := 0) (by decide) (lay_6 X h hq) rfl kF_X6_7 rfl k
theorem gF_X6_13 (hK : Ok K X RX6 cc nL ret kk) (hd : DD cc pc (.getfield 13) 3 pc') (hq : kd q = 6) (k : J K X nL Z enc pc' lv (.ref (X.1 + (q + 2)) :: st) h o) : J K X nL Z enc pc lv (.ref (X.1 + q) :: st) h o := J_get hK hd inXg6 (kd_lt hq (by decide)) rfl (j := 1) (by decide) (lay_6 X h hq) rfl kF_X6_13 rfl k
theorem gF_X6_16 (hK : Ok K X RX6 cc nL ret kk) (hd : DD cc pc (.getfield 16) 3 pc') (hq : kd q = 6) (k : J K X nL Z enc pc' lv (.ref (X.1 + (q + 3)) :: st) h o) : J K X nL Z enc pc lv (.ref (X.1 + q) :: st) h o := J_get hK hd inXg6 (kd_lt hq (by decide)) rfl (j := 2) (by decide) (lay_6 X h hq) rfl kF_X6_16 rfl k
theorem gF_X6_19 (hK : Ok K X RX6 cc nL ret kk) (hd : DD cc pc (.getfield 19) 3 pc') (hq : kd q = 6) (k : J K X nL Z enc pc' lv (.ref (X.1 + (q + 4)) :: st) h o) : J K X nL Z enc pc lv (.ref (X.1 + q) :: st) h o := J_get hK hd inXg6 (kd_lt hq (by decide)) rfl (j := 3) (by decide) (lay_6 X h hq) rfl kF_X6_19 rfl k
theorem gF_X6_48 (hK : Ok K X RX6 cc nL ret kk) (hd : DD cc pc (.getfield 48) 3 pc') (hq : kd q = 6) (k : J K X nL Z enc pc' lv (.int (h q 4) :: st) h o) : J K X nL Z enc pc lv (.ref (X.1 + q) :: st) h o := J_get hK hd inXg6 (kd_lt hq (by decide)) rfl (j := 4) (by decide) (lay_6 X h hq) rfl kF_X6_48 rfl k
theorem pF_X6_48 {v : Int32} {f : AH → Option (α × AH)} (hK : Ok K X RX6 cc nL ret kk) (hd : DD cc pc (.putfield 48) 3 pc') (hq : kd q = 6) (k : ∀ h1, J K X nL Z enc pc' lv st h1 (f h1)) : J K X nL Z enc pc lv (.int v :: .ref (X.1 + q) :: st) h (sto (hs h q 4 v) f) := J_put hK hd inXg6 tyX6_ok nmX6 (kd_lt hq (by decide)) rfl (j := 4) (by decide) (lay_6 X h hq) (by rw [lay_6 X _ hq]; simp [hs, hr, upd]) (Nat.le_of_ble_eq_true rfl) kF_X6_48 rfl rfl (by decide +kernel) k
theorem gF_X6_22 (hK : Ok K X RX6 cc nL ret kk) (hd : DD cc pc (.getfield 22) 3 pc') (hq : kd q = 6) (k : J K X nL Z enc pc' lv (.ref (X.1 + (q + 5)) :: st) h o) : J K X nL Z enc pc lv (.ref (X.1 + q) :: st) h o := J_get hK hd inXg6 (kd_lt hq (by decide)) rfl (j := 5) (by decide) (lay_6 X h hq) rfl kF_X6_22 rfl k
theorem gF_X6_79 (hK : Ok K X RX6 cc nL ret kk) (hd : DD cc pc (.getfield 79) 3 pc') (hq : kd q = 6) (k : J K X nL Z enc pc' lv (.int (h q 6) :: st) h o) : J K X nL Z enc pc lv (.ref (X.1 + q) :: st) h o := J_get hK hd inXg6 (kd_lt hq (by decide)) rfl (j := 6) (by decide) (lay_6 X h hq) rfl kF_X6_79 rfl k
theorem pF_X6_79 {v : Int32} {f : AH → Option (α × AH)} (hK : Ok K X RX6 cc nL ret kk) (hd : DD cc pc (.putfield 79) 3 pc') (hq : kd q = 6) (k : ∀ h1, J K X nL Z enc pc' lv st h1 (f h1)) : J K X nL Z enc pc lv (.int v :: .ref (X.1 + q) :: st) h (sto (hs h q 6 v) f) := J_put hK hd inXg6 tyX6_ok nmX6 (kd_lt hq (by decide)) rfl (j := 6) (by decide) (lay_6 X h hq) (by rw [lay_6 X _ hq]; simp [hs, hr, upd]) (Nat.le_of_ble_eq_true rfl) kF_X6_79 rfl rfl (by decide +kernel) k
theorem gF_X6_105 (hK : Ok K X RX6 cc nL ret kk) (hd : DD cc pc (.getfield 105) 3 pc') (hq : kd q = 6) (k : J K X nL Z enc pc' lv (.int (h q 7) :: st) h o) : J K X nL Z enc pc lv (.ref (X.1 + q) :: st) h o := J_get hK hd inXg6 (kd_lt hq (by decide)) rfl (j := 7) (by decide) (lay_6 X h hq) rfl kF_X6_105 rfl k
theorem pF_X6_105 {v : Int32} {f : AH → Option (α × AH)} (hK : Ok K X RX6 cc nL ret kk) (hd : DD cc pc (.putfield 105) 3 pc') (hq : kd q = 6) (k : ∀ h1, J K X nL Z enc pc' lv st h1 (f h1)) : J K X nL Z enc pc lv (.int v :: .ref (X.1 + q) :: st) h (sto (hs h q 7 v) f) := J_put hK hd inXg6 tyX6_ok nmX6 (kd_lt hq (by decide)) rfl (j := 7) (by decide) (lay_6 X h hq) (by rw [lay_6 X _ hq]; simp [hs, hr, upd]) (Nat.le_of_ble_eq_true rfl) kF_X6_105 rfl rfl (by decide +kernel) k
theorem gF_X6_98 (hK : Ok K X RX6 cc nL ret kk) (hd : DD cc pc (.getfield 98) 3 pc') (hq : kd q = 6) (k : J K X nL Z enc pc' lv (.int (h q 8) :: st) h o) : J K X nL Z enc pc lv (.ref (X.1 + q) :: st) h o := J_get hK hd inXg6 (kd_lt hq (by decide)) rfl (j := 8) (by decide) (lay_6 X h hq) rfl kF_X6_98 rfl k
theorem pF_X6_98 {v : Int32} {f : AH → Option (α × AH)} (hK : Ok K X RX6 cc nL ret kk) (hd : DD cc pc (.putfield 98) 3 pc') (hq : kd q = 6) (k : ∀ h1, J K X nL Z enc pc' lv st h1 (f h1)) : J K X nL Z enc pc lv (.int v :: .ref (X.1 + q) :: st) h (sto (hs h q 8 v) f) := J_put hK hd inXg6 tyX6_ok nmX6 (kd_lt hq (by decide)) rfl (j := 8) (by decide) (lay_6 X h hq) (by rw [lay_6 X _ hq]; simp [hs, hr, upd]) (Nat.le_of_ble_eq_true rfl) kF_X6_98 rfl rfl (by decide +kernel) k
theorem gF_X6_83 (hK : Ok K X RX6 cc nL ret kk) (hd : DD cc pc (.getfield 83) 3 pc') (hq : kd q = 6) (k : J K X nL Z enc pc' lv (.int (h q 9) :: st) h o) : J K X nL Z enc pc lv (.ref (X.1 + q) :: st) h o := J_get hK hd inXg6 (kd_lt hq (by decide)) rfl (j := 9) (by decide) (lay_6 X h hq) rfl kF_X6_83 rfl k
theorem pF_X6_83 {v : Int32} {f : AH → Option (α × AH)} (hK : Ok K X RX6 cc nL ret kk) (hd : DD cc pc (.putfield 83) 3 pc') (hq : kd q = 6) (k : ∀ h1, J K X nL Z enc pc' lv st h1 (f h1)) : J K X nL Z enc pc lv (.int v :: .ref (X.1 + q) :: st) h (sto (hs h q 9 v) f) := J_put hK hd inXg6 tyX6_ok nmX6 (kd_lt hq (by decide)) rfl (j := 9) (by decide) (lay_6 X h hq) (by rw [lay_6 X _ hq]; simp [hs, hr, upd]) (Nat.le_of_ble_eq_true rfl) kF_X6_83 rfl rfl (by decide +kernel) k
theorem gF_X6_86 (hK : Ok K X RX6 cc nL ret kk) (hd : DD cc pc (.getfield 86) 3 pc') (hq : kd q = 6) (k : J K X nL Z enc pc' lv (.int (h q 10) :: st) h o) : J K X nL Z enc pc lv (.ref (X.1 + q) :: st) h o := J_get hK hd inXg6 (kd_lt hq (by decide)) rfl (j := 10) (by decide) (lay_6 X h hq) rfl kF_X6_86 rfl k
theorem pF_X6_86 {v : Int32} {f : AH → Option (α × AH)} (hK : Ok K X RX6 cc nL ret kk) (hd : DD cc pc (.putfield 86) 3 pc') (hq : kd q = 6) (k : ∀ h1, J K X nL Z enc pc' lv st h1 (f h1)) : J K X nL Z enc pc lv (.int v :: .ref (X.1 + q) :: st) h (sto (hs h q 10 v) f) := J_put hK hd inXg6 tyX6_ok nmX6 (kd_lt hq (by decide)) rfl (j := 10) (by decide) (lay_6 X h hq) (by rw [lay_6 X _ hq]; simp [hs, hr, upd]) (Nat.le_of_ble_eq_true rfl) kF_X6_86 rfl rfl (by decide +kernel) k
theorem gF_X6_95 (hK : Ok K X RX6 cc nL ret kk) (hd : DD cc pc (.getfield 95) 3 pc') (hq : kd q = 6) (k : J K X nL Z enc pc' lv (.int (h q 11) :: st) h o) : J K X nL Z enc pc lv (.ref (X.1 + q) :: st) h o := J_get hK hd inXg6 (kd_lt hq (by decide)) rfl (j := 11) (by decide) (lay_6 X h hq) rfl kF_X6_95 rfl k
theorem pF_X6_95 {v : Int32} {f : AH → Option (α × AH)} (hK : Ok K X RX6 cc nL ret kk) (hd : DD cc pc (.putfield 95) 3 pc') (hq : kd q = 6) (k : ∀ h1, J K X nL Z enc pc' lv st h1 (f h1)) : J K X nL Z enc pc lv (.int v :: .ref (X.1 + q) :: st) h (sto (hs h q 11 v) f) := J_put hK hd inXg6 tyX6_ok nmX6 (kd_lt hq (by decide)) rfl (j := 11) (by decide) (lay_6 X h hq) (by rw [lay_6 X _ hq]; simp [hs, hr, upd]) (Nat.le_of_ble_eq_true rfl) kF_X6_95 rfl rfl (by decide +kernel) k
theorem gF_X6_92 (hK : Ok K X RX6 cc nL ret kk) (hd : DD cc pc (.getfield 92) 3 pc') (hq : kd q = 6) (k : J K X nL Z enc pc' lv (.int (h q 12) :: st) h o) : J K X nL Z enc pc lv (.ref (X.1 + q) :: st) h o := J_get hK hd inXg6 (kd_lt hq (by decide)) rfl (j := 12) (by decide) (lay_6 X h hq) rfl kF_X6_92 rfl k
theorem pF_X6_92 {v : Int32} {f : AH → Option (α × AH)} (hK : Ok K X RX6 cc nL ret kk) (hd : DD cc pc (.putfield 92) 3 pc') (hq : kd q = 6) (k : ∀ h1, J K X nL Z enc pc' lv st h1 (f h1)) : J K X nL Z enc pc lv (.int v :: .ref (X.1 + q) :: st) h (sto (hs h q 12 v) f) := J_put hK hd inXg6 tyX6_ok nmX6 (kd_lt hq (by decide)) rfl (j := 12) (by decide) (lay_6 X h hq) (by rw [lay_6 X _ hq]; simp [hs, hr, upd]) (Nat.le_of_ble_eq_true rfl) kF_X6_92 rfl rfl (by decide +kernel) k
theorem gF_X6_25 (hK : Ok K X RX6 cc nL ret kk) (hd : DD cc pc (.getfield 25) 3 pc') (hq : kd q = 6) (k : J K X nL Z enc pc' lv (.ref (X.1 + (q + 6)) :: st) h o) : J K X nL Z enc pc lv (.ref (X.1 + q) :: st) h o := J_get hK hd inXg6 (kd_lt hq (by decide)) rfl (j := 13) (by decide) (lay_6 X h hq) rfl kF_X6_25 rfl k
theorem gF_X6_28 (hK : Ok K X RX6 cc nL ret kk) (hd : DD cc pc (.getfield 28) 3 pc') (hq : kd q = 6) (k : J K X nL Z enc pc' lv (.ref (X.1 + (q + 7)) :: st) h o) : J K X nL Z enc pc lv (.ref (X.1 + q) :: st) h o := J_get hK hd inXg6 (kd_lt hq (by decide)) rfl (j := 14) (by decide) (lay_6 X h hq) rfl kF_X6_28 rfl k
theorem gF_X6_31 (hK : Ok K X RX6 cc nL ret kk) (hd : DD cc pc (.getfield 31) 3 pc') (hq : kd q = 6) (k : J K X nL Z enc pc' lv (.ref (X.1 + (q + 8)) :: st) h o) : J K X nL Z enc pc lv (.ref (X.1 + q) :: st) h o := J_get hK hd inXg6 (kd_lt hq (by decide)) rfl (j := 15) (by decide) (lay_6 X h hq) rfl kF_X6_31 rfl k
theorem gF_X6_34 (hK : Ok K X RX6 cc nL ret kk) (hd : DD cc pc (.getfield 34) 3 pc') (hq : kd q = 6) (k : J K X nL Z enc pc' lv (.ref (X.1 + (q + 9)) :: st) h o) : J K X nL Z enc pc lv (.ref (X.1 + q) :: st) h o := J_get hK hd inXg6 (kd_lt hq (by decide)) rfl (j := 16) (by decide) (lay_6 X h hq) rfl kF_X6_34 rfl k
theorem gF_X6_139 (hK : Ok K X RX6 cc nL ret kk) (hd : DD cc pc (.getfield 139) 3 pc') (hq : kd q = 6) (k : J K X nL Z enc pc' lv (.int (h q 17) :: st) h o) : J K X nL Z enc pc lv (.ref (X.1 + q) :: st) h o := J_get hK hd inXg6 (kd_lt hq (by decide)) rfl (j := 17) (by decide) (lay_6 X h hq) rfl kF_X6_139 rfl k
theorem pF_X6_139 {v : Int32} {f : AH → Option (α × AH)} (hK : Ok K X RX6 cc nL ret kk) (hd : DD cc pc (.putfield 139) 3 pc') (hq : kd q = 6) (k : ∀ h1, J K X nL Z enc pc' lv st h1 (f h1)) : J K X nL Z enc pc lv (.int v :: .ref (X.1 + q) :: st) h (sto (hs h q 17 v) f) := J_put hK hd inXg6 tyX6_ok nmX6 (kd_lt hq (by decide)) rfl (j := 17) (by decide) (lay_6 X h hq) (by rw [lay_6 X _ hq]; simp [hs, hr, upd]) (Nat.le_of_ble_eq_true rfl) kF_X6_139 rfl rfl (by decide +kernel) k
theorem gF_X6_37 (hK : Ok K X RX6 cc nL ret kk) (hd : DD cc pc (.getfield 37) 3 pc') (hq : kd q = 6) (k : J K X nL Z enc pc' lv (.ref (X.1 + (q + 10)) :: st) h o) : J K X nL Z enc pc lv (.ref (X.1 + q) :: st) h o := J_get hK hd inXg6 (kd_lt hq (by decide)) rfl (j := 18) (by decide) (lay_6 X h hq) rfl kF_X6_37 rfl k
theorem gF_X6_40 (hK : Ok K X RX6 cc nL ret kk) (hd : DD cc pc (.getfield 40) 3 pc') (hq : kd q = 6) (k : J K X nL Z enc pc' lv (.ref (X.1 + (q + 11)) :: st) h o) : J K X nL Z enc pc lv (.ref (X.1 + q) :: st) h o := J_get hK hd inXg6 (kd_lt hq (by decide)) rfl (j := 19) (by decide) (lay_6 X h hq) rfl kF_X6_40 rfl k
theorem gF_X6_44 (hK : Ok K X RX6 cc nL ret kk) (hd : DD cc pc (.getfield 44) 3 pc') (hq : kd q = 6) (k : J K X nL Z enc pc' lv (.ref (X.1 + (q + 12)) :: st) h o) : J K X nL Z enc pc lv (.ref (X.1 + q) :: st) h o := J_get hK hd inXg6 (kd_lt hq (by decide)) rfl (j := 20) (by decide) (lay_6 X h hq) rfl kF_X6_44 rfl k
theorem gF_X6_220 (hK : Ok K X RX6 cc nL ret kk) (hd : DD cc pc (.getfield 220) 3 pc') (hq : kd q = 6) (k : J K X nL Z enc pc' lv (.int (h q 21) :: st) h o) : J K X nL Z enc pc lv (.ref (X.1 + q) :: st) h o := J_get hK hd inXg6 (kd_lt hq (by decide)) rfl (j := 21) (by decide) (lay_6 X h hq) rfl kF_X6_220 rfl k
theorem pF_X6_220 {v : Int32} {f : AH → Option (α × AH)} (hK : Ok K X RX6 cc nL ret kk) (hd : DD cc pc (.putfield 220) 3 pc') (hq : kd q = 6) (k : ∀ h1, J K X nL Z enc pc' lv st h1 (f h1)) : J K X nL Z enc pc lv (.int v :: .ref (X.1 + q) :: st) h (sto (hs h q 21 v) f) := J_put hK hd inXg6 tyX6_ok nmX6 (kd_lt hq (by decide)) rfl (j := 21) (by decide) (lay_6 X h hq) (by rw [lay_6 X _ hq]; simp [hs, hr, upd]) (Nat.le_of_ble_eq_true rfl) kF_X6_220 rfl rfl (by decide +kernel) k
end JF
theorem ci_m1 : Int32.ofInt (-1) = (-1 : Int32) := by decide
theorem ci_0 : Int32.ofInt (0) = (0 : Int32) := by decide
theorem ci_1 : Int32.ofInt (1) = (1 : Int32) := by decide
theorem ci_2 : Int32.ofInt (2) = (2 : Int32) := by decide
theorem ci_3 : Int32.ofInt (3) = (3 : Int32) := by decide
theorem ci_4 : Int32.ofInt (4) = (4 : Int32) := by decide
theorem ci_5 : Int32.ofInt (5) = (5 : Int32) := by decide
theorem ci_6 : Int32.ofInt (6) = (6 : Int32) := by decide
theorem cb_6 : (Int8.ofInt (6)).toInt32 = (6 : Int32) := by decide
theorem cb_7 : (Int8.ofInt (7)).toInt32 = (7 : Int32) := by decide
theorem cb_8 : (Int8.ofInt (8)).toInt32 = (8 : Int32) := by decide
theorem cb_9 : (Int8.ofInt (9)).toInt32 = (9 : Int32) := by decide
theorem cb_10 : (Int8.ofInt (10)).toInt32 = (10 : Int32) := by decide
theorem cb_11 : (Int8.ofInt (11)).toInt32 = (11 : Int32) := by decide
theorem cb_12 : (Int8.ofInt (12)).toInt32 = (12 : Int32) := by decide
theorem cb_13 : (Int8.ofInt (13)).toInt32 = (13 : Int32) := by decide
theorem cb_14 : (Int8.ofInt (14)).toInt32 = (14 : Int32) := by decide
theorem cb_16 : (Int8.ofInt (16)).toInt32 = (16 : Int32) := by decide
theorem cb_20 : (Int8.ofInt (20)).toInt32 = (20 : Int32) := by decide
theorem cb_21 : (Int8.ofInt (21)).toInt32 = (21 : Int32) := by decide
theorem cb_22 : (Int8.ofInt (22)).toInt32 = (22 : Int32) := by decide
theorem cb_23 : (Int8.ofInt (23)).toInt32 = (23 : Int32) := by decide
theorem cb_24 : (Int8.ofInt (24)).toInt32 = (24 : Int32) := by decide
theorem cb_30 : (Int8.ofInt (30)).toInt32 = (30 : Int32) := by decide
theorem cb_31 : (Int8.ofInt (31)).toInt32 = (31 : Int32) := by decide
theorem cb_35 : (Int8.ofInt (35)).toInt32 = (35 : Int32) := by decide
theorem cb_40 : (Int8.ofInt (40)).toInt32 = (40 : Int32) := by decide
theorem cb_43 : (Int8.ofInt (43)).toInt32 = (43 : Int32) := by decide
theorem cb_44 : (Int8.ofInt (44)).toInt32 = (44 : Int32) := by decide
theorem cb_48 : (Int8.ofInt (48)).toInt32 = (48 : Int32) := by decide
theorem cb_57 : (Int8.ofInt (57)).toInt32 = (57 : Int32) := by decide
theorem cb_59 : (Int8.ofInt (59)).toInt32 = (59 : Int32) := by decide
theorem cb_60 : (Int8.ofInt (60)).toInt32 = (60 : Int32) := by decide
theorem cb_61 : (Int8.ofInt (61)).toInt32 = (61 : Int32) := by decide
theorem cb_63 : (Int8.ofInt (63)).toInt32 = (63 : Int32) := by decide
theorem cb_64 : (Int8.ofInt (64)).toInt32 = (64 : Int32) := by decide
theorem cb_86 : (Int8.ofInt (86)).toInt32 = (86 : Int32) := by decide
theorem cb_90 : (Int8.ofInt (90)).toInt32 = (90 : Int32) := by decide
theorem cb_97 : (Int8.ofInt (97)).toInt32 = (97 : Int32) := by decide
theorem cb_98 : (Int8.ofInt (98)).toInt32 = (98 : Int32) := by decide
theorem cb_99 : (Int8.ofInt (99)).toInt32 = (99 : Int32) := by decide
theorem cb_100 : (Int8.ofInt (100)).toInt32 = (100 : Int32) := by decide
theorem cb_108 : (Int8.ofInt (108)).toInt32 = (108 : Int32) := by decide
theorem cb_112 : (Int8.ofInt (112)).toInt32 = (112 : Int32) := by decide
theorem cb_113 : (Int8.ofInt (113)).toInt32 = (113 : Int32) := by decide
theorem cb_115 : (Int8.ofInt (115)).toInt32 = (115 : Int32) := by decide
theorem cb_116 : (Int8.ofInt (116)).toInt32 = (116 : Int32) := by decide
theorem cb_122 : (Int8.ofInt (122)).toInt32 = (122 : Int32) := by decide
theorem cs_255 : (Int16.ofInt (255)).toInt32 = (255 : Int32) := by decide
theorem cs_320 : (Int16.ofInt (320)).toInt32 = (320 : Int32) := by decide
theorem cs_989 : (Int16.ofInt (989)).toInt32 = (989 : Int32) := by decide
theorem cs_999 : (Int16.ofInt (999)).toInt32 = (999 : Int32) := by decide
theorem cs_1000 : (Int16.ofInt (1000)).toInt32 = (1000 : Int32) := by decide
theorem cs_1032 : (Int16.ofInt (1032)).toInt32 = (1032 : Int32) := by decide
theorem cs_9999 : (Int16.ofInt (9999)).toInt32 = (9999 : Int32) := by decide
theorem kd_0 : kd 0 = 5 := by decide +kernel
theorem ln_0 : ln 0 = 0 := by decide +kernel
theorem kd_1 : kd 1 = 10 := by decide +kernel
theorem ln_1 : ln 1 = 8 := by decide +kernel
theorem kd_18 : kd 18 = 4 := by decide +kernel
theorem ln_18 : ln 18 = 0 := by decide +kernel
theorem kd_19 : kd 19 = 7 := by decide +kernel
theorem ln_19 : ln 19 = 90 := by decide +kernel
theorem kd_20 : kd 20 = 2 := by decide +kernel
theorem ln_20 : ln 20 = 0 := by decide +kernel
theorem kd_21 : kd 21 = 7 := by decide +kernel
theorem ln_21 : ln 21 = 6 := by decide +kernel
theorem kd_22 : kd 22 = 7 := by decide +kernel
theorem ln_22 : ln 22 = 6 := by decide +kernel
theorem kd_23 : kd 23 = 7 := by decide +kernel
theorem ln_23 : ln 23 = 6 := by decide +kernel
theorem kd_24 : kd 24 = 7 := by decide +kernel
theorem ln_24 : ln 24 = 6 := by decide +kernel
theorem kd_25 : kd 25 = 7 := by decide +kernel
theorem ln_25 : ln 25 = 4 := by decide +kernel
theorem kd_26 : kd 26 = 7 := by decide +kernel
theorem ln_26 : ln 26 = 4 := by decide +kernel
theorem kd_27 : kd 27 = 0 := by decide +kernel
theorem ln_27 : ln 27 = 0 := by decide +kernel
theorem kd_28 : kd 28 = 9 := by decide +kernel
theorem ln_28 : ln 28 = 24 := by decide +kernel
theorem kd_197 : kd 197 = 9 := by decide +kernel
theorem ln_197 : ln 197 = 2 := by decide +kernel
theorem kd_212 : kd 212 = 9 := by decide +kernel
theorem ln_212 : ln 212 = 9 := by decide +kernel
theorem kd_213 : kd 213 = 2 := by decide +kernel
theorem ln_213 : ln 213 = 0 := by decide +kernel
theorem kd_276 : kd 276 = 1 := by decide +kernel
theorem ln_276 : ln 276 = 0 := by decide +kernel
theorem kd_277 : kd 277 = 7 := by decide +kernel
theorem ln_277 : ln 277 = 16 := by decide +kernel
theorem kd_278 : kd 278 = 6 := by decide +kernel
theorem ln_278 : ln 278 = 0 := by decide +kernel
theorem kd_279 : kd 279 = 7 := by decide +kernel
theorem ln_279 : ln 279 = 8 := by decide +kernel
theorem kd_280 : kd 280 = 7 := by decide +kernel
theorem ln_280 : ln 280 = 8 := by decide +kernel
theorem kd_281 : kd 281 = 7 := by decide +kernel
theorem ln_281 : ln 281 = 320 := by decide +kernel
theorem kd_282 : kd 282 = 7 := by decide +kernel
theorem ln_282 : ln 282 = 40 := by decide +kernel
theorem kd_283 : kd 283 = 7 := by decide +kernel
theorem ln_283 : ln 283 = 90 := by decide +kernel
theorem kd_284 : kd 284 = 7 := by decide +kernel
theorem ln_284 : ln 284 = 43 := by decide +kernel
theorem kd_285 : kd 285 = 7 := by decide +kernel
theorem ln_285 : ln 285 = 43 := by decide +kernel
theorem kd_286 : kd 286 = 7 := by decide +kernel
theorem ln_286 : ln 286 = 43 := by decide +kernel
theorem kd_287 : kd 287 = 7 := by decide +kernel
theorem ln_287 : ln 287 = 1032 := by decide +kernel
theorem kd_288 : kd 288 = 7 := by decide +kernel
theorem ln_288 : ln 288 = 86 := by decide +kernel
theorem kd_289 : kd 289 = 8 := by decide +kernel
theorem ln_289 : ln 289 = 2 := by decide +kernel
theorem kd_290 : kd 290 = 7 := by decide +kernel
theorem ln_290 : ln 290 = 16 := by decide +kernel
theorem kdE_all : ∀ r, r < 291 → kd r = 2 → (kd (r + 1) = 7 ∧ kd (r + 2) = 7 ∧ kd (r + 3) = 7 ∧ kd (r + 4) = 7 ∧ kd (r + 5) = 7 ∧ kd (r + 6) = 7) ∧ (ln (r + 1) = 6 ∧ ln (r + 2) = 6 ∧ ln (r + 3) = 6 ∧ ln (r + 4) = 6 ∧ ln (r + 5) = 4 ∧ ln (r + 6) = 4) := by decide +kernel
theorem kdE_1 {r : Nat} (h : kd r = 2) : kd (r + 1) = 7 := (kdE_all r (kd_lt h (by decide)) h).1.1
theorem kdE_2 {r : Nat} (h : kd r = 2) : kd (r + 2) = 7 := (kdE_all r (kd_lt h (by decide)) h).1.2.1
theorem kdE_3 {r : Nat} (h : kd r = 2) : kd (r + 3) = 7 := (kdE_all r (kd_lt h (by decide)) h).1.2.2.1
theorem kdE_4 {r : Nat} (h : kd r = 2) : kd (r + 4) = 7 := (kdE_all r (kd_lt h (by decide)) h).1.2.2.2.1
theorem kdE_5 {r : Nat} (h : kd r = 2) : kd (r + 5) = 7 := (kdE_all r (kd_lt h (by decide)) h).1.2.2.2.2.1
theorem kdE_6 {r : Nat} (h : kd r = 2) : kd (r + 6) = 7 := (kdE_all r (kd_lt h (by decide)) h).1.2.2.2.2.2
theorem lnE_1 {r : Nat} (h : kd r = 2) : ln (r + 1) = 6 := (kdE_all r (kd_lt h (by decide)) h).2.1
theorem lnE_2 {r : Nat} (h : kd r = 2) : ln (r + 2) = 6 := (kdE_all r (kd_lt h (by decide)) h).2.2.1
theorem lnE_3 {r : Nat} (h : kd r = 2) : ln (r + 3) = 6 := (kdE_all r (kd_lt h (by decide)) h).2.2.2.1
theorem lnE_4 {r : Nat} (h : kd r = 2) : ln (r + 4) = 6 := (kdE_all r (kd_lt h (by decide)) h).2.2.2.2.1
theorem lnE_5 {r : Nat} (h : kd r = 2) : ln (r + 5) = 4 := (kdE_all r (kd_lt h (by decide)) h).2.2.2.2.2.1
theorem lnE_6 {r : Nat} (h : kd r = 2) : ln (r + 6) = 4 := (kdE_all r (kd_lt h (by decide)) h).2.2.2.2.2.2
theorem kdR_all : ∀ r, r < 291 → kd r = 3 → kd (r + 1) = 7 ∧ ln (r + 1) = 40 := by decide +kernel
theorem kdR_1 {r : Nat} (h : kd r = 3) : kd (r + 1) = 7 := (kdR_all r (kd_lt h (by decide)) h).1
theorem lnR_1 {r : Nat} (h : kd r = 3) : ln (r + 1) = 40 := (kdR_all r (kd_lt h (by decide)) h).2
theorem inb_lt {i : Int32} {n : Nat} (h : inb i n) : i.toNatClampNeg < n := Nat.not_le.mp fun q => h (Or.inr q)
theorem kdA_28 {i : Int32} (h : inb i (ln 28)) : kd (28 + 1 + 7 * i.toNatClampNeg) = 2 := by
  have key : ∀ j, j < 24 → kd (28 + 1 + 7 * j) = 2 := by decide +kernel
  rw [ln_28] at h
  exact key _ (inb_lt h)
theorem kdA_197 {i : Int32} (h : inb i (ln 197)) : kd (197 + 1 + 7 * i.toNatClampNeg) = 2 := by
  have key : ∀ j, j < 2 → kd (197 + 1 + 7 * j) = 2 := by decide +kernel
  rw [ln_197] at h
  exact key _ (inb_lt h)
theorem kdA_212 {i : Int32} (h : inb i (ln 212)) : kd (212 + 1 + 7 * i.toNatClampNeg) = 2 := by
  have key : ∀ j, j < 9 → kd (212 + 1 + 7 * j) = 2 := by decide +kernel
  rw [ln_212] at h
  exact key _ (inb_lt h)
theorem kdA_1 {i : Int32} (h : inb i (ln 1)) : kd (1 + 1 + 2 * i.toNatClampNeg) = 3 := by
  have key : ∀ j, j < 8 → kd (1 + 1 + 2 * j) = 3 := by decide +kernel
  rw [ln_1] at h
  exact key _ (inb_lt h)
theorem kA_X5_86 : Cond.methodLink RX5 86 arraycopyName ∈ lw_tbl := List.mem_of_getElem? (i := 289) (by decide +kernel)
theorem kA_X2_49 : Cond.methodLink RX2 49 arraycopyName ∈ lw_tbl := List.mem_of_getElem? (i := 377) (by decide +kernel)
theorem kA_X2_59 : Cond.methodLink RX2 59 Lib.Math.min.name ∈ lw_tbl := List.mem_of_getElem? (i := 412) (by decide +kernel)
theorem kA_X2_88 : Cond.methodLink RX2 88 Lib.Math.max.name ∈ lw_tbl := List.mem_of_getElem? (i := 439) (by decide +kernel)
theorem kA_nat : Cond.native arraycopyName ∈ lw_tbl := List.mem_of_getElem? (i := 291) (by decide +kernel)
theorem kA_st : Cond.static arraycopyName ∈ lw_tbl := List.mem_of_getElem? (i := 290) (by decide +kernel)
theorem kA_in : Cond.initialized "java/lang/System" ∈ lw_tbl := List.mem_of_getElem? (i := 64) (by decide +kernel)
theorem kA_im : Cond.initialized "java/lang/Math" ∈ lw_tbl := List.mem_of_getElem? (i := 65) (by decide +kernel)
theorem kA_smin : Cond.static Lib.Math.min.name ∈ lw_tbl := List.mem_of_getElem? (i := 413) (by decide +kernel)
theorem kA_cmin : Cond.code Lib.Math.min.name Lib.Math.min.code 2 (some .int) ∈ lw_tbl := List.mem_of_getElem? (i := 414) (by decide +kernel)
theorem kA_smax : Cond.static Lib.Math.max.name ∈ lw_tbl := List.mem_of_getElem? (i := 440) (by decide +kernel)
theorem kA_cmax : Cond.code Lib.Math.max.name Lib.Math.max.code 2 (some .int) ∈ lw_tbl := List.mem_of_getElem? (i := 441) (by decide +kernel)
end
