section
-- ===== PART A: goes FIRST, ahead of the names: the tables' words, and 'selects' of the private methods out of them =====
/-- a private method of a class that the tables say can be made, by its rows of tables_1 -/
def lw_okq (q : MethodName × Nat) : Prop := (q.1.cls ≠ "java/lang/invoke/MethodHandle" ∧ q.1.cls ≠ "java/lang/invoke/VarHandle") ∧ Cond.instantiable q.1.cls q.2 ∈ tables_1 ∧ Cond.privateMethod q.1 ∈ tables_1 ∧ Cond.instanceMethod q.1 ∈ tables_1
theorem lw_p0 : lw_okq (⟨"SameParts$Town", "settle", "(I)V"⟩, 3) := ⟨⟨by decide +kernel, by decide +kernel⟩, List.mem_of_getElem? (i := 22) (by decide +kernel), List.mem_of_getElem? (i := 189) (by decide +kernel), List.mem_of_getElem? (i := 190) (by decide +kernel)⟩
theorem lw_p1 : lw_okq (⟨"SameParts", "refuse", "(I)I"⟩, 13) := ⟨⟨by decide +kernel, by decide +kernel⟩, List.mem_of_getElem? (i := 14) (by decide +kernel), List.mem_of_getElem? (i := 240) (by decide +kernel), List.mem_of_getElem? (i := 241) (by decide +kernel)⟩
theorem lw_p2 : lw_okq (⟨"SameParts$Told", "drain", "()V"⟩, 2) := ⟨⟨by decide +kernel, by decide +kernel⟩, List.mem_of_getElem? (i := 47) (by decide +kernel), List.mem_of_getElem? (i := 250) (by decide +kernel), List.mem_of_getElem? (i := 251) (by decide +kernel)⟩
theorem lw_p3 : lw_okq (⟨"SameParts$Town", "lives", "(I)Z"⟩, 3) := ⟨⟨by decide +kernel, by decide +kernel⟩, List.mem_of_getElem? (i := 22) (by decide +kernel), List.mem_of_getElem? (i := 258) (by decide +kernel), List.mem_of_getElem? (i := 259) (by decide +kernel)⟩
theorem lw_p4 : lw_okq (⟨"SameParts$Tape", "append", "(I)V"⟩, 5) := ⟨⟨by decide +kernel, by decide +kernel⟩, List.mem_of_getElem? (i := 62) (by decide +kernel), List.mem_of_getElem? (i := 270) (by decide +kernel), List.mem_of_getElem? (i := 271) (by decide +kernel)⟩
theorem lw_p5 : lw_okq (⟨"SameParts$Tape", "readAll", "(I)Z"⟩, 5) := ⟨⟨by decide +kernel, by decide +kernel⟩, List.mem_of_getElem? (i := 62) (by decide +kernel), List.mem_of_getElem? (i := 279) (by decide +kernel), List.mem_of_getElem? (i := 280) (by decide +kernel)⟩
theorem lw_p6 : lw_okq (⟨"SameParts$Tape", "readTie", "()Z"⟩, 5) := ⟨⟨by decide +kernel, by decide +kernel⟩, List.mem_of_getElem? (i := 62) (by decide +kernel), List.mem_of_getElem? (i := 284) (by decide +kernel), List.mem_of_getElem? (i := 285) (by decide +kernel)⟩
theorem lw_p7 : lw_okq (⟨"SameParts$Told", "draft", "(II)V"⟩, 2) := ⟨⟨by decide +kernel, by decide +kernel⟩, List.mem_of_getElem? (i := 47) (by decide +kernel), List.mem_of_getElem? (i := 288) (by decide +kernel), List.mem_of_getElem? (i := 289) (by decide +kernel)⟩
theorem lw_p8 : lw_okq (⟨"SameParts$Tape", "readPerson", "(I)Z"⟩, 5) := ⟨⟨by decide +kernel, by decide +kernel⟩, List.mem_of_getElem? (i := 62) (by decide +kernel), List.mem_of_getElem? (i := 293) (by decide +kernel), List.mem_of_getElem? (i := 294) (by decide +kernel)⟩
theorem lw_p9 : lw_okq (⟨"SameParts$Tape", "readInto", "(IIII)Z"⟩, 5) := ⟨⟨by decide +kernel, by decide +kernel⟩, List.mem_of_getElem? (i := 62) (by decide +kernel), List.mem_of_getElem? (i := 297) (by decide +kernel), List.mem_of_getElem? (i := 298) (by decide +kernel)⟩
theorem lw_p10 : lw_okq (⟨"SameParts$Tape", "here", "()I"⟩, 5) := ⟨⟨by decide +kernel, by decide +kernel⟩, List.mem_of_getElem? (i := 62) (by decide +kernel), List.mem_of_getElem? (i := 301) (by decide +kernel), List.mem_of_getElem? (i := 302) (by decide +kernel)⟩
theorem lw_p11 : lw_okq (⟨"SameParts$Tape", "skip", "(I)Z"⟩, 5) := ⟨⟨by decide +kernel, by decide +kernel⟩, List.mem_of_getElem? (i := 62) (by decide +kernel), List.mem_of_getElem? (i := 306) (by decide +kernel), List.mem_of_getElem? (i := 307) (by decide +kernel)⟩
theorem lw_p12 : lw_okq (⟨"SameParts$Tape", "drafted", "(I)I"⟩, 5) := ⟨⟨by decide +kernel, by decide +kernel⟩, List.mem_of_getElem? (i := 62) (by decide +kernel), List.mem_of_getElem? (i := 310) (by decide +kernel), List.mem_of_getElem? (i := 311) (by decide +kernel)⟩
theorem lw_p13 : lw_okq (⟨"SameParts$Told", "field", "(II)I"⟩, 2) := ⟨⟨by decide +kernel, by decide +kernel⟩, List.mem_of_getElem? (i := 47) (by decide +kernel), List.mem_of_getElem? (i := 314) (by decide +kernel), List.mem_of_getElem? (i := 315) (by decide +kernel)⟩
theorem lw_p14 : lw_okq (⟨"SameParts$Tape", "readStrength", "()Z"⟩, 5) := ⟨⟨by decide +kernel, by decide +kernel⟩, List.mem_of_getElem? (i := 62) (by decide +kernel), List.mem_of_getElem? (i := 319) (by decide +kernel), List.mem_of_getElem? (i := 320) (by decide +kernel)⟩
theorem lw_p15 : lw_okq (⟨"SameParts$Tape", "readYears", "()Z"⟩, 5) := ⟨⟨by decide +kernel, by decide +kernel⟩, List.mem_of_getElem? (i := 62) (by decide +kernel), List.mem_of_getElem? (i := 323) (by decide +kernel), List.mem_of_getElem? (i := 324) (by decide +kernel)⟩
def lw_privs_1 : List (MethodName × Nat) := [(⟨"SameParts$Town", "settle", "(I)V"⟩, 3), (⟨"SameParts", "refuse", "(I)I"⟩, 13), (⟨"SameParts$Told", "drain", "()V"⟩, 2), (⟨"SameParts$Town", "lives", "(I)Z"⟩, 3), (⟨"SameParts$Tape", "append", "(I)V"⟩, 5), (⟨"SameParts$Tape", "readAll", "(I)Z"⟩, 5), (⟨"SameParts$Tape", "readTie", "()Z"⟩, 5), (⟨"SameParts$Told", "draft", "(II)V"⟩, 2), (⟨"SameParts$Tape", "readPerson", "(I)Z"⟩, 5), (⟨"SameParts$Tape", "readInto", "(IIII)Z"⟩, 5), (⟨"SameParts$Tape", "here", "()I"⟩, 5), (⟨"SameParts$Tape", "skip", "(I)Z"⟩, 5), (⟨"SameParts$Tape", "drafted", "(I)I"⟩, 5), (⟨"SameParts$Told", "field", "(II)I"⟩, 2), (⟨"SameParts$Tape", "readStrength", "()Z"⟩, 5), (⟨"SameParts$Tape", "readYears", "()Z"⟩, 5)]
theorem lw_r1 : ∀ q ∈ lw_privs_1, lw_okq q := List.forall_mem_cons.mpr ⟨lw_p0, List.forall_mem_cons.mpr ⟨lw_p1, List.forall_mem_cons.mpr ⟨lw_p2, List.forall_mem_cons.mpr ⟨lw_p3, List.forall_mem_cons.mpr ⟨lw_p4, List.forall_mem_cons.mpr ⟨lw_p5, List.forall_mem_cons.mpr ⟨lw_p6, List.forall_mem_cons.mpr ⟨lw_p7, List.forall_mem_cons.mpr ⟨lw_p8, List.forall_mem_cons.mpr ⟨lw_p9, List.forall_mem_cons.mpr ⟨lw_p10, List.forall_mem_cons.mpr ⟨lw_p11, List.forall_mem_cons.mpr ⟨lw_p12, List.forall_mem_cons.mpr ⟨lw_p13, List.forall_mem_cons.mpr ⟨lw_p14, List.forall_mem_cons.mpr ⟨lw_p15, fun _ h => absurd h List.not_mem_nil⟩⟩⟩⟩⟩⟩⟩⟩⟩⟩⟩⟩⟩⟩⟩⟩
theorem lw_p16 : lw_okq (⟨"SameParts$Tape", "readYear", "(II)Z"⟩, 5) := ⟨⟨by decide +kernel, by decide +kernel⟩, List.mem_of_getElem? (i := 62) (by decide +kernel), List.mem_of_getElem? (i := 327) (by decide +kernel), List.mem_of_getElem? (i := 328) (by decide +kernel)⟩
theorem lw_p17 : lw_okq (⟨"SameParts$Told", "endDraft", "()V"⟩, 2) := ⟨⟨by decide +kernel, by decide +kernel⟩, List.mem_of_getElem? (i := 47) (by decide +kernel), List.mem_of_getElem? (i := 331) (by decide +kernel), List.mem_of_getElem? (i := 332) (by decide +kernel)⟩
theorem lw_p18 : lw_okq (⟨"SameParts$Told", "takeAll", "(LSameParts$Told;)V"⟩, 2) := ⟨⟨by decide +kernel, by decide +kernel⟩, List.mem_of_getElem? (i := 47) (by decide +kernel), List.mem_of_getElem? (i := 335) (by decide +kernel), List.mem_of_getElem? (i := 336) (by decide +kernel)⟩
theorem lw_p19 : lw_okq (⟨"SameParts$Told", "drop", "(I)V"⟩, 2) := ⟨⟨by decide +kernel, by decide +kernel⟩, List.mem_of_getElem? (i := 47) (by decide +kernel), List.mem_of_getElem? (i := 346) (by decide +kernel), List.mem_of_getElem? (i := 347) (by decide +kernel)⟩
theorem lw_p20 : lw_okq (⟨"SameParts", "lookAt", "(I)V"⟩, 13) := ⟨⟨by decide +kernel, by decide +kernel⟩, List.mem_of_getElem? (i := 14) (by decide +kernel), List.mem_of_getElem? (i := 357) (by decide +kernel), List.mem_of_getElem? (i := 358) (by decide +kernel)⟩
theorem lw_p21 : lw_okq (⟨"SameParts$Told", "draw", "(LSameParts$Town;I)V"⟩, 2) := ⟨⟨by decide +kernel, by decide +kernel⟩, List.mem_of_getElem? (i := 47) (by decide +kernel), List.mem_of_getElem? (i := 361) (by decide +kernel), List.mem_of_getElem? (i := 362) (by decide +kernel)⟩
theorem lw_p22 : lw_okq (⟨"SameParts$Town", "strength", "(III)I"⟩, 3) := ⟨⟨by decide +kernel, by decide +kernel⟩, List.mem_of_getElem? (i := 22) (by decide +kernel), List.mem_of_getElem? (i := 369) (by decide +kernel), List.mem_of_getElem? (i := 370) (by decide +kernel)⟩
theorem lw_p23 : lw_okq (⟨"SameParts$Town", "tiesOf", "(IIZ)I"⟩, 3) := ⟨⟨by decide +kernel, by decide +kernel⟩, List.mem_of_getElem? (i := 22) (by decide +kernel), List.mem_of_getElem? (i := 377) (by decide +kernel), List.mem_of_getElem? (i := 378) (by decide +kernel)⟩
theorem lw_p24 : lw_okq (⟨"SameParts$Town", "tied", "(III)Z"⟩, 3) := ⟨⟨by decide +kernel, by decide +kernel⟩, List.mem_of_getElem? (i := 22) (by decide +kernel), List.mem_of_getElem? (i := 381) (by decide +kernel), List.mem_of_getElem? (i := 382) (by decide +kernel)⟩
theorem lw_p25 : lw_okq (⟨"SameParts$Parting", "readNumber", "(II)Z"⟩, 3) := ⟨⟨by decide +kernel, by decide +kernel⟩, List.mem_of_getElem? (i := 167) (by decide +kernel), List.mem_of_getElem? (i := 390) (by decide +kernel), List.mem_of_getElem? (i := 391) (by decide +kernel)⟩
theorem lw_p26 : lw_okq (⟨"SameParts$Parting", "of", "(I)I"⟩, 3) := ⟨⟨by decide +kernel, by decide +kernel⟩, List.mem_of_getElem? (i := 167) (by decide +kernel), List.mem_of_getElem? (i := 395) (by decide +kernel), List.mem_of_getElem? (i := 396) (by decide +kernel)⟩
theorem lw_p27 : lw_okq (⟨"SameParts$Sameness", "firstUnlike", "(LSameParts$Town;LSameParts$Parting;I)I"⟩, 1) := ⟨⟨by decide +kernel, by decide +kernel⟩, List.mem_of_getElem? (i := 109) (by decide +kernel), List.mem_of_getElem? (i := 410) (by decide +kernel), List.mem_of_getElem? (i := 411) (by decide +kernel)⟩
theorem lw_p28 : lw_okq (⟨"SameParts$Sameness", "look", "(LSameParts$Town;LSameParts$Parting;I)V"⟩, 1) := ⟨⟨by decide +kernel, by decide +kernel⟩, List.mem_of_getElem? (i := 109) (by decide +kernel), List.mem_of_getElem? (i := 414) (by decide +kernel), List.mem_of_getElem? (i := 415) (by decide +kernel)⟩
theorem lw_p29 : lw_okq (⟨"SameParts$Sameness", "note", "(IIZ)V"⟩, 1) := ⟨⟨by decide +kernel, by decide +kernel⟩, List.mem_of_getElem? (i := 109) (by decide +kernel), List.mem_of_getElem? (i := 421) (by decide +kernel), List.mem_of_getElem? (i := 422) (by decide +kernel)⟩
theorem lw_p30 : lw_okq (⟨"SameParts$Parting", "together", "(II)Z"⟩, 3) := ⟨⟨by decide +kernel, by decide +kernel⟩, List.mem_of_getElem? (i := 167) (by decide +kernel), List.mem_of_getElem? (i := 427) (by decide +kernel), List.mem_of_getElem? (i := 428) (by decide +kernel)⟩
theorem lw_p31 : lw_okq (⟨"SameParts$Sameness", "alike", "(LSameParts$Town;III)Z"⟩, 1) := ⟨⟨by decide +kernel, by decide +kernel⟩, List.mem_of_getElem? (i := 109) (by decide +kernel), List.mem_of_getElem? (i := 431) (by decide +kernel), List.mem_of_getElem? (i := 432) (by decide +kernel)⟩
def lw_privs_2 : List (MethodName × Nat) := [(⟨"SameParts$Tape", "readYear", "(II)Z"⟩, 5), (⟨"SameParts$Told", "endDraft", "()V"⟩, 2), (⟨"SameParts$Told", "takeAll", "(LSameParts$Told;)V"⟩, 2), (⟨"SameParts$Told", "drop", "(I)V"⟩, 2), (⟨"SameParts", "lookAt", "(I)V"⟩, 13), (⟨"SameParts$Told", "draw", "(LSameParts$Town;I)V"⟩, 2), (⟨"SameParts$Town", "strength", "(III)I"⟩, 3), (⟨"SameParts$Town", "tiesOf", "(IIZ)I"⟩, 3), (⟨"SameParts$Town", "tied", "(III)Z"⟩, 3), (⟨"SameParts$Parting", "readNumber", "(II)Z"⟩, 3), (⟨"SameParts$Parting", "of", "(I)I"⟩, 3), (⟨"SameParts$Sameness", "firstUnlike", "(LSameParts$Town;LSameParts$Parting;I)I"⟩, 1), (⟨"SameParts$Sameness", "look", "(LSameParts$Town;LSameParts$Parting;I)V"⟩, 1), (⟨"SameParts$Sameness", "note", "(IIZ)V"⟩, 1), (⟨"SameParts$Parting", "together", "(II)Z"⟩, 3), (⟨"SameParts$Sameness", "alike", "(LSameParts$Town;III)Z"⟩, 1)]
theorem lw_r2 : ∀ q ∈ lw_privs_2, lw_okq q := List.forall_mem_cons.mpr ⟨lw_p16, List.forall_mem_cons.mpr ⟨lw_p17, List.forall_mem_cons.mpr ⟨lw_p18, List.forall_mem_cons.mpr ⟨lw_p19, List.forall_mem_cons.mpr ⟨lw_p20, List.forall_mem_cons.mpr ⟨lw_p21, List.forall_mem_cons.mpr ⟨lw_p22, List.forall_mem_cons.mpr ⟨lw_p23, List.forall_mem_cons.mpr ⟨lw_p24, List.forall_mem_cons.mpr ⟨lw_p25, List.forall_mem_cons.mpr ⟨lw_p26, List.forall_mem_cons.mpr ⟨lw_p27, List.forall_mem_cons.mpr ⟨lw_p28, List.forall_mem_cons.mpr ⟨lw_p29, List.forall_mem_cons.mpr ⟨lw_p30, List.forall_mem_cons.mpr ⟨lw_p31, fun _ h => absurd h List.not_mem_nil⟩⟩⟩⟩⟩⟩⟩⟩⟩⟩⟩⟩⟩⟩⟩⟩
theorem lw_p32 : lw_okq (⟨"SameParts$Town", "sameMark", "(II)Z"⟩, 3) := ⟨⟨by decide +kernel, by decide +kernel⟩, List.mem_of_getElem? (i := 22) (by decide +kernel), List.mem_of_getElem? (i := 435) (by decide +kernel), List.mem_of_getElem? (i := 436) (by decide +kernel)⟩
theorem lw_p33 : lw_okq (⟨"SameParts$Sameness", "sameView", "(II)Z"⟩, 1) := ⟨⟨by decide +kernel, by decide +kernel⟩, List.mem_of_getElem? (i := 109) (by decide +kernel), List.mem_of_getElem? (i := 447) (by decide +kernel), List.mem_of_getElem? (i := 448) (by decide +kernel)⟩
theorem lw_p34 : lw_okq (⟨"SameParts$Sameness", "refine", "(LSameParts$Town;LSameParts$Parting;LSameParts$Parting;I)V"⟩, 1) := ⟨⟨by decide +kernel, by decide +kernel⟩, List.mem_of_getElem? (i := 109) (by decide +kernel), List.mem_of_getElem? (i := 455) (by decide +kernel), List.mem_of_getElem? (i := 456) (by decide +kernel)⟩
theorem lw_p35 : lw_okq (⟨"SameParts$Sameness", "split", "(LSameParts$Town;LSameParts$Parting;LSameParts$Parting;I)V"⟩, 1) := ⟨⟨by decide +kernel, by decide +kernel⟩, List.mem_of_getElem? (i := 109) (by decide +kernel), List.mem_of_getElem? (i := 459) (by decide +kernel), List.mem_of_getElem? (i := 460) (by decide +kernel)⟩
theorem lw_p36 : lw_okq (⟨"SameParts$Parting", "begin", "(I)V"⟩, 3) := ⟨⟨by decide +kernel, by decide +kernel⟩, List.mem_of_getElem? (i := 167) (by decide +kernel), List.mem_of_getElem? (i := 463) (by decide +kernel), List.mem_of_getElem? (i := 464) (by decide +kernel)⟩
theorem lw_p37 : lw_okq (⟨"SameParts$Parting", "place", "(II)V"⟩, 3) := ⟨⟨by decide +kernel, by decide +kernel⟩, List.mem_of_getElem? (i := 167) (by decide +kernel), List.mem_of_getElem? (i := 467) (by decide +kernel), List.mem_of_getElem? (i := 468) (by decide +kernel)⟩
theorem lw_p38 : lw_okq (⟨"SameParts$Parting", "copy", "(LSameParts$Parting;)V"⟩, 3) := ⟨⟨by decide +kernel, by decide +kernel⟩, List.mem_of_getElem? (i := 167) (by decide +kernel), List.mem_of_getElem? (i := 471) (by decide +kernel), List.mem_of_getElem? (i := 472) (by decide +kernel)⟩
theorem lw_p39 : lw_okq (⟨"SameParts$Parting", "number", "()I"⟩, 3) := ⟨⟨by decide +kernel, by decide +kernel⟩, List.mem_of_getElem? (i := 167) (by decide +kernel), List.mem_of_getElem? (i := 475) (by decide +kernel), List.mem_of_getElem? (i := 476) (by decide +kernel)⟩
theorem lw_p40 : lw_okq (⟨"SameParts$Turns", "howMany", "(LSameParts$Town;)I"⟩, 5) := ⟨⟨by decide +kernel, by decide +kernel⟩, List.mem_of_getElem? (i := 119) (by decide +kernel), List.mem_of_getElem? (i := 483) (by decide +kernel), List.mem_of_getElem? (i := 484) (by decide +kernel)⟩
theorem lw_p41 : lw_okq (⟨"SameParts$Turns", "brings", "(LSameParts$Town;III)Z"⟩, 5) := ⟨⟨by decide +kernel, by decide +kernel⟩, List.mem_of_getElem? (i := 119) (by decide +kernel), List.mem_of_getElem? (i := 487) (by decide +kernel), List.mem_of_getElem? (i := 488) (by decide +kernel)⟩
theorem lw_p42 : lw_okq (⟨"SameParts$Turns", "begin", "()V"⟩, 5) := ⟨⟨by decide +kernel, by decide +kernel⟩, List.mem_of_getElem? (i := 119) (by decide +kernel), List.mem_of_getElem? (i := 492) (by decide +kernel), List.mem_of_getElem? (i := 493) (by decide +kernel)⟩
theorem lw_p43 : lw_okq (⟨"SameParts$Turns", "nextKeeping", "(LSameParts$Town;III)I"⟩, 5) := ⟨⟨by decide +kernel, by decide +kernel⟩, List.mem_of_getElem? (i := 119) (by decide +kernel), List.mem_of_getElem? (i := 498) (by decide +kernel), List.mem_of_getElem? (i := 499) (by decide +kernel)⟩
theorem lw_p44 : lw_okq (⟨"SameParts$Turns", "lift", "()I"⟩, 5) := ⟨⟨by decide +kernel, by decide +kernel⟩, List.mem_of_getElem? (i := 119) (by decide +kernel), List.mem_of_getElem? (i := 502) (by decide +kernel), List.mem_of_getElem? (i := 503) (by decide +kernel)⟩
theorem lw_p45 : lw_okq (⟨"SameParts$Turns", "keepsAhead", "(LSameParts$Town;I)Z"⟩, 5) := ⟨⟨by decide +kernel, by decide +kernel⟩, List.mem_of_getElem? (i := 119) (by decide +kernel), List.mem_of_getElem? (i := 510) (by decide +kernel), List.mem_of_getElem? (i := 511) (by decide +kernel)⟩
theorem lw_p46 : lw_okq (⟨"SameParts$Turns", "step", "(I)V"⟩, 5) := ⟨⟨by decide +kernel, by decide +kernel⟩, List.mem_of_getElem? (i := 119) (by decide +kernel), List.mem_of_getElem? (i := 518) (by decide +kernel), List.mem_of_getElem? (i := 519) (by decide +kernel)⟩
theorem lw_p47 : lw_okq (⟨"SameParts$Turns", "partByOrbit", "(LSameParts$Town;LSameParts$Parting;)V"⟩, 5) := ⟨⟨by decide +kernel, by decide +kernel⟩, List.mem_of_getElem? (i := 119) (by decide +kernel), List.mem_of_getElem? (i := 531) (by decide +kernel), List.mem_of_getElem? (i := 532) (by decide +kernel)⟩
def lw_privs_3 : List (MethodName × Nat) := [(⟨"SameParts$Town", "sameMark", "(II)Z"⟩, 3), (⟨"SameParts$Sameness", "sameView", "(II)Z"⟩, 1), (⟨"SameParts$Sameness", "refine", "(LSameParts$Town;LSameParts$Parting;LSameParts$Parting;I)V"⟩, 1), (⟨"SameParts$Sameness", "split", "(LSameParts$Town;LSameParts$Parting;LSameParts$Parting;I)V"⟩, 1), (⟨"SameParts$Parting", "begin", "(I)V"⟩, 3), (⟨"SameParts$Parting", "place", "(II)V"⟩, 3), (⟨"SameParts$Parting", "copy", "(LSameParts$Parting;)V"⟩, 3), (⟨"SameParts$Parting", "number", "()I"⟩, 3), (⟨"SameParts$Turns", "howMany", "(LSameParts$Town;)I"⟩, 5), (⟨"SameParts$Turns", "brings", "(LSameParts$Town;III)Z"⟩, 5), (⟨"SameParts$Turns", "begin", "()V"⟩, 5), (⟨"SameParts$Turns", "nextKeeping", "(LSameParts$Town;III)I"⟩, 5), (⟨"SameParts$Turns", "lift", "()I"⟩, 5), (⟨"SameParts$Turns", "keepsAhead", "(LSameParts$Town;I)Z"⟩, 5), (⟨"SameParts$Turns", "step", "(I)V"⟩, 5), (⟨"SameParts$Turns", "partByOrbit", "(LSameParts$Town;LSameParts$Parting;)V"⟩, 5)]
theorem lw_r3 : ∀ q ∈ lw_privs_3, lw_okq q := List.forall_mem_cons.mpr ⟨lw_p32, List.forall_mem_cons.mpr ⟨lw_p33, List.forall_mem_cons.mpr ⟨lw_p34, List.forall_mem_cons.mpr ⟨lw_p35, List.forall_mem_cons.mpr ⟨lw_p36, List.forall_mem_cons.mpr ⟨lw_p37, List.forall_mem_cons.mpr ⟨lw_p38, List.forall_mem_cons.mpr ⟨lw_p39, List.forall_mem_cons.mpr ⟨lw_p40, List.forall_mem_cons.mpr ⟨lw_p41, List.forall_mem_cons.mpr ⟨lw_p42, List.forall_mem_cons.mpr ⟨lw_p43, List.forall_mem_cons.mpr ⟨lw_p44, List.forall_mem_cons.mpr ⟨lw_p45, List.forall_mem_cons.mpr ⟨lw_p46, List.forall_mem_cons.mpr ⟨lw_p47, fun _ h => absurd h List.not_mem_nil⟩⟩⟩⟩⟩⟩⟩⟩⟩⟩⟩⟩⟩⟩⟩⟩
theorem lw_p48 : lw_okq (⟨"SameParts$Turns", "leastRow", "(LSameParts$Town;)I"⟩, 5) := ⟨⟨by decide +kernel, by decide +kernel⟩, List.mem_of_getElem? (i := 119) (by decide +kernel), List.mem_of_getElem? (i := 541) (by decide +kernel), List.mem_of_getElem? (i := 542) (by decide +kernel)⟩
theorem lw_p49 : lw_okq (⟨"SameParts$Turns", "findTwins", "(LSameParts$Town;)V"⟩, 5) := ⟨⟨by decide +kernel, by decide +kernel⟩, List.mem_of_getElem? (i := 119) (by decide +kernel), List.mem_of_getElem? (i := 545) (by decide +kernel), List.mem_of_getElem? (i := 546) (by decide +kernel)⟩
theorem lw_p50 : lw_okq (⟨"SameParts$Town", "tiesOfKind", "(I)I"⟩, 3) := ⟨⟨by decide +kernel, by decide +kernel⟩, List.mem_of_getElem? (i := 22) (by decide +kernel), List.mem_of_getElem? (i := 553) (by decide +kernel), List.mem_of_getElem? (i := 554) (by decide +kernel)⟩
theorem lw_p51 : lw_okq (⟨"SameParts$Turns", "nextInRow", "(LSameParts$Town;IZ)I"⟩, 5) := ⟨⟨by decide +kernel, by decide +kernel⟩, List.mem_of_getElem? (i := 119) (by decide +kernel), List.mem_of_getElem? (i := 558) (by decide +kernel), List.mem_of_getElem? (i := 559) (by decide +kernel)⟩
theorem lw_p52 : lw_okq (⟨"SameParts$Turns", "hasLeastMark", "(LSameParts$Town;I)Z"⟩, 5) := ⟨⟨by decide +kernel, by decide +kernel⟩, List.mem_of_getElem? (i := 119) (by decide +kernel), List.mem_of_getElem? (i := 562) (by decide +kernel), List.mem_of_getElem? (i := 563) (by decide +kernel)⟩
theorem lw_p53 : lw_okq (⟨"SameParts$Turns", "behindBest", "(LSameParts$Town;II)Z"⟩, 5) := ⟨⟨by decide +kernel, by decide +kernel⟩, List.mem_of_getElem? (i := 119) (by decide +kernel), List.mem_of_getElem? (i := 566) (by decide +kernel), List.mem_of_getElem? (i := 567) (by decide +kernel)⟩
theorem lw_p54 : lw_okq (⟨"SameParts$Turns", "lessThanBest", "(LSameParts$Town;I)Z"⟩, 5) := ⟨⟨by decide +kernel, by decide +kernel⟩, List.mem_of_getElem? (i := 119) (by decide +kernel), List.mem_of_getElem? (i := 570) (by decide +kernel), List.mem_of_getElem? (i := 571) (by decide +kernel)⟩
theorem lw_p55 : lw_okq (⟨"SameParts$Turns", "keepBest", "(LSameParts$Town;)V"⟩, 5) := ⟨⟨by decide +kernel, by decide +kernel⟩, List.mem_of_getElem? (i := 119) (by decide +kernel), List.mem_of_getElem? (i := 574) (by decide +kernel), List.mem_of_getElem? (i := 575) (by decide +kernel)⟩
theorem lw_p56 : lw_okq (⟨"SameParts$Turns", "bestAsNumber", "(LSameParts$Town;)I"⟩, 5) := ⟨⟨by decide +kernel, by decide +kernel⟩, List.mem_of_getElem? (i := 119) (by decide +kernel), List.mem_of_getElem? (i := 578) (by decide +kernel), List.mem_of_getElem? (i := 579) (by decide +kernel)⟩
theorem lw_p57 : lw_okq (⟨"SameParts$Parting", "allInOne", "(I)V"⟩, 3) := ⟨⟨by decide +kernel, by decide +kernel⟩, List.mem_of_getElem? (i := 167) (by decide +kernel), List.mem_of_getElem? (i := 591) (by decide +kernel), List.mem_of_getElem? (i := 592) (by decide +kernel)⟩
theorem lw_p58 : lw_okq (⟨"SameParts$Parting", "forward", "()Z"⟩, 3) := ⟨⟨by decide +kernel, by decide +kernel⟩, List.mem_of_getElem? (i := 167) (by decide +kernel), List.mem_of_getElem? (i := 596) (by decide +kernel), List.mem_of_getElem? (i := 597) (by decide +kernel)⟩
theorem lw_p59 : lw_okq (⟨"SameParts$Parting", "topAhead", "(I)I"⟩, 3) := ⟨⟨by decide +kernel, by decide +kernel⟩, List.mem_of_getElem? (i := 167) (by decide +kernel), List.mem_of_getElem? (i := 600) (by decide +kernel), List.mem_of_getElem? (i := 601) (by decide +kernel)⟩
theorem lw_p60 : lw_okq (⟨"SameParts$Parting", "mergeBy", "(LSameParts$Parting;)V"⟩, 3) := ⟨⟨by decide +kernel, by decide +kernel⟩, List.mem_of_getElem? (i := 167) (by decide +kernel), List.mem_of_getElem? (i := 615) (by decide +kernel), List.mem_of_getElem? (i := 616) (by decide +kernel)⟩
theorem lw_p61 : lw_okq (⟨"SameParts$Parting", "rename", "(II)V"⟩, 3) := ⟨⟨by decide +kernel, by decide +kernel⟩, List.mem_of_getElem? (i := 167) (by decide +kernel), List.mem_of_getElem? (i := 620) (by decide +kernel), List.mem_of_getElem? (i := 621) (by decide +kernel)⟩
theorem lw_p62 : lw_okq (⟨"SameParts$Parting", "copyRenumbered", "(LSameParts$Parting;)V"⟩, 3) := ⟨⟨by decide +kernel, by decide +kernel⟩, List.mem_of_getElem? (i := 167) (by decide +kernel), List.mem_of_getElem? (i := 624) (by decide +kernel), List.mem_of_getElem? (i := 625) (by decide +kernel)⟩
theorem lw_p63 : lw_okq (⟨"SameParts$Parting", "cross", "(LSameParts$Parting;LSameParts$Parting;)V"⟩, 3) := ⟨⟨by decide +kernel, by decide +kernel⟩, List.mem_of_getElem? (i := 167) (by decide +kernel), List.mem_of_getElem? (i := 628) (by decide +kernel), List.mem_of_getElem? (i := 629) (by decide +kernel)⟩
def lw_privs_4 : List (MethodName × Nat) := [(⟨"SameParts$Turns", "leastRow", "(LSameParts$Town;)I"⟩, 5), (⟨"SameParts$Turns", "findTwins", "(LSameParts$Town;)V"⟩, 5), (⟨"SameParts$Town", "tiesOfKind", "(I)I"⟩, 3), (⟨"SameParts$Turns", "nextInRow", "(LSameParts$Town;IZ)I"⟩, 5), (⟨"SameParts$Turns", "hasLeastMark", "(LSameParts$Town;I)Z"⟩, 5), (⟨"SameParts$Turns", "behindBest", "(LSameParts$Town;II)Z"⟩, 5), (⟨"SameParts$Turns", "lessThanBest", "(LSameParts$Town;I)Z"⟩, 5), (⟨"SameParts$Turns", "keepBest", "(LSameParts$Town;)V"⟩, 5), (⟨"SameParts$Turns", "bestAsNumber", "(LSameParts$Town;)I"⟩, 5), (⟨"SameParts$Parting", "allInOne", "(I)V"⟩, 3), (⟨"SameParts$Parting", "forward", "()Z"⟩, 3), (⟨"SameParts$Parting", "topAhead", "(I)I"⟩, 3), (⟨"SameParts$Parting", "mergeBy", "(LSameParts$Parting;)V"⟩, 3), (⟨"SameParts$Parting", "rename", "(II)V"⟩, 3), (⟨"SameParts$Parting", "copyRenumbered", "(LSameParts$Parting;)V"⟩, 3), (⟨"SameParts$Parting", "cross", "(LSameParts$Parting;LSameParts$Parting;)V"⟩, 3)]
theorem lw_r4 : ∀ q ∈ lw_privs_4, lw_okq q := List.forall_mem_cons.mpr ⟨lw_p48, List.forall_mem_cons.mpr ⟨lw_p49, List.forall_mem_cons.mpr ⟨lw_p50, List.forall_mem_cons.mpr ⟨lw_p51, List.forall_mem_cons.mpr ⟨lw_p52, List.forall_mem_cons.mpr ⟨lw_p53, List.forall_mem_cons.mpr ⟨lw_p54, List.forall_mem_cons.mpr ⟨lw_p55, List.forall_mem_cons.mpr ⟨lw_p56, List.forall_mem_cons.mpr ⟨lw_p57, List.forall_mem_cons.mpr ⟨lw_p58, List.forall_mem_cons.mpr ⟨lw_p59, List.forall_mem_cons.mpr ⟨lw_p60, List.forall_mem_cons.mpr ⟨lw_p61, List.forall_mem_cons.mpr ⟨lw_p62, List.forall_mem_cons.mpr ⟨lw_p63, fun _ h => absurd h List.not_mem_nil⟩⟩⟩⟩⟩⟩⟩⟩⟩⟩⟩⟩⟩⟩⟩⟩
theorem lw_p64 : lw_okq (⟨"SameParts$Parting", "has", "(I)Z"⟩, 3) := ⟨⟨by decide +kernel, by decide +kernel⟩, List.mem_of_getElem? (i := 167) (by decide +kernel), List.mem_of_getElem? (i := 643) (by decide +kernel), List.mem_of_getElem? (i := 644) (by decide +kernel)⟩
theorem lw_p65 : lw_okq (⟨"SameParts$Blocks", "image", "(LSameParts$Town;LSameParts$Parting;III)I"⟩, 2) := ⟨⟨by decide +kernel, by decide +kernel⟩, List.mem_of_getElem? (i := 141) (by decide +kernel), List.mem_of_getElem? (i := 647) (by decide +kernel), List.mem_of_getElem? (i := 648) (by decide +kernel)⟩
theorem lw_p66 : lw_okq (⟨"SameParts$Parting", "sizeOf", "(I)I"⟩, 3) := ⟨⟨by decide +kernel, by decide +kernel⟩, List.mem_of_getElem? (i := 167) (by decide +kernel), List.mem_of_getElem? (i := 651) (by decide +kernel), List.mem_of_getElem? (i := 652) (by decide +kernel)⟩
theorem lw_p67 : lw_okq (⟨"SameParts$Blocks", "tiesTo", "(LSameParts$Town;LSameParts$Parting;III)I"⟩, 2) := ⟨⟨by decide +kernel, by decide +kernel⟩, List.mem_of_getElem? (i := 141) (by decide +kernel), List.mem_of_getElem? (i := 656) (by decide +kernel), List.mem_of_getElem? (i := 657) (by decide +kernel)⟩
theorem lw_p68 : lw_okq (⟨"SameParts$Blocks", "misfits", "(LSameParts$Town;LSameParts$Parting;)I"⟩, 2) := ⟨⟨by decide +kernel, by decide +kernel⟩, List.mem_of_getElem? (i := 141) (by decide +kernel), List.mem_of_getElem? (i := 669) (by decide +kernel), List.mem_of_getElem? (i := 670) (by decide +kernel)⟩
theorem lw_p69 : lw_okq (⟨"SameParts$Blocks", "tallyTies", "(LSameParts$Town;LSameParts$Parting;)V"⟩, 2) := ⟨⟨by decide +kernel, by decide +kernel⟩, List.mem_of_getElem? (i := 141) (by decide +kernel), List.mem_of_getElem? (i := 673) (by decide +kernel), List.mem_of_getElem? (i := 674) (by decide +kernel)⟩
theorem lw_p70 : lw_okq (⟨"SameParts$Blocks", "misfit", "(IIII)I"⟩, 2) := ⟨⟨by decide +kernel, by decide +kernel⟩, List.mem_of_getElem? (i := 141) (by decide +kernel), List.mem_of_getElem? (i := 680) (by decide +kernel), List.mem_of_getElem? (i := 681) (by decide +kernel)⟩
theorem lw_p71 : lw_okq (⟨"SameParts$Blocks", "bestWith", "(LSameParts$Town;LSameParts$Parting;II)I"⟩, 2) := ⟨⟨by decide +kernel, by decide +kernel⟩, List.mem_of_getElem? (i := 141) (by decide +kernel), List.mem_of_getElem? (i := 689) (by decide +kernel), List.mem_of_getElem? (i := 690) (by decide +kernel)⟩
theorem lw_p72 : lw_okq (⟨"SameParts$Blocks", "worstTie", "(LSameParts$Town;LSameParts$Parting;Z)I"⟩, 2) := ⟨⟨by decide +kernel, by decide +kernel⟩, List.mem_of_getElem? (i := 141) (by decide +kernel), List.mem_of_getElem? (i := 702) (by decide +kernel), List.mem_of_getElem? (i := 703) (by decide +kernel)⟩
theorem lw_p73 : lw_okq (⟨"SameParts$Blocks", "gainOf", "(LSameParts$Town;LSameParts$Parting;III)I"⟩, 2) := ⟨⟨by decide +kernel, by decide +kernel⟩, List.mem_of_getElem? (i := 141) (by decide +kernel), List.mem_of_getElem? (i := 706) (by decide +kernel), List.mem_of_getElem? (i := 707) (by decide +kernel)⟩
theorem lw_p74 : lw_okq (⟨"SameParts$Newcomer", "append", "(IIZ)V"⟩, 4) := ⟨⟨by decide +kernel, by decide +kernel⟩, List.mem_of_getElem? (i := 89) (by decide +kernel), List.mem_of_getElem? (i := 714) (by decide +kernel), List.mem_of_getElem? (i := 715) (by decide +kernel)⟩
theorem lw_p75 : lw_okq (⟨"SameParts$Newcomer", "suitingParts", "(LSameParts$Town;LSameParts$Parting;)I"⟩, 4) := ⟨⟨by decide +kernel, by decide +kernel⟩, List.mem_of_getElem? (i := 89) (by decide +kernel), List.mem_of_getElem? (i := 723) (by decide +kernel), List.mem_of_getElem? (i := 724) (by decide +kernel)⟩
theorem lw_p76 : lw_okq (⟨"SameParts$Newcomer", "hasSuchTie", "(LSameParts$Town;LSameParts$Parting;II)Z"⟩, 4) := ⟨⟨by decide +kernel, by decide +kernel⟩, List.mem_of_getElem? (i := 89) (by decide +kernel), List.mem_of_getElem? (i := 727) (by decide +kernel), List.mem_of_getElem? (i := 728) (by decide +kernel)⟩
theorem lw_p77 : lw_okq (⟨"SameParts", "partOfYear", "(IILSameParts$Parting;)V"⟩, 13) := ⟨⟨by decide +kernel, by decide +kernel⟩, List.mem_of_getElem? (i := 14) (by decide +kernel), List.mem_of_getElem? (i := 742) (by decide +kernel), List.mem_of_getElem? (i := 743) (by decide +kernel)⟩
theorem lw_p78 : lw_okq (⟨"SameParts$Matching", "keepers", "(LSameParts$Parting;LSameParts$Parting;)I"⟩, 2) := ⟨⟨by decide +kernel, by decide +kernel⟩, List.mem_of_getElem? (i := 154) (by decide +kernel), List.mem_of_getElem? (i := 746) (by decide +kernel), List.mem_of_getElem? (i := 747) (by decide +kernel)⟩
theorem lw_p79 : lw_okq (⟨"SameParts$Matching", "bestFor", "(III)I"⟩, 2) := ⟨⟨by decide +kernel, by decide +kernel⟩, List.mem_of_getElem? (i := 154) (by decide +kernel), List.mem_of_getElem? (i := 753) (by decide +kernel), List.mem_of_getElem? (i := 754) (by decide +kernel)⟩
def lw_privs_5 : List (MethodName × Nat) := [(⟨"SameParts$Parting", "has", "(I)Z"⟩, 3), (⟨"SameParts$Blocks", "image", "(LSameParts$Town;LSameParts$Parting;III)I"⟩, 2), (⟨"SameParts$Parting", "sizeOf", "(I)I"⟩, 3), (⟨"SameParts$Blocks", "tiesTo", "(LSameParts$Town;LSameParts$Parting;III)I"⟩, 2), (⟨"SameParts$Blocks", "misfits", "(LSameParts$Town;LSameParts$Parting;)I"⟩, 2), (⟨"SameParts$Blocks", "tallyTies", "(LSameParts$Town;LSameParts$Parting;)V"⟩, 2), (⟨"SameParts$Blocks", "misfit", "(IIII)I"⟩, 2), (⟨"SameParts$Blocks", "bestWith", "(LSameParts$Town;LSameParts$Parting;II)I"⟩, 2), (⟨"SameParts$Blocks", "worstTie", "(LSameParts$Town;LSameParts$Parting;Z)I"⟩, 2), (⟨"SameParts$Blocks", "gainOf", "(LSameParts$Town;LSameParts$Parting;III)I"⟩, 2), (⟨"SameParts$Newcomer", "append", "(IIZ)V"⟩, 4), (⟨"SameParts$Newcomer", "suitingParts", "(LSameParts$Town;LSameParts$Parting;)I"⟩, 4), (⟨"SameParts$Newcomer", "hasSuchTie", "(LSameParts$Town;LSameParts$Parting;II)Z"⟩, 4), (⟨"SameParts", "partOfYear", "(IILSameParts$Parting;)V"⟩, 13), (⟨"SameParts$Matching", "keepers", "(LSameParts$Parting;LSameParts$Parting;)I"⟩, 2), (⟨"SameParts$Matching", "bestFor", "(III)I"⟩, 2)]
theorem lw_r5 : ∀ q ∈ lw_privs_5, lw_okq q := List.forall_mem_cons.mpr ⟨lw_p64, List.forall_mem_cons.mpr ⟨lw_p65, List.forall_mem_cons.mpr ⟨lw_p66, List.forall_mem_cons.mpr ⟨lw_p67, List.forall_mem_cons.mpr ⟨lw_p68, List.forall_mem_cons.mpr ⟨lw_p69, List.forall_mem_cons.mpr ⟨lw_p70, List.forall_mem_cons.mpr ⟨lw_p71, List.forall_mem_cons.mpr ⟨lw_p72, List.forall_mem_cons.mpr ⟨lw_p73, List.forall_mem_cons.mpr ⟨lw_p74, List.forall_mem_cons.mpr ⟨lw_p75, List.forall_mem_cons.mpr ⟨lw_p76, List.forall_mem_cons.mpr ⟨lw_p77, List.forall_mem_cons.mpr ⟨lw_p78, List.forall_mem_cons.mpr ⟨lw_p79, fun _ h => absurd h List.not_mem_nil⟩⟩⟩⟩⟩⟩⟩⟩⟩⟩⟩⟩⟩⟩⟩⟩
theorem lw_p80 : lw_okq (⟨"SameParts$Told", "nextChange", "(I)I"⟩, 2) := ⟨⟨by decide +kernel, by decide +kernel⟩, List.mem_of_getElem? (i := 47) (by decide +kernel), List.mem_of_getElem? (i := 765) (by decide +kernel), List.mem_of_getElem? (i := 766) (by decide +kernel)⟩
theorem lw_p81 : lw_okq (⟨"SameParts$Town", "tiesInAll", "()I"⟩, 3) := ⟨⟨by decide +kernel, by decide +kernel⟩, List.mem_of_getElem? (i := 22) (by decide +kernel), List.mem_of_getElem? (i := 774) (by decide +kernel), List.mem_of_getElem? (i := 775) (by decide +kernel)⟩
theorem lw_p82 : lw_okq (⟨"SamePartsModel", "no", "(I)I"⟩, 34) := ⟨⟨by decide +kernel, by decide +kernel⟩, List.mem_of_getElem? (i := 779) (by decide +kernel), List.mem_of_getElem? (i := 897) (by decide +kernel), List.mem_of_getElem? (i := 898) (by decide +kernel)⟩
theorem lw_p83 : lw_okq (⟨"SamePartsModel", "isPerson", "(I)Z"⟩, 34) := ⟨⟨by decide +kernel, by decide +kernel⟩, List.mem_of_getElem? (i := 779) (by decide +kernel), List.mem_of_getElem? (i := 905) (by decide +kernel), List.mem_of_getElem? (i := 906) (by decide +kernel)⟩
theorem lw_p84 : lw_okq (⟨"SamePartsModel", "reads", "()Z"⟩, 34) := ⟨⟨by decide +kernel, by decide +kernel⟩, List.mem_of_getElem? (i := 779) (by decide +kernel), List.mem_of_getElem? (i := 925) (by decide +kernel), List.mem_of_getElem? (i := 926) (by decide +kernel)⟩
theorem lw_p85 : lw_okq (⟨"SamePartsModel", "oneTie", "()Z"⟩, 34) := ⟨⟨by decide +kernel, by decide +kernel⟩, List.mem_of_getElem? (i := 779) (by decide +kernel), List.mem_of_getElem? (i := 929) (by decide +kernel), List.mem_of_getElem? (i := 930) (by decide +kernel)⟩
theorem lw_p86 : lw_okq (⟨"SamePartsModel", "takesIn", "(III)I"⟩, 34) := ⟨⟨by decide +kernel, by decide +kernel⟩, List.mem_of_getElem? (i := 779) (by decide +kernel), List.mem_of_getElem? (i := 933) (by decide +kernel), List.mem_of_getElem? (i := 934) (by decide +kernel)⟩
theorem lw_p87 : lw_okq (⟨"SamePartsModel", "sign", "()I"⟩, 34) := ⟨⟨by decide +kernel, by decide +kernel⟩, List.mem_of_getElem? (i := 779) (by decide +kernel), List.mem_of_getElem? (i := 937) (by decide +kernel), List.mem_of_getElem? (i := 938) (by decide +kernel)⟩
theorem lw_p88 : lw_okq (⟨"SamePartsModel", "takes", "(I)Z"⟩, 34) := ⟨⟨by decide +kernel, by decide +kernel⟩, List.mem_of_getElem? (i := 779) (by decide +kernel), List.mem_of_getElem? (i := 944) (by decide +kernel), List.mem_of_getElem? (i := 945) (by decide +kernel)⟩
theorem lw_p89 : lw_okq (⟨"SamePartsModel", "years", "(I)I"⟩, 34) := ⟨⟨by decide +kernel, by decide +kernel⟩, List.mem_of_getElem? (i := 779) (by decide +kernel), List.mem_of_getElem? (i := 948) (by decide +kernel), List.mem_of_getElem? (i := 949) (by decide +kernel)⟩
theorem lw_p90 : lw_okq (⟨"SamePartsModel", "findTies", "(I)V"⟩, 34) := ⟨⟨by decide +kernel, by decide +kernel⟩, List.mem_of_getElem? (i := 779) (by decide +kernel), List.mem_of_getElem? (i := 965) (by decide +kernel), List.mem_of_getElem? (i := 966) (by decide +kernel)⟩
theorem lw_p91 : lw_okq (⟨"SamePartsModel", "strong", "(III)I"⟩, 34) := ⟨⟨by decide +kernel, by decide +kernel⟩, List.mem_of_getElem? (i := 779) (by decide +kernel), List.mem_of_getElem? (i := 969) (by decide +kernel), List.mem_of_getElem? (i := 970) (by decide +kernel)⟩
theorem lw_p92 : lw_okq (⟨"SamePartsModel", "has", "(III)Z"⟩, 34) := ⟨⟨by decide +kernel, by decide +kernel⟩, List.mem_of_getElem? (i := 779) (by decide +kernel), List.mem_of_getElem? (i := 977) (by decide +kernel), List.mem_of_getElem? (i := 978) (by decide +kernel)⟩
theorem lw_p93 : lw_okq (⟨"SamePartsModel", "opens", "(I[I)I"⟩, 34) := ⟨⟨by decide +kernel, by decide +kernel⟩, List.mem_of_getElem? (i := 779) (by decide +kernel), List.mem_of_getElem? (i := 985) (by decide +kernel), List.mem_of_getElem? (i := 986) (by decide +kernel)⟩
theorem lw_p94 : lw_okq (⟨"SamePartsModel", "judged", "(I)I"⟩, 34) := ⟨⟨by decide +kernel, by decide +kernel⟩, List.mem_of_getElem? (i := 779) (by decide +kernel), List.mem_of_getElem? (i := 996) (by decide +kernel), List.mem_of_getElem? (i := 997) (by decide +kernel)⟩
theorem lw_p95 : lw_okq (⟨"SamePartsModel", "areSo", "(III)Z"⟩, 34) := ⟨⟨by decide +kernel, by decide +kernel⟩, List.mem_of_getElem? (i := 779) (by decide +kernel), List.mem_of_getElem? (i := 1000) (by decide +kernel), List.mem_of_getElem? (i := 1001) (by decide +kernel)⟩
def lw_privs_6 : List (MethodName × Nat) := [(⟨"SameParts$Told", "nextChange", "(I)I"⟩, 2), (⟨"SameParts$Town", "tiesInAll", "()I"⟩, 3), (⟨"SamePartsModel", "no", "(I)I"⟩, 34), (⟨"SamePartsModel", "isPerson", "(I)Z"⟩, 34), (⟨"SamePartsModel", "reads", "()Z"⟩, 34), (⟨"SamePartsModel", "oneTie", "()Z"⟩, 34), (⟨"SamePartsModel", "takesIn", "(III)I"⟩, 34), (⟨"SamePartsModel", "sign", "()I"⟩, 34), (⟨"SamePartsModel", "takes", "(I)Z"⟩, 34), (⟨"SamePartsModel", "years", "(I)I"⟩, 34), (⟨"SamePartsModel", "findTies", "(I)V"⟩, 34), (⟨"SamePartsModel", "strong", "(III)I"⟩, 34), (⟨"SamePartsModel", "has", "(III)Z"⟩, 34), (⟨"SamePartsModel", "opens", "(I[I)I"⟩, 34), (⟨"SamePartsModel", "judged", "(I)I"⟩, 34), (⟨"SamePartsModel", "areSo", "(III)Z"⟩, 34)]
theorem lw_r6 : ∀ q ∈ lw_privs_6, lw_okq q := List.forall_mem_cons.mpr ⟨lw_p80, List.forall_mem_cons.mpr ⟨lw_p81, List.forall_mem_cons.mpr ⟨lw_p82, List.forall_mem_cons.mpr ⟨lw_p83, List.forall_mem_cons.mpr ⟨lw_p84, List.forall_mem_cons.mpr ⟨lw_p85, List.forall_mem_cons.mpr ⟨lw_p86, List.forall_mem_cons.mpr ⟨lw_p87, List.forall_mem_cons.mpr ⟨lw_p88, List.forall_mem_cons.mpr ⟨lw_p89, List.forall_mem_cons.mpr ⟨lw_p90, List.forall_mem_cons.mpr ⟨lw_p91, List.forall_mem_cons.mpr ⟨lw_p92, List.forall_mem_cons.mpr ⟨lw_p93, List.forall_mem_cons.mpr ⟨lw_p94, List.forall_mem_cons.mpr ⟨lw_p95, fun _ h => absurd h List.not_mem_nil⟩⟩⟩⟩⟩⟩⟩⟩⟩⟩⟩⟩⟩⟩⟩⟩
theorem lw_p96 : lw_okq (⟨"SamePartsModel", "areTied", "(IIZ)Z"⟩, 34) := ⟨⟨by decide +kernel, by decide +kernel⟩, List.mem_of_getElem? (i := 779) (by decide +kernel), List.mem_of_getElem? (i := 1004) (by decide +kernel), List.mem_of_getElem? (i := 1005) (by decide +kernel)⟩
theorem lw_p97 : lw_okq (⟨"SamePartsModel", "areLed", "(IIZ)Z"⟩, 34) := ⟨⟨by decide +kernel, by decide +kernel⟩, List.mem_of_getElem? (i := 779) (by decide +kernel), List.mem_of_getElem? (i := 1011) (by decide +kernel), List.mem_of_getElem? (i := 1012) (by decide +kernel)⟩
theorem lw_p98 : lw_okq (⟨"SamePartsModel", "led", "(IIIZ)I"⟩, 34) := ⟨⟨by decide +kernel, by decide +kernel⟩, List.mem_of_getElem? (i := 779) (by decide +kernel), List.mem_of_getElem? (i := 1015) (by decide +kernel), List.mem_of_getElem? (i := 1016) (by decide +kernel)⟩
theorem lw_p99 : lw_okq (⟨"SamePartsModel", "splits", "(I)I"⟩, 34) := ⟨⟨by decide +kernel, by decide +kernel⟩, List.mem_of_getElem? (i := 779) (by decide +kernel), List.mem_of_getElem? (i := 1023) (by decide +kernel), List.mem_of_getElem? (i := 1024) (by decide +kernel)⟩
theorem lw_p100 : lw_okq (⟨"SamePartsModel", "number", "([I)I"⟩, 34) := ⟨⟨by decide +kernel, by decide +kernel⟩, List.mem_of_getElem? (i := 779) (by decide +kernel), List.mem_of_getElem? (i := 1027) (by decide +kernel), List.mem_of_getElem? (i := 1028) (by decide +kernel)⟩
theorem lw_p101 : lw_okq (⟨"SamePartsModel", "findTurns", "()I"⟩, 34) := ⟨⟨by decide +kernel, by decide +kernel⟩, List.mem_of_getElem? (i := 779) (by decide +kernel), List.mem_of_getElem? (i := 1035) (by decide +kernel), List.mem_of_getElem? (i := 1036) (by decide +kernel)⟩
theorem lw_p102 : lw_okq (⟨"SamePartsModel", "firstNames", "()V"⟩, 34) := ⟨⟨by decide +kernel, by decide +kernel⟩, List.mem_of_getElem? (i := 779) (by decide +kernel), List.mem_of_getElem? (i := 1039) (by decide +kernel), List.mem_of_getElem? (i := 1040) (by decide +kernel)⟩
theorem lw_p103 : lw_okq (⟨"SamePartsModel", "isTurn", "()Z"⟩, 34) := ⟨⟨by decide +kernel, by decide +kernel⟩, List.mem_of_getElem? (i := 779) (by decide +kernel), List.mem_of_getElem? (i := 1043) (by decide +kernel), List.mem_of_getElem? (i := 1044) (by decide +kernel)⟩
theorem lw_p104 : lw_okq (⟨"SamePartsModel", "nextNames", "(I)Z"⟩, 34) := ⟨⟨by decide +kernel, by decide +kernel⟩, List.mem_of_getElem? (i := 779) (by decide +kernel), List.mem_of_getElem? (i := 1047) (by decide +kernel), List.mem_of_getElem? (i := 1048) (by decide +kernel)⟩
theorem lw_p105 : lw_okq (⟨"SamePartsModel", "firstParting", "()V"⟩, 34) := ⟨⟨by decide +kernel, by decide +kernel⟩, List.mem_of_getElem? (i := 779) (by decide +kernel), List.mem_of_getElem? (i := 1069) (by decide +kernel), List.mem_of_getElem? (i := 1070) (by decide +kernel)⟩
theorem lw_p106 : lw_okq (⟨"SamePartsModel", "nextParting", "()Z"⟩, 34) := ⟨⟨by decide +kernel, by decide +kernel⟩, List.mem_of_getElem? (i := 779) (by decide +kernel), List.mem_of_getElem? (i := 1073) (by decide +kernel), List.mem_of_getElem? (i := 1074) (by decide +kernel)⟩
theorem lw_p107 : lw_okq (⟨"SamePartsModel", "wrongOf", "()I"⟩, 34) := ⟨⟨by decide +kernel, by decide +kernel⟩, List.mem_of_getElem? (i := 779) (by decide +kernel), List.mem_of_getElem? (i := 1097) (by decide +kernel), List.mem_of_getElem? (i := 1098) (by decide +kernel)⟩
theorem lw_p108 : lw_okq (⟨"SamePartsModel", "parts", "()I"⟩, 34) := ⟨⟨by decide +kernel, by decide +kernel⟩, List.mem_of_getElem? (i := 779) (by decide +kernel), List.mem_of_getElem? (i := 1106) (by decide +kernel), List.mem_of_getElem? (i := 1107) (by decide +kernel)⟩
theorem lw_p109 : lw_okq (⟨"SamePartsModel", "less", "(I)I"⟩, 34) := ⟨⟨by decide +kernel, by decide +kernel⟩, List.mem_of_getElem? (i := 779) (by decide +kernel), List.mem_of_getElem? (i := 1114) (by decide +kernel), List.mem_of_getElem? (i := 1115) (by decide +kernel)⟩
theorem lw_p110 : lw_okq (⟨"SamePartsModel", "isFit", "(II)Z"⟩, 34) := ⟨⟨by decide +kernel, by decide +kernel⟩, List.mem_of_getElem? (i := 779) (by decide +kernel), List.mem_of_getElem? (i := 1127) (by decide +kernel), List.mem_of_getElem? (i := 1128) (by decide +kernel)⟩
theorem lw_p111 : lw_okq (⟨"SamePartsModel", "coarsestOn", "(II)I"⟩, 34) := ⟨⟨by decide +kernel, by decide +kernel⟩, List.mem_of_getElem? (i := 779) (by decide +kernel), List.mem_of_getElem? (i := 1139) (by decide +kernel), List.mem_of_getElem? (i := 1140) (by decide +kernel)⟩
def lw_privs_7 : List (MethodName × Nat) := [(⟨"SamePartsModel", "areTied", "(IIZ)Z"⟩, 34), (⟨"SamePartsModel", "areLed", "(IIZ)Z"⟩, 34), (⟨"SamePartsModel", "led", "(IIIZ)I"⟩, 34), (⟨"SamePartsModel", "splits", "(I)I"⟩, 34), (⟨"SamePartsModel", "number", "([I)I"⟩, 34), (⟨"SamePartsModel", "findTurns", "()I"⟩, 34), (⟨"SamePartsModel", "firstNames", "()V"⟩, 34), (⟨"SamePartsModel", "isTurn", "()Z"⟩, 34), (⟨"SamePartsModel", "nextNames", "(I)Z"⟩, 34), (⟨"SamePartsModel", "firstParting", "()V"⟩, 34), (⟨"SamePartsModel", "nextParting", "()Z"⟩, 34), (⟨"SamePartsModel", "wrongOf", "()I"⟩, 34), (⟨"SamePartsModel", "parts", "()I"⟩, 34), (⟨"SamePartsModel", "less", "(I)I"⟩, 34), (⟨"SamePartsModel", "isFit", "(II)Z"⟩, 34), (⟨"SamePartsModel", "coarsestOn", "(II)I"⟩, 34)]
theorem lw_r7 : ∀ q ∈ lw_privs_7, lw_okq q := List.forall_mem_cons.mpr ⟨lw_p96, List.forall_mem_cons.mpr ⟨lw_p97, List.forall_mem_cons.mpr ⟨lw_p98, List.forall_mem_cons.mpr ⟨lw_p99, List.forall_mem_cons.mpr ⟨lw_p100, List.forall_mem_cons.mpr ⟨lw_p101, List.forall_mem_cons.mpr ⟨lw_p102, List.forall_mem_cons.mpr ⟨lw_p103, List.forall_mem_cons.mpr ⟨lw_p104, List.forall_mem_cons.mpr ⟨lw_p105, List.forall_mem_cons.mpr ⟨lw_p106, List.forall_mem_cons.mpr ⟨lw_p107, List.forall_mem_cons.mpr ⟨lw_p108, List.forall_mem_cons.mpr ⟨lw_p109, List.forall_mem_cons.mpr ⟨lw_p110, List.forall_mem_cons.mpr ⟨lw_p111, fun _ h => absurd h List.not_mem_nil⟩⟩⟩⟩⟩⟩⟩⟩⟩⟩⟩⟩⟩⟩⟩⟩
def lw_privs : List (MethodName × Nat) := lw_privs_1 ++ (lw_privs_2 ++ (lw_privs_3 ++ (lw_privs_4 ++ (lw_privs_5 ++ (lw_privs_6 ++ (lw_privs_7))))))
def lw_tbl : List Cond := k2_sels lw_privs ++ tables_1
theorem lw_privs_ok : ∀ q ∈ lw_privs, lw_okq q := by
  show ∀ q ∈ lw_privs_1 ++ (lw_privs_2 ++ (lw_privs_3 ++ (lw_privs_4 ++ (lw_privs_5 ++ (lw_privs_6 ++ (lw_privs_7)))))), lw_okq q
  exact List.forall_mem_append.mpr ⟨lw_r1, List.forall_mem_append.mpr ⟨lw_r2, List.forall_mem_append.mpr ⟨lw_r3, List.forall_mem_append.mpr ⟨lw_r4, List.forall_mem_append.mpr ⟨lw_r5, List.forall_mem_append.mpr ⟨lw_r6, lw_r7⟩⟩⟩⟩⟩⟩
end
section
def RX0 : String := "SameParts$Blocks"
def TX0 : u_T := fun k => match k with
  | 0 => ("SameParts$Blocks", "tally", "[I", true)
  | _ => ("SameParts$Blocks", "sizes", "[I", true)
def tyX0 : Nat → FieldType := fun k => match k with
  | 0 => .array .int
  | _ => .array .int
abbrev wsX00 : List Cond := u_ws RX0 TX0 2
theorem nmX0 : ∀ a, a < 2 → ∀ b, b < 2 → a ≠ b → (TX0 a).2.1 ≠ (TX0 b).2.1 := by decide +kernel
theorem tyX0_ok : ∀ k, k < 2 → parseFieldDescriptor (TX0 k).2.2.1 = some (tyX0 k) := by decide +kernel
abbrev cX0_init : ByteArray := prog_2_method_1_code
def yX0_init : MethodName := ⟨RX0, "<init>", "()V"⟩
abbrev cX0_misfits : ByteArray := prog_2_method_2_code
def yX0_misfits : MethodName := ⟨RX0, "misfits", "(LSameParts$Town;LSameParts$Parting;)I"⟩
abbrev cX0_tallyTies : ByteArray := prog_2_method_3_code
def yX0_tallyTies : MethodName := ⟨RX0, "tallyTies", "(LSameParts$Town;LSameParts$Parting;)V"⟩
abbrev cX0_misfit : ByteArray := prog_2_method_4_code
def yX0_misfit : MethodName := ⟨RX0, "misfit", "(IIII)I"⟩
abbrev cX0_bestWith : ByteArray := prog_2_method_5_code
def yX0_bestWith : MethodName := ⟨RX0, "bestWith", "(LSameParts$Town;LSameParts$Parting;II)I"⟩
abbrev cX0_worstTie : ByteArray := prog_2_method_6_code
def yX0_worstTie : MethodName := ⟨RX0, "worstTie", "(LSameParts$Town;LSameParts$Parting;Z)I"⟩
abbrev cX0_gainOf : ByteArray := prog_2_method_7_code
def yX0_gainOf : MethodName := ⟨RX0, "gainOf", "(LSameParts$Town;LSameParts$Parting;III)I"⟩
abbrev cX0_image : ByteArray := prog_2_method_8_code
def yX0_image : MethodName := ⟨RX0, "image", "(LSameParts$Town;LSameParts$Parting;III)I"⟩
abbrev cX0_tiesTo : ByteArray := prog_2_method_9_code
def yX0_tiesTo : MethodName := ⟨RX0, "tiesTo", "(LSameParts$Town;LSameParts$Parting;III)I"⟩
def RX1 : String := "SameParts$Matching"
def TX1 : u_T := fun k => match k with
  | 0 => ("SameParts$Matching", "shared", "[I", true)
  | _ => ("SameParts$Matching", "most", "[I", true)
def tyX1 : Nat → FieldType := fun k => match k with
  | 0 => .array .int
  | _ => .array .int
abbrev wsX10 : List Cond := u_ws RX1 TX1 2
theorem nmX1 : ∀ a, a < 2 → ∀ b, b < 2 → a ≠ b → (TX1 a).2.1 ≠ (TX1 b).2.1 := by decide +kernel
theorem tyX1_ok : ∀ k, k < 2 → parseFieldDescriptor (TX1 k).2.2.1 = some (tyX1 k) := by decide +kernel
abbrev cX1_init : ByteArray := prog_3_method_1_code
def yX1_init : MethodName := ⟨RX1, "<init>", "()V"⟩
abbrev cX1_keepers : ByteArray := prog_3_method_2_code
def yX1_keepers : MethodName := ⟨RX1, "keepers", "(LSameParts$Parting;LSameParts$Parting;)I"⟩
abbrev cX1_bestFor : ByteArray := prog_3_method_3_code
def yX1_bestFor : MethodName := ⟨RX1, "bestFor", "(III)I"⟩
def RX2 : String := "SameParts$Newcomer"
def TX2 : u_T := fun k => match k with
  | 0 => ("SameParts$Newcomer", "kinds", "[I", true)
  | 1 => ("SameParts$Newcomer", "persons", "[I", true)
  | 2 => ("SameParts$Newcomer", "outgoing", "[I", true)
  | _ => ("SameParts$Newcomer", "size", "I", false)
def tyX2 : Nat → FieldType := fun k => match k with
  | 0 => .array .int
  | 1 => .array .int
  | 2 => .array .int
  | _ => .int
abbrev wsX20 : List Cond := u_ws RX2 TX2 4
theorem nmX2 : ∀ a, a < 4 → ∀ b, b < 4 → a ≠ b → (TX2 a).2.1 ≠ (TX2 b).2.1 := by decide +kernel
theorem tyX2_ok : ∀ k, k < 4 → parseFieldDescriptor (TX2 k).2.2.1 = some (tyX2 k) := by decide +kernel
abbrev cX2_init : ByteArray := prog_4_method_1_code
def yX2_init : MethodName := ⟨RX2, "<init>", "()V"⟩
abbrev cX2_append : ByteArray := prog_4_method_2_code
def yX2_append : MethodName := ⟨RX2, "append", "(IIZ)V"⟩
abbrev cX2_suitingParts : ByteArray := prog_4_method_3_code
def yX2_suitingParts : MethodName := ⟨RX2, "suitingParts", "(LSameParts$Town;LSameParts$Parting;)I"⟩
abbrev cX2_hasSuchTie : ByteArray := prog_4_method_4_code
def yX2_hasSuchTie : MethodName := ⟨RX2, "hasSuchTie", "(LSameParts$Town;LSameParts$Parting;II)Z"⟩
def RX3 : String := "SameParts$Parting"
def TX3 : u_T := fun k => match k with
  | 0 => ("SameParts$Parting", "part", "[I", true)
  | 1 => ("SameParts$Parting", "persons", "I", false)
  | _ => ("SameParts$Parting", "parts", "I", false)
def tyX3 : Nat → FieldType := fun k => match k with
  | 0 => .array .int
  | 1 => .int
  | _ => .int
abbrev wsX30 : List Cond := u_ws RX3 TX3 3
theorem nmX3 : ∀ a, a < 3 → ∀ b, b < 3 → a ≠ b → (TX3 a).2.1 ≠ (TX3 b).2.1 := by decide +kernel
theorem tyX3_ok : ∀ k, k < 3 → parseFieldDescriptor (TX3 k).2.2.1 = some (tyX3 k) := by decide +kernel
abbrev cX3_init : ByteArray := prog_5_method_1_code
def yX3_init : MethodName := ⟨RX3, "<init>", "()V"⟩
abbrev cX3_readNumber : ByteArray := prog_5_method_2_code
def yX3_readNumber : MethodName := ⟨RX3, "readNumber", "(II)Z"⟩
abbrev cX3_number : ByteArray := prog_5_method_3_code
def yX3_number : MethodName := ⟨RX3, "number", "()I"⟩
abbrev cX3_of : ByteArray := prog_5_method_4_code
def yX3_of : MethodName := ⟨RX3, "of", "(I)I"⟩
abbrev cX3_has : ByteArray := prog_5_method_5_code
def yX3_has : MethodName := ⟨RX3, "has", "(I)Z"⟩
abbrev cX3_together : ByteArray := prog_5_method_6_code
def yX3_together : MethodName := ⟨RX3, "together", "(II)Z"⟩
abbrev cX3_allInOne : ByteArray := prog_5_method_7_code
def yX3_allInOne : MethodName := ⟨RX3, "allInOne", "(I)V"⟩
abbrev cX3_begin : ByteArray := prog_5_method_8_code
def yX3_begin : MethodName := ⟨RX3, "begin", "(I)V"⟩
abbrev cX3_place : ByteArray := prog_5_method_9_code
def yX3_place : MethodName := ⟨RX3, "place", "(II)V"⟩
abbrev cX3_forward : ByteArray := prog_5_method_10_code
def yX3_forward : MethodName := ⟨RX3, "forward", "()Z"⟩
abbrev cX3_topAhead : ByteArray := prog_5_method_11_code
def yX3_topAhead : MethodName := ⟨RX3, "topAhead", "(I)I"⟩
abbrev cX3_copy : ByteArray := prog_5_method_12_code
def yX3_copy : MethodName := ⟨RX3, "copy", "(LSameParts$Parting;)V"⟩
abbrev cX3_mergeBy : ByteArray := prog_5_method_13_code
def yX3_mergeBy : MethodName := ⟨RX3, "mergeBy", "(LSameParts$Parting;)V"⟩
abbrev cX3_rename : ByteArray := prog_5_method_14_code
def yX3_rename : MethodName := ⟨RX3, "rename", "(II)V"⟩
abbrev cX3_copyRenumbered : ByteArray := prog_5_method_15_code
def yX3_copyRenumbered : MethodName := ⟨RX3, "copyRenumbered", "(LSameParts$Parting;)V"⟩
abbrev cX3_cross : ByteArray := prog_5_method_16_code
def yX3_cross : MethodName := ⟨RX3, "cross", "(LSameParts$Parting;LSameParts$Parting;)V"⟩
abbrev cX3_sizeOf : ByteArray := prog_5_method_17_code
def yX3_sizeOf : MethodName := ⟨RX3, "sizeOf", "(I)I"⟩
def RX4 : String := "SameParts$Sameness"
def TX4 : u_T := fun k => match k with
  | _ => ("SameParts$Sameness", "views", "[I", true)
def tyX4 : Nat → FieldType := fun k => match k with
  | _ => .array .int
abbrev wsX40 : List Cond := u_ws RX4 TX4 1
theorem nmX4 : ∀ a, a < 1 → ∀ b, b < 1 → a ≠ b → (TX4 a).2.1 ≠ (TX4 b).2.1 := by decide +kernel
theorem tyX4_ok : ∀ k, k < 1 → parseFieldDescriptor (TX4 k).2.2.1 = some (tyX4 k) := by decide +kernel
abbrev cX4_init : ByteArray := prog_6_method_1_code
def yX4_init : MethodName := ⟨RX4, "<init>", "()V"⟩
abbrev cX4_firstUnlike : ByteArray := prog_6_method_2_code
def yX4_firstUnlike : MethodName := ⟨RX4, "firstUnlike", "(LSameParts$Town;LSameParts$Parting;I)I"⟩
abbrev cX4_refine : ByteArray := prog_6_method_3_code
def yX4_refine : MethodName := ⟨RX4, "refine", "(LSameParts$Town;LSameParts$Parting;LSameParts$Parting;I)V"⟩
abbrev cX4_split : ByteArray := prog_6_method_4_code
def yX4_split : MethodName := ⟨RX4, "split", "(LSameParts$Town;LSameParts$Parting;LSameParts$Parting;I)V"⟩
abbrev cX4_alike : ByteArray := prog_6_method_5_code
def yX4_alike : MethodName := ⟨RX4, "alike", "(LSameParts$Town;III)Z"⟩
abbrev cX4_sameView : ByteArray := prog_6_method_6_code
def yX4_sameView : MethodName := ⟨RX4, "sameView", "(II)Z"⟩
abbrev cX4_look : ByteArray := prog_6_method_7_code
def yX4_look : MethodName := ⟨RX4, "look", "(LSameParts$Town;LSameParts$Parting;I)V"⟩
abbrev cX4_note : ByteArray := prog_6_method_8_code
def yX4_note : MethodName := ⟨RX4, "note", "(IIZ)V"⟩
abbrev cX4_swappable : ByteArray := prog_6_method_9_code
def yX4_swappable : MethodName := ⟨RX4, "swappable", "(LSameParts$Town;IIZ)Z"⟩
abbrev cX4_match : ByteArray := prog_6_method_10_code
def yX4_match : MethodName := ⟨RX4, "match", "(IIZ)Z"⟩
def RX5 : String := "SameParts$Tape"
def TX5 : u_T := fun k => match k with
  | 0 => ("SameParts$Tape", "bytes", "[I", true)
  | 1 => ("SameParts$Tape", "heard", "LSameParts$Told;", true)
  | 2 => ("SameParts$Tape", "size", "I", false)
  | 3 => ("SameParts$Tape", "place", "I", false)
  | _ => ("SameParts$Tape", "persons", "I", false)
def tyX5 : Nat → FieldType := fun k => match k with
  | 0 => .array .int
  | 1 => .object "SameParts$Told"
  | 2 => .int
  | 3 => .int
  | _ => .int
abbrev wsX50 : List Cond := u_ws RX5 TX5 5
theorem nmX5 : ∀ a, a < 5 → ∀ b, b < 5 → a ≠ b → (TX5 a).2.1 ≠ (TX5 b).2.1 := by decide +kernel
theorem tyX5_ok : ∀ k, k < 5 → parseFieldDescriptor (TX5 k).2.2.1 = some (tyX5 k) := by decide +kernel
abbrev cX5_init : ByteArray := prog_7_method_1_code
def yX5_init : MethodName := ⟨RX5, "<init>", "()V"⟩
abbrev cX5_append : ByteArray := prog_7_method_2_code
def yX5_append : MethodName := ⟨RX5, "append", "(I)V"⟩
abbrev cX5_readAll : ByteArray := prog_7_method_3_code
def yX5_readAll : MethodName := ⟨RX5, "readAll", "(I)Z"⟩
abbrev cX5_readTie : ByteArray := prog_7_method_4_code
def yX5_readTie : MethodName := ⟨RX5, "readTie", "()Z"⟩
abbrev cX5_readPerson : ByteArray := prog_7_method_5_code
def yX5_readPerson : MethodName := ⟨RX5, "readPerson", "(I)Z"⟩
abbrev cX5_readStrength : ByteArray := prog_7_method_6_code
def yX5_readStrength : MethodName := ⟨RX5, "readStrength", "()Z"⟩
abbrev cX5_readYears : ByteArray := prog_7_method_7_code
def yX5_readYears : MethodName := ⟨RX5, "readYears", "()Z"⟩
abbrev cX5_readYear : ByteArray := prog_7_method_8_code
def yX5_readYear : MethodName := ⟨RX5, "readYear", "(II)Z"⟩
abbrev cX5_readInto : ByteArray := prog_7_method_9_code
def yX5_readInto : MethodName := ⟨RX5, "readInto", "(IIII)Z"⟩
abbrev cX5_drafted : ByteArray := prog_7_method_10_code
def yX5_drafted : MethodName := ⟨RX5, "drafted", "(I)I"⟩
abbrev cX5_skip : ByteArray := prog_7_method_11_code
def yX5_skip : MethodName := ⟨RX5, "skip", "(I)Z"⟩
abbrev cX5_here : ByteArray := prog_7_method_12_code
def yX5_here : MethodName := ⟨RX5, "here", "()I"⟩
def RX6 : String := "SameParts$Told"
def TX6 : u_T := fun k => match k with
  | 0 => ("SameParts$Told", "rows", "[I", true)
  | _ => ("SameParts$Told", "size", "I", false)
def tyX6 : Nat → FieldType := fun k => match k with
  | 0 => .array .int
  | _ => .int
abbrev wsX60 : List Cond := u_ws RX6 TX6 2
theorem nmX6 : ∀ a, a < 2 → ∀ b, b < 2 → a ≠ b → (TX6 a).2.1 ≠ (TX6 b).2.1 := by decide +kernel
theorem tyX6_ok : ∀ k, k < 2 → parseFieldDescriptor (TX6 k).2.2.1 = some (tyX6 k) := by decide +kernel
abbrev cX6_init : ByteArray := prog_8_method_1_code
def yX6_init : MethodName := ⟨RX6, "<init>", "()V"⟩
abbrev cX6_drain : ByteArray := prog_8_method_2_code
def yX6_drain : MethodName := ⟨RX6, "drain", "()V"⟩
abbrev cX6_field : ByteArray := prog_8_method_3_code
def yX6_field : MethodName := ⟨RX6, "field", "(II)I"⟩
abbrev cX6_draft : ByteArray := prog_8_method_4_code
def yX6_draft : MethodName := ⟨RX6, "draft", "(II)V"⟩
abbrev cX6_endDraft : ByteArray := prog_8_method_5_code
def yX6_endDraft : MethodName := ⟨RX6, "endDraft", "()V"⟩
abbrev cX6_takeAll : ByteArray := prog_8_method_6_code
def yX6_takeAll : MethodName := ⟨RX6, "takeAll", "(LSameParts$Told;)V"⟩
abbrev cX6_drop : ByteArray := prog_8_method_7_code
def yX6_drop : MethodName := ⟨RX6, "drop", "(I)V"⟩
abbrev cX6_draw : ByteArray := prog_8_method_8_code
def yX6_draw : MethodName := ⟨RX6, "draw", "(LSameParts$Town;I)V"⟩
abbrev cX6_nextChange : ByteArray := prog_8_method_9_code
def yX6_nextChange : MethodName := ⟨RX6, "nextChange", "(I)I"⟩
def RX7 : String := "SameParts$Town"
def TX7 : u_T := fun k => match k with
  | 0 => ("SameParts$Town", "marks", "[I", true)
  | 1 => ("SameParts$Town", "strengths", "[I", true)
  | _ => ("SameParts$Town", "size", "I", false)
def tyX7 : Nat → FieldType := fun k => match k with
  | 0 => .array .int
  | 1 => .array .int
  | _ => .int
abbrev wsX70 : List Cond := u_ws RX7 TX7 3
theorem nmX7 : ∀ a, a < 3 → ∀ b, b < 3 → a ≠ b → (TX7 a).2.1 ≠ (TX7 b).2.1 := by decide +kernel
theorem tyX7_ok : ∀ k, k < 3 → parseFieldDescriptor (TX7 k).2.2.1 = some (tyX7 k) := by decide +kernel
abbrev cX7_init : ByteArray := prog_9_method_1_code
def yX7_init : MethodName := ⟨RX7, "<init>", "()V"⟩
abbrev cX7_settle : ByteArray := prog_9_method_2_code
def yX7_settle : MethodName := ⟨RX7, "settle", "(I)V"⟩
abbrev cX7_lives : ByteArray := prog_9_method_3_code
def yX7_lives : MethodName := ⟨RX7, "lives", "(I)Z"⟩
abbrev cX7_strength : ByteArray := prog_9_method_4_code
def yX7_strength : MethodName := ⟨RX7, "strength", "(III)I"⟩
abbrev cX7_tied : ByteArray := prog_9_method_5_code
def yX7_tied : MethodName := ⟨RX7, "tied", "(III)Z"⟩
abbrev cX7_sameMark : ByteArray := prog_9_method_6_code
def yX7_sameMark : MethodName := ⟨RX7, "sameMark", "(II)Z"⟩
abbrev cX7_tiesOf : ByteArray := prog_9_method_7_code
def yX7_tiesOf : MethodName := ⟨RX7, "tiesOf", "(IIZ)I"⟩
abbrev cX7_tiesOfKind : ByteArray := prog_9_method_8_code
def yX7_tiesOfKind : MethodName := ⟨RX7, "tiesOfKind", "(I)I"⟩
abbrev cX7_tiesInAll : ByteArray := prog_9_method_9_code
def yX7_tiesInAll : MethodName := ⟨RX7, "tiesInAll", "()I"⟩
def RX8 : String := "SameParts$Turns"
def TX8 : u_T := fun k => match k with
  | 0 => ("SameParts$Turns", "image", "[I", true)
  | 1 => ("SameParts$Turns", "best", "[I", true)
  | 2 => ("SameParts$Turns", "twinsAhead", "[I", true)
  | 3 => ("SameParts$Turns", "depth", "I", false)
  | _ => ("SameParts$Turns", "used", "I", false)
def tyX8 : Nat → FieldType := fun k => match k with
  | 0 => .array .int
  | 1 => .array .int
  | 2 => .array .int
  | 3 => .int
  | _ => .int
abbrev wsX80 : List Cond := u_ws RX8 TX8 5
theorem nmX8 : ∀ a, a < 5 → ∀ b, b < 5 → a ≠ b → (TX8 a).2.1 ≠ (TX8 b).2.1 := by decide +kernel
theorem tyX8_ok : ∀ k, k < 5 → parseFieldDescriptor (TX8 k).2.2.1 = some (tyX8 k) := by decide +kernel
abbrev cX8_init : ByteArray := prog_10_method_1_code
def yX8_init : MethodName := ⟨RX8, "<init>", "()V"⟩
abbrev cX8_howMany : ByteArray := prog_10_method_2_code
def yX8_howMany : MethodName := ⟨RX8, "howMany", "(LSameParts$Town;)I"⟩
abbrev cX8_partByOrbit : ByteArray := prog_10_method_3_code
def yX8_partByOrbit : MethodName := ⟨RX8, "partByOrbit", "(LSameParts$Town;LSameParts$Parting;)V"⟩
abbrev cX8_brings : ByteArray := prog_10_method_4_code
def yX8_brings : MethodName := ⟨RX8, "brings", "(LSameParts$Town;III)Z"⟩
abbrev cX8_begin : ByteArray := prog_10_method_5_code
def yX8_begin : MethodName := ⟨RX8, "begin", "()V"⟩
abbrev cX8_step : ByteArray := prog_10_method_6_code
def yX8_step : MethodName := ⟨RX8, "step", "(I)V"⟩
abbrev cX8_lift : ByteArray := prog_10_method_7_code
def yX8_lift : MethodName := ⟨RX8, "lift", "()I"⟩
abbrev cX8_nextKeeping : ByteArray := prog_10_method_8_code
def yX8_nextKeeping : MethodName := ⟨RX8, "nextKeeping", "(LSameParts$Town;III)I"⟩
abbrev cX8_keepsAhead : ByteArray := prog_10_method_9_code
def yX8_keepsAhead : MethodName := ⟨RX8, "keepsAhead", "(LSameParts$Town;I)Z"⟩
abbrev cX8_keeps : ByteArray := prog_10_method_10_code
def yX8_keeps : MethodName := ⟨RX8, "keeps", "(LSameParts$Town;IIII)Z"⟩
abbrev cX8_leastRow : ByteArray := prog_10_method_11_code
def yX8_leastRow : MethodName := ⟨RX8, "leastRow", "(LSameParts$Town;)I"⟩
abbrev cX8_findTwins : ByteArray := prog_10_method_12_code
def yX8_findTwins : MethodName := ⟨RX8, "findTwins", "(LSameParts$Town;)V"⟩
abbrev cX8_firstKind : ByteArray := prog_10_method_13_code
def yX8_firstKind : MethodName := ⟨RX8, "firstKind", "(LSameParts$Town;)I"⟩
abbrev cX8_nextInRow : ByteArray := prog_10_method_14_code
def yX8_nextInRow : MethodName := ⟨RX8, "nextInRow", "(LSameParts$Town;IZ)I"⟩
abbrev cX8_hasLeastMark : ByteArray := prog_10_method_15_code
def yX8_hasLeastMark : MethodName := ⟨RX8, "hasLeastMark", "(LSameParts$Town;I)Z"⟩
abbrev cX8_behindBest : ByteArray := prog_10_method_16_code
def yX8_behindBest : MethodName := ⟨RX8, "behindBest", "(LSameParts$Town;II)Z"⟩
abbrev cX8_lessThanBest : ByteArray := prog_10_method_17_code
def yX8_lessThanBest : MethodName := ⟨RX8, "lessThanBest", "(LSameParts$Town;I)Z"⟩
abbrev cX8_keepBest : ByteArray := prog_10_method_18_code
def yX8_keepBest : MethodName := ⟨RX8, "keepBest", "(LSameParts$Town;)V"⟩
abbrev cX8_bestAsNumber : ByteArray := prog_10_method_19_code
def yX8_bestAsNumber : MethodName := ⟨RX8, "bestAsNumber", "(LSameParts$Town;)I"⟩
abbrev cX8_behind : ByteArray := prog_10_method_20_code
def yX8_behind : MethodName := ⟨RX8, "behind", "(JI)J"⟩
def RX9 : String := "SameParts"
def TX9 : u_T := fun k => match k with
  | 0 => ("SameParts", "town", "LSameParts$Town;", true)
  | 1 => ("SameParts", "told", "LSameParts$Told;", true)
  | 2 => ("SameParts", "tape", "LSameParts$Tape;", true)
  | 3 => ("SameParts", "guest", "LSameParts$Newcomer;", true)
  | 4 => ("SameParts", "sameness", "LSameParts$Sameness;", true)
  | 5 => ("SameParts", "turns", "LSameParts$Turns;", true)
  | 6 => ("SameParts", "blocks", "LSameParts$Blocks;", true)
  | 7 => ("SameParts", "matching", "LSameParts$Matching;", true)
  | 8 => ("SameParts", "first", "LSameParts$Parting;", true)
  | 9 => ("SameParts", "second", "LSameParts$Parting;", true)
  | 10 => ("SameParts", "result", "LSameParts$Parting;", true)
  | 11 => ("SameParts", "refusals", "[I", true)
  | _ => ("SameParts", "now", "I", false)
def tyX9 : Nat → FieldType := fun k => match k with
  | 0 => .object "SameParts$Town"
  | 1 => .object "SameParts$Told"
  | 2 => .object "SameParts$Tape"
  | 3 => .object "SameParts$Newcomer"
  | 4 => .object "SameParts$Sameness"
  | 5 => .object "SameParts$Turns"
  | 6 => .object "SameParts$Blocks"
  | 7 => .object "SameParts$Matching"
  | 8 => .object "SameParts$Parting"
  | 9 => .object "SameParts$Parting"
  | 10 => .object "SameParts$Parting"
  | 11 => .array .int
  | _ => .int
abbrev wsX90 : List Cond := u_ws RX9 TX9 13
theorem nmX9 : ∀ a, a < 13 → ∀ b, b < 13 → a ≠ b → (TX9 a).2.1 ≠ (TX9 b).2.1 := by decide +kernel
theorem tyX9_ok : ∀ k, k < 13 → parseFieldDescriptor (TX9 k).2.2.1 = some (tyX9 k) := by decide +kernel
abbrev cX9_init : ByteArray := prog_1_method_1_code
def yX9_init : MethodName := ⟨RX9, "<init>", "()V"⟩
abbrev cX9_persons : ByteArray := prog_1_method_2_code
def yX9_persons : MethodName := ⟨RX9, "persons", "(I)I"⟩
abbrev cX9_mark : ByteArray := prog_1_method_3_code
def yX9_mark : MethodName := ⟨RX9, "mark", "(II)I"⟩
abbrev cX9_year : ByteArray := prog_1_method_4_code
def yX9_year : MethodName := ⟨RX9, "year", "(I)I"⟩
abbrev cX9_feed : ByteArray := prog_1_method_5_code
def yX9_feed : MethodName := ⟨RX9, "feed", "(IJ)I"⟩
abbrev cX9_ties : ByteArray := prog_1_method_6_code
def yX9_ties : MethodName := ⟨RX9, "ties", "()I"⟩
abbrev cX9_untie : ByteArray := prog_1_method_7_code
def yX9_untie : MethodName := ⟨RX9, "untie", "(I)I"⟩
abbrev cX9_tie : ByteArray := prog_1_method_8_code
def yX9_tie : MethodName := ⟨RX9, "tie", "(III)I"⟩
abbrev cX9_degree : ByteArray := prog_1_method_9_code
def yX9_degree : MethodName := ⟨RX9, "degree", "(IIZ)I"⟩
abbrev cX9_parting : ByteArray := prog_1_method_10_code
def yX9_parting : MethodName := ⟨RX9, "parting", "(I)I"⟩
abbrev cX9_judge : ByteArray := prog_1_method_11_code
def yX9_judge : MethodName := ⟨RX9, "judge", "(II)I"⟩
abbrev cX9_coarsest : ByteArray := prog_1_method_12_code
def yX9_coarsest : MethodName := ⟨RX9, "coarsest", "(II)I"⟩
abbrev cX9_renamings : ByteArray := prog_1_method_13_code
def yX9_renamings : MethodName := ⟨RX9, "renamings", "()I"⟩
abbrev cX9_moves : ByteArray := prog_1_method_14_code
def yX9_moves : MethodName := ⟨RX9, "moves", "(II)I"⟩
abbrev cX9_orbits : ByteArray := prog_1_method_15_code
def yX9_orbits : MethodName := ⟨RX9, "orbits", "()I"⟩
abbrev cX9_form : ByteArray := prog_1_method_16_code
def yX9_form : MethodName := ⟨RX9, "form", "()I"⟩
abbrev cX9_next : ByteArray := prog_1_method_17_code
def yX9_next : MethodName := ⟨RX9, "next", "(II)I"⟩
abbrev cX9_all : ByteArray := prog_1_method_18_code
def yX9_all : MethodName := ⟨RX9, "all", "(I)I"⟩
abbrev cX9_join : ByteArray := prog_1_method_19_code
def yX9_join : MethodName := ⟨RX9, "join", "(II)I"⟩
abbrev cX9_meet : ByteArray := prog_1_method_20_code
def yX9_meet : MethodName := ⟨RX9, "meet", "(II)I"⟩
abbrev cX9_picture : ByteArray := prog_1_method_21_code
def yX9_picture : MethodName := ⟨RX9, "picture", "(IIII)I"⟩
abbrev cX9_wrong : ByteArray := prog_1_method_22_code
def yX9_wrong : MethodName := ⟨RX9, "wrong", "(I)I"⟩
abbrev cX9_least : ByteArray := prog_1_method_23_code
def yX9_least : MethodName := ⟨RX9, "least", "(II)I"⟩
abbrev cX9_spoils : ByteArray := prog_1_method_24_code
def yX9_spoils : MethodName := ⟨RX9, "spoils", "(II)I"⟩
abbrev cX9_newcomer : ByteArray := prog_1_method_25_code
def yX9_newcomer : MethodName := ⟨RX9, "newcomer", "(IIZ)I"⟩
abbrev cX9_fits : ByteArray := prog_1_method_26_code
def yX9_fits : MethodName := ⟨RX9, "fits", "(I)I"⟩
abbrev cX9_gone : ByteArray := prog_1_method_27_code
def yX9_gone : MethodName := ⟨RX9, "gone", "()I"⟩
abbrev cX9_shift : ByteArray := prog_1_method_28_code
def yX9_shift : MethodName := ⟨RX9, "shift", "(III)I"⟩
abbrev cX9_stays : ByteArray := prog_1_method_29_code
def yX9_stays : MethodName := ⟨RX9, "stays", "(II)I"⟩
abbrev cX9_count : ByteArray := prog_1_method_30_code
def yX9_count : MethodName := ⟨RX9, "count", "(I)I"⟩
abbrev cX9_refuse : ByteArray := prog_1_method_31_code
def yX9_refuse : MethodName := ⟨RX9, "refuse", "(I)I"⟩
abbrev cX9_lookAt : ByteArray := prog_1_method_32_code
def yX9_lookAt : MethodName := ⟨RX9, "lookAt", "(I)V"⟩
abbrev cX9_partOfYear : ByteArray := prog_1_method_33_code
def yX9_partOfYear : MethodName := ⟨RX9, "partOfYear", "(IILSameParts$Parting;)V"⟩
abbrev cX9_isKind : ByteArray := prog_1_method_34_code
def yX9_isKind : MethodName := ⟨RX9, "isKind", "(I)Z"⟩
abbrev cX9_isSameness : ByteArray := prog_1_method_35_code
def yX9_isSameness : MethodName := ⟨RX9, "isSameness", "(I)Z"⟩
abbrev cX9_at : ByteArray := prog_1_method_36_code
def yX9_at : MethodName := ⟨RX9, "at", "([II)I"⟩
abbrev cX9_put : ByteArray := prog_1_method_37_code
def yX9_put : MethodName := ⟨RX9, "put", "([III)V"⟩
abbrev cX9_addTo : ByteArray := prog_1_method_38_code
def yX9_addTo : MethodName := ⟨RX9, "addTo", "([III)V"⟩
abbrev cX9_wipe : ByteArray := prog_1_method_39_code
def yX9_wipe : MethodName := ⟨RX9, "wipe", "([I)V"⟩
abbrev cX9_holds : ByteArray := prog_1_method_40_code
def yX9_holds : MethodName := ⟨RX9, "holds", "(II)Z"⟩
abbrev cX9_cell : ByteArray := prog_1_method_41_code
def yX9_cell : MethodName := ⟨RX9, "cell", "(III)I"⟩
def RX10 : String := "SamePartsModel"
def TX10 : u_T := fun k => match k with
  | 0 => ("SamePartsModel", "refused", "[I", true)
  | 1 => ("SamePartsModel", "mark", "[I", true)
  | 2 => ("SamePartsModel", "tieX", "[I", true)
  | 3 => ("SamePartsModel", "tieZ", "[I", true)
  | 4 => ("SamePartsModel", "tieKind", "[I", true)
  | 5 => ("SamePartsModel", "tieAs", "[I", true)
  | 6 => ("SamePartsModel", "tieFrom", "[I", true)
  | 7 => ("SamePartsModel", "tieTo", "[I", true)
  | 8 => ("SamePartsModel", "persons", "I", false)
  | 9 => ("SamePartsModel", "ties", "I", false)
  | 10 => ("SamePartsModel", "year", "I", false)
  | 11 => ("SamePartsModel", "tape", "[I", true)
  | 12 => ("SamePartsModel", "taped", "I", false)
  | 13 => ("SamePartsModel", "at", "I", false)
  | 14 => ("SamePartsModel", "read", "I", false)
  | 15 => ("SamePartsModel", "readX", "[I", true)
  | 16 => ("SamePartsModel", "readZ", "[I", true)
  | 17 => ("SamePartsModel", "readKind", "[I", true)
  | 18 => ("SamePartsModel", "readAs", "[I", true)
  | 19 => ("SamePartsModel", "readFrom", "[I", true)
  | 20 => ("SamePartsModel", "readTo", "[I", true)
  | 21 => ("SamePartsModel", "tie", "[I", true)
  | 22 => ("SamePartsModel", "part", "[I", true)
  | 23 => ("SamePartsModel", "other", "[I", true)
  | 24 => ("SamePartsModel", "made", "[I", true)
  | 25 => ("SamePartsModel", "names", "[I", true)
  | 26 => ("SamePartsModel", "to", "[I", true)
  | 27 => ("SamePartsModel", "least", "[I", true)
  | 28 => ("SamePartsModel", "row", "[I", true)
  | 29 => ("SamePartsModel", "moved", "[Z", true)
  | 30 => ("SamePartsModel", "comingKind", "[I", true)
  | 31 => ("SamePartsModel", "comingOf", "[I", true)
  | 32 => ("SamePartsModel", "comingTo", "[Z", true)
  | _ => ("SamePartsModel", "coming", "I", false)
def tyX10 : Nat → FieldType := fun k => match k with
  | 0 => .array .int
  | 1 => .array .int
  | 2 => .array .int
  | 3 => .array .int
  | 4 => .array .int
  | 5 => .array .int
  | 6 => .array .int
  | 7 => .array .int
  | 8 => .int
  | 9 => .int
  | 10 => .int
  | 11 => .array .int
  | 12 => .int
  | 13 => .int
  | 14 => .int
  | 15 => .array .int
  | 16 => .array .int
  | 17 => .array .int
  | 18 => .array .int
  | 19 => .array .int
  | 20 => .array .int
  | 21 => .array .int
  | 22 => .array .int
  | 23 => .array .int
  | 24 => .array .int
  | 25 => .array .int
  | 26 => .array .int
  | 27 => .array .int
  | 28 => .array .int
  | 29 => .array .boolean
  | 30 => .array .int
  | 31 => .array .int
  | 32 => .array .boolean
  | _ => .int
abbrev wsX100 : List Cond := u_ws RX10 TX10 34
theorem nmX10 : ∀ a, a < 34 → ∀ b, b < 34 → a ≠ b → (TX10 a).2.1 ≠ (TX10 b).2.1 := by decide +kernel
theorem tyX10_ok : ∀ k, k < 34 → parseFieldDescriptor (TX10 k).2.2.1 = some (tyX10 k) := by decide +kernel
abbrev cX10_init : ByteArray := prog_12_method_1_code
def yX10_init : MethodName := ⟨RX10, "<init>", "()V"⟩
abbrev cX10_no : ByteArray := prog_12_method_2_code
def yX10_no : MethodName := ⟨RX10, "no", "(I)I"⟩
abbrev cX10_less : ByteArray := prog_12_method_3_code
def yX10_less : MethodName := ⟨RX10, "less", "(I)I"⟩
abbrev cX10_isIn : ByteArray := prog_12_method_4_code
def yX10_isIn : MethodName := ⟨RX10, "isIn", "(JJJ)Z"⟩
abbrev cX10_out : ByteArray := prog_12_method_5_code
def yX10_out : MethodName := ⟨RX10, "out", "(JJJ)I"⟩
abbrev cX10_isPerson : ByteArray := prog_12_method_6_code
def yX10_isPerson : MethodName := ⟨RX10, "isPerson", "(I)Z"⟩
abbrev cX10_isKind : ByteArray := prog_12_method_7_code
def yX10_isKind : MethodName := ⟨RX10, "isKind", "(I)Z"⟩
abbrev cX10_isSameness : ByteArray := prog_12_method_8_code
def yX10_isSameness : MethodName := ⟨RX10, "isSameness", "(I)Z"⟩
abbrev cX10_persons : ByteArray := prog_12_method_9_code
def yX10_persons : MethodName := ⟨RX10, "persons", "(I)I"⟩
abbrev cX10_mark : ByteArray := prog_12_method_10_code
def yX10_mark : MethodName := ⟨RX10, "mark", "(II)I"⟩
abbrev cX10_year : ByteArray := prog_12_method_11_code
def yX10_year : MethodName := ⟨RX10, "year", "(I)I"⟩
abbrev cX10_feed : ByteArray := prog_12_method_12_code
def yX10_feed : MethodName := ⟨RX10, "feed", "(IJ)I"⟩
abbrev cX10_sign : ByteArray := prog_12_method_13_code
def yX10_sign : MethodName := ⟨RX10, "sign", "()I"⟩
abbrev cX10_takes : ByteArray := prog_12_method_14_code
def yX10_takes : MethodName := ⟨RX10, "takes", "(I)Z"⟩
abbrev cX10_takesIn : ByteArray := prog_12_method_15_code
def yX10_takesIn : MethodName := ⟨RX10, "takesIn", "(III)I"⟩
abbrev cX10_years : ByteArray := prog_12_method_16_code
def yX10_years : MethodName := ⟨RX10, "years", "(I)I"⟩
abbrev cX10_oneTie : ByteArray := prog_12_method_17_code
def yX10_oneTie : MethodName := ⟨RX10, "oneTie", "()Z"⟩
abbrev cX10_reads : ByteArray := prog_12_method_18_code
def yX10_reads : MethodName := ⟨RX10, "reads", "()Z"⟩
abbrev cX10_ties : ByteArray := prog_12_method_19_code
def yX10_ties : MethodName := ⟨RX10, "ties", "()I"⟩
abbrev cX10_untie : ByteArray := prog_12_method_20_code
def yX10_untie : MethodName := ⟨RX10, "untie", "(I)I"⟩
abbrev cX10_findTies : ByteArray := prog_12_method_21_code
def yX10_findTies : MethodName := ⟨RX10, "findTies", "(I)V"⟩
abbrev cX10_strong : ByteArray := prog_12_method_22_code
def yX10_strong : MethodName := ⟨RX10, "strong", "(III)I"⟩
abbrev cX10_has : ByteArray := prog_12_method_23_code
def yX10_has : MethodName := ⟨RX10, "has", "(III)Z"⟩
abbrev cX10_tie : ByteArray := prog_12_method_24_code
def yX10_tie : MethodName := ⟨RX10, "tie", "(III)I"⟩
abbrev cX10_degree : ByteArray := prog_12_method_25_code
def yX10_degree : MethodName := ⟨RX10, "degree", "(IIZ)I"⟩
abbrev cX10_opens : ByteArray := prog_12_method_26_code
def yX10_opens : MethodName := ⟨RX10, "opens", "(I[I)I"⟩
abbrev cX10_number : ByteArray := prog_12_method_27_code
def yX10_number : MethodName := ⟨RX10, "number", "([I)I"⟩
abbrev cX10_parting : ByteArray := prog_12_method_28_code
def yX10_parting : MethodName := ⟨RX10, "parting", "(I)I"⟩
abbrev cX10_areSo : ByteArray := prog_12_method_29_code
def yX10_areSo : MethodName := ⟨RX10, "areSo", "(III)Z"⟩
abbrev cX10_seen : ByteArray := prog_12_method_30_code
def yX10_seen : MethodName := ⟨RX10, "seen", "(IZ)I"⟩
abbrev cX10_areTied : ByteArray := prog_12_method_31_code
def yX10_areTied : MethodName := ⟨RX10, "areTied", "(IIZ)Z"⟩
abbrev cX10_led : ByteArray := prog_12_method_32_code
def yX10_led : MethodName := ⟨RX10, "led", "(IIIZ)I"⟩
abbrev cX10_areLed : ByteArray := prog_12_method_33_code
def yX10_areLed : MethodName := ⟨RX10, "areLed", "(IIZ)Z"⟩
abbrev cX10_judged : ByteArray := prog_12_method_34_code
def yX10_judged : MethodName := ⟨RX10, "judged", "(I)I"⟩
abbrev cX10_judge : ByteArray := prog_12_method_35_code
def yX10_judge : MethodName := ⟨RX10, "judge", "(II)I"⟩
abbrev cX10_splits : ByteArray := prog_12_method_36_code
def yX10_splits : MethodName := ⟨RX10, "splits", "(I)I"⟩
abbrev cX10_coarsest : ByteArray := prog_12_method_37_code
def yX10_coarsest : MethodName := ⟨RX10, "coarsest", "(II)I"⟩
abbrev cX10_firstNames : ByteArray := prog_12_method_38_code
def yX10_firstNames : MethodName := ⟨RX10, "firstNames", "()V"⟩
abbrev cX10_nextNames : ByteArray := prog_12_method_39_code
def yX10_nextNames : MethodName := ⟨RX10, "nextNames", "(I)Z"⟩
abbrev cX10_isTurn : ByteArray := prog_12_method_40_code
def yX10_isTurn : MethodName := ⟨RX10, "isTurn", "()Z"⟩
abbrev cX10_findTurns : ByteArray := prog_12_method_41_code
def yX10_findTurns : MethodName := ⟨RX10, "findTurns", "()I"⟩
abbrev cX10_renamings : ByteArray := prog_12_method_42_code
def yX10_renamings : MethodName := ⟨RX10, "renamings", "()I"⟩
abbrev cX10_moves : ByteArray := prog_12_method_43_code
def yX10_moves : MethodName := ⟨RX10, "moves", "(II)I"⟩
abbrev cX10_orbits : ByteArray := prog_12_method_44_code
def yX10_orbits : MethodName := ⟨RX10, "orbits", "()I"⟩
abbrev cX10_form : ByteArray := prog_12_method_45_code
def yX10_form : MethodName := ⟨RX10, "form", "()I"⟩
abbrev cX10_firstParting : ByteArray := prog_12_method_46_code
def yX10_firstParting : MethodName := ⟨RX10, "firstParting", "()V"⟩
abbrev cX10_nextParting : ByteArray := prog_12_method_47_code
def yX10_nextParting : MethodName := ⟨RX10, "nextParting", "()Z"⟩
abbrev cX10_parts : ByteArray := prog_12_method_48_code
def yX10_parts : MethodName := ⟨RX10, "parts", "()I"⟩
abbrev cX10_next : ByteArray := prog_12_method_49_code
def yX10_next : MethodName := ⟨RX10, "next", "(II)I"⟩
abbrev cX10_all : ByteArray := prog_12_method_50_code
def yX10_all : MethodName := ⟨RX10, "all", "(I)I"⟩
abbrev cX10_join : ByteArray := prog_12_method_51_code
def yX10_join : MethodName := ⟨RX10, "join", "(II)I"⟩
abbrev cX10_meet : ByteArray := prog_12_method_52_code
def yX10_meet : MethodName := ⟨RX10, "meet", "(II)I"⟩
abbrev cX10_picture : ByteArray := prog_12_method_53_code
def yX10_picture : MethodName := ⟨RX10, "picture", "(IIII)I"⟩
abbrev cX10_wrongOf : ByteArray := prog_12_method_54_code
def yX10_wrongOf : MethodName := ⟨RX10, "wrongOf", "()I"⟩
abbrev cX10_wrong : ByteArray := prog_12_method_55_code
def yX10_wrong : MethodName := ⟨RX10, "wrong", "(I)I"⟩
abbrev cX10_least : ByteArray := prog_12_method_56_code
def yX10_least : MethodName := ⟨RX10, "least", "(II)I"⟩
abbrev cX10_spoils : ByteArray := prog_12_method_57_code
def yX10_spoils : MethodName := ⟨RX10, "spoils", "(II)I"⟩
abbrev cX10_newcomer : ByteArray := prog_12_method_58_code
def yX10_newcomer : MethodName := ⟨RX10, "newcomer", "(IIZ)I"⟩
abbrev cX10_isFit : ByteArray := prog_12_method_59_code
def yX10_isFit : MethodName := ⟨RX10, "isFit", "(II)Z"⟩
abbrev cX10_fits : ByteArray := prog_12_method_60_code
def yX10_fits : MethodName := ⟨RX10, "fits", "(I)I"⟩
abbrev cX10_gone : ByteArray := prog_12_method_61_code
def yX10_gone : MethodName := ⟨RX10, "gone", "()I"⟩
abbrev cX10_coarsestOn : ByteArray := prog_12_method_62_code
def yX10_coarsestOn : MethodName := ⟨RX10, "coarsestOn", "(II)I"⟩
abbrev cX10_shift : ByteArray := prog_12_method_63_code
def yX10_shift : MethodName := ⟨RX10, "shift", "(III)I"⟩
abbrev cX10_stays : ByteArray := prog_12_method_64_code
def yX10_stays : MethodName := ⟨RX10, "stays", "(II)I"⟩
abbrev cX10_count : ByteArray := prog_12_method_65_code
def yX10_count : MethodName := ⟨RX10, "count", "(I)I"⟩
def RJ9 : String := "java/lang/Math"
def TJ9 : u_T := fun k => match k with
  | _ => ("", "", "", false)
def tyJ9 : Nat → FieldType := fun k => match k with
  | _ => .int
abbrev wsJ90 : List Cond := u_ws RJ9 TJ9 0
theorem nmJ9 : ∀ a, a < 0 → ∀ b, b < 0 → a ≠ b → (TJ9 a).2.1 ≠ (TJ9 b).2.1 := by decide +kernel
theorem tyJ9_ok : ∀ k, k < 0 → parseFieldDescriptor (TJ9 k).2.2.1 = some (tyJ9 k) := by decide +kernel
abbrev cJ9_max_7cf53 : ByteArray := prog_13_method_65_code
def yJ9_max_7cf53 : MethodName := ⟨RJ9, "max", "(II)I"⟩
abbrev cJ9_min_7cf53 : ByteArray := prog_13_method_69_code
def yJ9_min_7cf53 : MethodName := ⟨RJ9, "min", "(II)I"⟩
def RL : String := "SamePartsLaw"
abbrev cL_law : ByteArray := code
def yL_law : MethodName := ⟨RL, "law", "([I)Z"⟩
abbrev vwCl : List vw_C := [(RX0, TX0, 2), (RX1, TX1, 2), (RX2, TX2, 4), (RX3, TX3, 3), (RX4, TX4, 1), (RX5, TX5, 5), (RX6, TX6, 2), (RX7, TX7, 3), (RX8, TX8, 5), (RX9, TX9, 13), (RX10, TX10, 34)]
end
section
/-! The judgement G: one memory, one rule an instruction. -/
def TB : List Cond := lw_tbl.filter goodWord
theorem TB_in {w : Cond} (h : w ∈ lw_tbl) (hg : goodWord w = true) : w ∈ TB := List.mem_filter.mpr ⟨h, hg⟩
theorem TB_good : GoodIn TB TB := fun _ h => ⟨h, good_of_word (List.mem_filter.mp h).2⟩
def isNest : Cond → Bool
  | .fieldLinkNest .. => true
  | .methodLinkNest .. => true
  | _ => false
def NW : List Cond := lw_tbl.filter isNest
theorem NW_in {w : Cond} (h : w ∈ lw_tbl) (hg : isNest w = true) : w ∈ NW := List.mem_filter.mpr ⟨h, hg⟩
theorem nest_warm {s U : State} (hW : s.WarmedH U.vm) : ∀ w : Cond, isNest w = true → va_Nw w s → va_Nw w U := by
  intro w
  cases w <;> intro h <;> first | (exact va_Nw.warmF hW) | (exact va_Nw.warmM hW) | (simp [isNest] at h)
theorem nest_on : ∀ w : Cond, isNest w = true → w.onTables = true := by
  intro w
  cases w <;> intro h <;> first | rfl | (simp [isNest] at h)
abbrev Mem := Nat → Nat → Int32
abbrev inb (i : Int32) (n : Nat) : Prop := ¬ (i < 0 ∨ n ≤ i.toNatClampNeg)
def rd (M : Mem) (k : Nat) (i : Int32) : Int32 := M k i.toNatClampNeg
def st2 (M : Mem) (k j : Nat) (v : Int32) : Mem := fun a => if a = k then upd (M k) j v else M a
def wr (M : Mem) (k : Nat) (i : Int32) (v : Int32) : Mem := st2 M k i.toNatClampNeg v
def bz (v : Int32) : Int32 := v &&& 1
def nm {α β : Type} (e : α) (f : α → Option β) : Option β := f e
def jp {κ β : Type} (rest : κ) (f : κ → Option β) : Option β := f rest
def LOOP {σ β : Type} (F : (σ → Option β) → σ → Option β) : Nat → σ → Option β
  | 0, _ => none
  | n + 1, s => F (LOOP F n) s
theorem LOOP_rule {σ β : Type} {F : (σ → Option β) → σ → Option β} (P : σ → Option β → Prop) (h0 : ∀ s, P s none) (hF : ∀ ag, (∀ s, P s (ag s)) → ∀ s, P s (F ag s)) : ∀ n s, P s (LOOP F n s)
  | 0, s => h0 s
  | n + 1, s => hF _ (LOOP_rule P h0 hF n) s
def FU : Nat := 4000000
abbrev OB := (Nat × List (Option Nat)) ⊕ (Nat × Bool)
def obl : List OB := [.inl (9, [some 1, some 4, some 6, some 10, some 14, some 16, some 20, some 23, some 26, some 28, some 30, some 32, none]), .inl (7, [some 2, some 3, none]), .inr (7, false), .inr (147, false), .inl (6, [some 5, none]), .inr (360, false), .inl (5, [some 7, some 8, none, none, none]), .inr (60, false), .inl (6, [some 9, none]), .inr (360, false), .inl (2, [some 11, some 12, some 13, none]), .inr (6, false), .inr (6, false), .inr (6, false), .inl (4, [some 15]), .inr (42, false), .inl (8, [some 17, some 18, some 19, none, none]), .inr (7, false), .inr (7, false), .inr (7, false), .inl (0, [some 21, some 22]), .inr (147, false), .inr (7, false), .inl (1, [some 24, some 25]), .inr (49, false), .inr (128, false), .inl (3, [some 27, none, none]), .inr (7, false), .inl (3, [some 29, none, none]), .inr (7, false), .inl (3, [some 31, none, none]), .inr (7, false), .inr (7, false), .inl (10, [some 34, some 35, some 36, some 37, some 38, some 39, some 40, some 41, none, none, none, some 42, none, none, none, some 43, some 44, some 45, some 46, some 47, some 48, some 49, some 50, some 51, some 52, some 53, some 54, some 55, some 56, some 57, some 58, some 59, some 60, none]), .inr (7, false), .inr (7, false), .inr (60, false), .inr (60, false), .inr (60, false), .inr (60, false), .inr (60, false), .inr (60, false), .inr (60, false), .inr (20, false), .inr (20, false), .inr (20, false), .inr (20, false), .inr (20, false), .inr (20, false), .inr (147, false), .inr (7, false), .inr (7, false), .inr (7, false), .inr (7, false), .inr (7, false), .inr (154, false), .inr (154, false), .inr (49, true), .inr (6, false), .inr (6, false), .inr (6, true)]
def ob (k : Nat) : OB := obl.getD k (.inr (0, false))
def aln (k : Nat) : Nat := match ob k with
  | .inr (n, _) => n
  | .inl _ => 0
def isP (k : Nat) : Prop := k + 1 < 61 ∧ ob k = .inl (3, [some (k + 1), none, none]) ∧ ob (k + 1) = .inr (7, false)
def isT (k : Nat) : Prop := k + 1 < 61 ∧ ob k = .inl (6, [some (k + 1), none]) ∧ ob (k + 1) = .inr (360, false)
def isA (k : Nat) : Prop := k < 61 ∧ ob k = .inr (aln k, false)
theorem isP.a {k : Nat} (h : isP k) : isA (k + 1) := ⟨h.1, by rw [h.2.2]; simp [aln, h.2.2]⟩
theorem isT.a {k : Nat} (h : isT k) : isA (k + 1) := ⟨h.1, by rw [h.2.2]; simp [aln, h.2.2]⟩
def fvs (ad : Nat → Nat) (m : Nat → Int32) : Nat → List (Option Nat) → List Value
  | _, [] => []
  | i, some j :: t => .ref (ad j) :: fvs ad m (i + 1) t
  | i, none :: t => .int (m i) :: fvs ad m (i + 1) t
theorem fvs_len (ad : Nat → Nat) (m : Nat → Int32) : ∀ (fs : List (Option Nat)) (i : Nat), (fvs ad m i fs).length = fs.length
  | [], _ => rfl
  | some _ :: t, i => by simp [fvs, fvs_len ad m t]
  | none :: t, i => by simp [fvs, fvs_len ad m t]
theorem fvs_ref (ad : Nat → Nat) (m : Nat → Int32) : ∀ (fs : List (Option Nat)) (i k j : Nat), fs[k]? = some (some j) → (fvs ad m i fs)[k]? = some (.ref (ad j))
  | [], _, _, _, h => by simp at h
  | some a :: t, i, 0, j, h => by simp at h; subst h; simp [fvs]
  | none :: t, i, 0, j, h => by simp at h
  | some a :: t, i, k + 1, j, h => by simp at h; simp [fvs, fvs_ref ad m t (i + 1) k j h]
  | none :: t, i, k + 1, j, h => by simp at h; simp [fvs, fvs_ref ad m t (i + 1) k j h]
theorem fvs_int (ad : Nat → Nat) (m : Nat → Int32) : ∀ (fs : List (Option Nat)) (i k : Nat), fs[k]? = some none → (fvs ad m i fs)[k]? = some (.int (m (i + k)))
  | [], _, _, h => by simp at h
  | some a :: t, i, 0, h => by simp at h
  | none :: t, i, 0, h => by simp [fvs]
  | some a :: t, i, k + 1, h => by simp at h; simp [fvs, fvs_int ad m t (i + 1) k h]; congr 1; omega
  | none :: t, i, k + 1, h => by simp at h; simp [fvs, fvs_int ad m t (i + 1) k h]; congr 1; omega
theorem fvs_lt (ad : Nat → Nat) (m : Nat → Int32) (p : Nat) (v : Int32) : ∀ (fs : List (Option Nat)) (i : Nat), p < i → fvs ad (upd m p v) i fs = fvs ad m i fs
  | [], _, _ => rfl
  | some _ :: t, i, h => by simp [fvs, fvs_lt ad m p v t (i + 1) (by omega)]
  | none :: t, i, h => by simp [fvs, fvs_lt ad m p v t (i + 1) (by omega), upd, show i ≠ p by omega]
theorem fvs_set (ad : Nat → Nat) (m : Nat → Int32) (v : Int32) : ∀ (fs : List (Option Nat)) (i k : Nat), fs[k]? = some none → (fvs ad m i fs).set k (.int v) = fvs ad (upd m (i + k) v) i fs
  | [], _, _, h => by simp at h
  | some a :: t, i, 0, h => by simp at h
  | none :: t, i, 0, h => by simp [fvs, upd, fvs_lt ad m i v t (i + 1) (by omega)]
  | some a :: t, i, k + 1, h => by simp at h; simp [fvs, fvs_set ad m v t (i + 1) k h]; congr 2; omega
  | none :: t, i, k + 1, h => by
    simp at h
    have e := fvs_set ad m v t (i + 1) k h
    have e2 : i + 1 + k = i + (k + 1) := by omega
    rw [e2] at e
    simp [fvs, e, upd]
def cel (ad : Nat → Nat) (cI cZ : ClassId) (M : Mem) (k : Nat) : va_E := match ob k with
  | .inl q => .inr (q.1, fvs ad (M k) 0 q.2)
  | .inr q => .inl (if q.2 then cZ else cI, q.1, .inl (M k))
def wd (ad : Nat → Nat) (cI cZ : ClassId) (M : Mem) : va_W := (List.range 61).map (fun k => (ad k, cel ad cI cZ M k))
theorem wd_get {ad : Nat → Nat} {cI cZ : ClassId} {M : Mem} {k : Nat} (h : k < 61) : (wd ad cI cZ M)[k]? = some (ad k, cel ad cI cZ M k) := by simp [wd, h]
theorem wd_lt {ad : Nat → Nat} {cI cZ : ClassId} {M : Mem} {k : Nat} {q : Nat × va_E} (h : (wd ad cI cZ M)[k]? = some q) : k < 61 ∧ q = (ad k, cel ad cI cZ M k) := by
  have hl : k < (wd ad cI cZ M).length := (List.getElem?_eq_some_iff.mp h).1
  have hk : k < 61 := by simpa [wd] using hl
  rw [wd_get hk] at h
  exact ⟨hk, (Option.some.inj h).symm⟩
theorem cel_congr {ad : Nat → Nat} {cI cZ : ClassId} {M M' : Mem} {k : Nat} (h : M' k = M k) : cel ad cI cZ M' k = cel ad cI cZ M k := by simp [cel, h]
theorem wd_set {ad : Nat → Nat} {cI cZ : ClassId} {M : Mem} {k j : Nat} {v : Int32} {c : va_E} (hk : k < 61) (hc : c = cel ad cI cZ (st2 M k j v) k) : (wd ad cI cZ M).set k (ad k, c) = wd ad cI cZ (st2 M k j v) := by
  subst hc
  apply List.ext_getElem?
  intro i
  by_cases hi : i < 61
  · rw [wd_get hi]
    by_cases h : i = k
    · subst h
      rw [List.getElem?_set_self (by simp [wd]; omega)]
    · rw [List.getElem?_set_ne (Ne.symm h), wd_get hi, cel_congr (M := M) (M' := st2 M k j v) (by simp [st2, h])]
  · rw [List.getElem?_eq_none (by simp [wd]; omega), List.getElem?_eq_none (by simp [wd]; omega)]
theorem cel_obj {ad : Nat → Nat} {cI cZ : ClassId} {M : Mem} {k ci : Nat} {fs : List (Option Nat)} (h : ob k = .inl (ci, fs)) : cel ad cI cZ M k = .inr (ci, fvs ad (M k) 0 fs) := by simp [cel, h]
theorem cel_arr {ad : Nat → Nat} {cI cZ : ClassId} {M : Mem} {k n : Nat} (h : ob k = .inr (n, false)) : cel ad cI cZ M k = .inl (cI, n, .inl (M k)) := by simp [cel, h]
theorem cel_arrZ {ad : Nat → Nat} {cI cZ : ClassId} {M : Mem} {k n : Nat} (h : ob k = .inr (n, true)) : cel ad cI cZ M k = .inl (cZ, n, .inl (M k)) := by simp [cel, h]
def Aw (ad : Nat → Nat) : Nat → Prop := fun q => ∃ k, k < 61 ∧ q = ad k
theorem wd_D {ad : Nat → Nat} {cI cZ : ClassId} {M : Mem} {A : Nat → Prop} (hi : ∀ i j, i < 61 → j < 61 → ad i = ad j → i = j) (hA : ∀ q, Aw ad q → A q) : va_D A (wd ad cI cZ M) := by
  refine ⟨fun i j p q h1 h2 h => ?_, fun k q h => ?_⟩
  · obtain ⟨a1, rfl⟩ := wd_lt h1
    obtain ⟨a2, rfl⟩ := wd_lt h2
    exact hi i j a1 a2 h
  · obtain ⟨a1, rfl⟩ := wd_lt h
    exact hA _ ⟨k, a1, rfl⟩
abbrev Cx := Program × Launch × Env × Room × State × MethodId × Array Value × List Frame × Method × Code × va_G × ClassId × ClassId × (Nat → Prop) × Nat × Nat × (Option Value × Mem → State → Prop)
abbrev xP (X : Cx) : Program := X.1
abbrev xL (X : Cx) : Launch := X.2.1
abbrev xE (X : Cx) : Env := X.2.2.1
abbrev xR (X : Cx) : Room := X.2.2.2.1
abbrev xS (X : Cx) : State := X.2.2.2.2.1
abbrev xM (X : Cx) : MethodId := X.2.2.2.2.2.1
abbrev xG (X : Cx) : Array Value := X.2.2.2.2.2.2.1
abbrev xB (X : Cx) : List Frame := X.2.2.2.2.2.2.2.1
abbrev xMe (X : Cx) : Method := X.2.2.2.2.2.2.2.2.1
abbrev xC (X : Cx) : Code := X.2.2.2.2.2.2.2.2.2.1
abbrev xD (X : Cx) : va_G := X.2.2.2.2.2.2.2.2.2.2.1
abbrev xI (X : Cx) : ClassId := X.2.2.2.2.2.2.2.2.2.2.2.1
abbrev xZ (X : Cx) : ClassId := X.2.2.2.2.2.2.2.2.2.2.2.2.1
abbrev xA (X : Cx) : Nat → Prop := X.2.2.2.2.2.2.2.2.2.2.2.2.2.1
abbrev xK (X : Cx) : Nat := X.2.2.2.2.2.2.2.2.2.2.2.2.2.2.1
abbrev xN (X : Cx) : Nat := X.2.2.2.2.2.2.2.2.2.2.2.2.2.2.2.1
abbrev xQ (X : Cx) : Option Value × Mem → State → Prop := X.2.2.2.2.2.2.2.2.2.2.2.2.2.2.2.2
/-- a method: not the law; name; code; locals; answer; room: frames, words -/
abbrev Mi := Bool × MethodName × ByteArray × Nat × Option FieldType × Nat × Nat
abbrev my (i : Mi) : MethodName := i.2.1
abbrev mcc (i : Mi) : ByteArray := i.2.2.1
abbrev mnL (i : Mi) : Nat := i.2.2.2.1
abbrev mret (i : Mi) : Option FieldType := i.2.2.2.2.1
abbrev mfr (i : Mi) : Nat := i.2.2.2.2.2.1
abbrev mlo (i : Mi) : Nat := i.2.2.2.2.2.2
abbrev mrm (i : Mi) : Room := { frames := mfr i, cells := 0, slots := 0, locals := mlo i }
abbrev mws (i : Mi) : List Cond := Cond.code (my i) (mcc i) (mnL i) (mret i) :: TB
def Qw (ad : Nat → Nat) (D : va_G) (cI cZ : ClassId) (A : Nat → Prop) (r : Option Value × Mem) : Array Value → State → Outcome → State → Prop := fun _ st o t => (o = .returned r.1 ∧ va_P D vwCl (wd ad cI cZ r.2) t.heap) ∧ va_F A st t
abbrev wty (cI cZ : ClassId) : List (ClassId × FieldType) := [(cI, .int), (cZ, .boolean)]
def Bw (ad : Nat → Nat) (D : va_G) (cI cZ : ClassId) (M : Mem) (U : State) : Prop := va_P D vwCl (wd ad cI cZ M) U.heap ∧ va_K D vwCl (wty cI cZ) U ∧ (∀ i j, i < 61 → j < 61 → ad i = ad j → i = j) ∧ ∀ w ∈ NW, va_Nw w U
def Ok (X : Cx) (ad : Nat → Nat) (mi : Mi) : Prop :=
  ((xP X).tables.exec = Jvm.exec ∧ (xC X).code = mcc mi ∧ (xC X).maxLocals = mnL mi ∧ (xMe X).sig.returnType = mret mi ∧ (xMe X).locks = false ∧ (xS X).vm.findClass (my mi).cls = some (xM X).cls) ∧
  (∀ w ∈ TB, w.before (xG X) (xS X) = true) ∧ (∀ w ∈ NW, va_Nw w (xS X)) ∧ va_K (xD X) vwCl (wty (xI X) (xZ X)) (xS X) ∧
  (∀ i j, i < 61 → j < 61 → ad i = ad j → i = j) ∧ (∀ q, Aw ad q → xA X q) ∧
  ((xR X).frames = mfr mi ∧ (xR X).locals = mlo mi ∧ xK X ≤ (xR X).cells ∧ xN X ≤ (xR X).slots) ∧
  (mi.1 = true → ∀ r, xQ X r = MQ (xB X) (Qw ad (xD X) (xI X) (xZ X) (xA X) r) (xG X) (xS X) (xK X) (xN X) (xA X))
section OK
variable {X : Cx} {ad : Nat → Nat} {mi : Mi}
theorem Ok.hx (h : Ok X ad mi) : (xP X).tables.exec = Jvm.exec := h.1.1
theorem Ok.hb (h : Ok X ad mi) : (xC X).code = mcc mi := h.1.2.1
theorem Ok.hml (h : Ok X ad mi) : (xC X).maxLocals = mnL mi := h.1.2.2.1
theorem Ok.hr (h : Ok X ad mi) : (xMe X).sig.returnType = mret mi := h.1.2.2.2.1
theorem Ok.hlk (h : Ok X ad mi) : (xMe X).locks = false := h.1.2.2.2.2.1
theorem Ok.hown (h : Ok X ad mi) : (xS X).vm.findClass (my mi).cls = some (xM X).cls := h.1.2.2.2.2.2
theorem Ok.hts (h : Ok X ad mi) : ∀ w ∈ TB, w.before (xG X) (xS X) = true := h.2.1
theorem Ok.hnw (h : Ok X ad mi) : ∀ w ∈ NW, va_Nw w (xS X) := h.2.2.1
theorem Ok.hK (h : Ok X ad mi) : va_K (xD X) vwCl (wty (xI X) (xZ X)) (xS X) := h.2.2.2.1
theorem Ok.hin (h : Ok X ad mi) : ∀ i j, i < 61 → j < 61 → ad i = ad j → i = j := h.2.2.2.2.1
theorem Ok.hA (h : Ok X ad mi) : ∀ q, Aw ad q → xA X q := h.2.2.2.2.2.1
theorem Ok.hR (h : Ok X ad mi) : (xR X).frames = mfr mi ∧ (xR X).locals = mlo mi ∧ xK X ≤ (xR X).cells ∧ xN X ≤ (xR X).slots := h.2.2.2.2.2.2.1
theorem Ok.hQ (h : Ok X ad mi) : mi.1 = true → ∀ r, xQ X r = MQ (xB X) (Qw ad (xD X) (xI X) (xZ X) (xA X) r) (xG X) (xS X) (xK X) (xN X) (xA X) := h.2.2.2.2.2.2.2
theorem Ok.hD (h : Ok X ad mi) {M : Mem} : va_D (xA X) (wd ad (xI X) (xZ X) M) := wd_D h.hin h.hA
end OK
def G {β : Type} (X : Cx) (ad : Nat → Nat) (mi : Mi) (φ : β → Option Value × Mem) (pc : Nat) (L : List (Nat × Value)) (st : List Value) (M : Mem) (o : Option β) : Prop :=
  Ok X ad mi → ∀ r, o = some r → ∀ (H : Heap) (locs : List Loc) (ls : Array Slot), lv_has ls (mnL mi) L → va_P (xD X) vwCl (wd ad (xI X) (xZ X) M) H → va_S (xA X) (xS X).heap H locs → W (xP X) (xL X) (xE X) (xR X) (xS X) (xM X) (xG X) (xB X) (xMe X) (xC X) H locs (xK X) (xN X) (xQ X (φ r)) (F0 (xM X) pc ls st)
def MC {β : Type} (mi : Mi) (φ : β → Option Value × Mem) (as : (Nat → Nat) → List Value) (M : Mem) (o : Option β) : Prop :=
  ∀ (l : Launch) (ad : Nat → Nat) (D : va_G) (cI cZ : ClassId) (r : β), o = some r → Met l (my mi) (mws mi) (mrm mi) (va_Pc (as ad) (Bw ad D cI cZ M)) (Qw ad D cI cZ (Aw ad) (φ r)) 0 0 (Aw ad)
theorem MC_of {β : Type} {mi : Mi} {φ : β → Option Value × Mem} {as : (Nat → Nat) → List Value} {M : Mem} {o : Option β} (h1 : mi.1 = true) (hy : plainName (my mi).cls = true) (L : (Nat → Nat) → List (Nat × Value)) (hL : ∀ ad, lv_args 0 (as ad) = L ad) (hn : ∀ ad, (lg_sl (as ad)).length ≤ mnL mi)
    (h : ∀ (X : Cx) (ad : Nat → Nat), G X ad mi φ 0 (L ad) [] M o) : MC mi φ as M o := by
  intro l ad D cI cZ r hr
  refine Met.ofW (cc := mcc mi) (maxL := mnL mi) (ret := mret mi) hy rfl ?_
  intro p e s m args below meth c s₁ B hml hv
  obtain ⟨rfl, hP, hK, hin, hN⟩ := hv
  have hts := atoms_spec (ws := mws mi) B.pre
  rw [lg_entry_eq]
  have hl := lv_entry (as ad) (n := mnL mi) (hn ad)
  rw [hL ad] at hl
  exact h (p, l, e, mrm mi, s, m, (as ad).toArray, below, meth, c, D, cI, cZ, Aw ad, 0, 0, fun r => MQ below (Qw ad D cI cZ (Aw ad) r) (as ad).toArray s 0 0 (Aw ad)) ad
    ⟨⟨B.exec, B.bytes, hml, B.returns, B.notSynchronized, findClass_of_methodNamed B.named⟩, fun w hw => hts w (List.mem_cons_of_mem _ hw), hN, hK, hin, fun _ h => h, ⟨rfl, rfl, Nat.le_refl _, Nat.le_refl _⟩, fun _ _ => rfl⟩ r hr _ [] _ hl hP va_S.rf
section GR
variable {β : Type} {X : Cx} {ad : Nat → Nat} {mi : Mi} {φ : β → Option Value × Mem} {pc : Nat} {L L' : List (Nat × Value)} {st : List Value} {M : Mem} {o : Option β}
theorem G_none : G X ad mi φ pc L st M none := fun _ _ h => by cases h
theorem G_sub (ks : List Nat) (h : lv_pick L ks = L') (K : G X ad mi φ pc L' st M o) : G X ad mi φ pc L st M o :=
  fun ok r hr H locs ls h1 h2 h3 => K ok r hr H locs ls (lv_sub h1 ks h) h2 h3
theorem G_nm {α : Type} {e : α} {f : α → Option β} (K : ∀ v, G X ad mi φ pc L st M (f v)) : G X ad mi φ pc L st M (nm e f) := K e
theorem G_nmI {e : Int32} {f : Int32 → Option β} (K : ∀ v, G X ad mi φ pc L (.int v :: st) M (f v)) : G X ad mi φ pc L (.int e :: st) M (nm e f) := K e
theorem G_nmL {e : Int64} {f : Int64 → Option β} (K : ∀ v, G X ad mi φ pc L (.long v :: st) M (f v)) : G X ad mi φ pc L (.long e :: st) M (nm e f) := K e
theorem G_jp {κ : Type} {rest : κ} {f : κ → Option β} (P : κ → Prop) (h1 : P rest) (h2 : ∀ k, P k → G X ad mi φ pc L st M (f k)) : G X ad mi φ pc L st M (jp rest f) := h2 rest h1
theorem G_ite {q : Prop} [Decidable q] {a b : Option β} (ht : q → G X ad mi φ pc L st M a) (hf : ¬ q → G X ad mi φ pc L st M b) : G X ad mi φ pc L st M (if q then a else b) := by
  by_cases h : q
  · rw [if_pos h]; exact ht h
  · rw [if_neg h]; exact hf h

theorem G_iconst {n : Int} {v : Int32} (hd : decode (mcc mi) pc = .ok (.iconst n, 1)) (hv : Int32.ofInt n = v) (K : G X ad mi φ (pc + 1) L (.int v :: st) M o) : G X ad mi φ pc L (st) M o :=
  fun ok r hr H locs ls h1 h2 h3 => lv_iconst ok.hx ok.hb hd hv (K ok r hr H locs ls h1 h2 h3)
theorem G_bipush {n : Int} {v : Int32} (hd : decode (mcc mi) pc = .ok (.bipush n, 2)) (hv : (Int8.ofInt n).toInt32 = v) (K : G X ad mi φ (pc + 2) L (.int v :: st) M o) : G X ad mi φ pc L (st) M o :=
  fun ok r hr H locs ls h1 h2 h3 => lv_bipush ok.hx ok.hb hd hv (K ok r hr H locs ls h1 h2 h3)
theorem G_sipush {n : Int} {v : Int32} (hd : decode (mcc mi) pc = .ok (.sipush n, 3)) (hv : (Int16.ofInt n).toInt32 = v) (K : G X ad mi φ (pc + 3) L (.int v :: st) M o) : G X ad mi φ pc L (st) M o :=
  fun ok r hr H locs ls h1 h2 h3 => lv_sipush ok.hx ok.hb hd hv (K ok r hr H locs ls h1 h2 h3)
theorem G_lconst {n : Fin 2} {v : Int64} (hd : decode (mcc mi) pc = .ok (.lconst n, 1)) (hv : Int64.ofNat (n : Nat) = v) (K : G X ad mi φ (pc + 1) L (.long v :: st) M o) : G X ad mi φ pc L (st) M o :=
  fun ok r hr H locs ls h1 h2 h3 => lv_lconst ok.hx ok.hb hd hv (K ok r hr H locs ls h1 h2 h3)
theorem G_iload_n {k : Fin 4} {x : Int32} (hd : decode (mcc mi) pc = .ok (.iload_n k, 1)) (j : Nat) (hl : L[j]? = some ((k : Nat), .int x)) (K : G X ad mi φ (pc + 1) L (.int x :: st) M o) : G X ad mi φ pc L (st) M o :=
  fun ok r hr H locs ls h1 h2 h3 => lv_iload_n ok.hx ok.hb hd rfl (lv_at h1 j hl) (K ok r hr H locs ls h1 h2 h3)
theorem G_iload {i : Nat} {x : Int32} (hd : decode (mcc mi) pc = .ok (.iload i, 2)) (j : Nat) (hl : L[j]? = some (i, .int x)) (K : G X ad mi φ (pc + 2) L (.int x :: st) M o) : G X ad mi φ pc L (st) M o :=
  fun ok r hr H locs ls h1 h2 h3 => lv_iload ok.hx ok.hb hd (lv_at h1 j hl) (K ok r hr H locs ls h1 h2 h3)
theorem G_lload_n {k : Fin 4} {x : Int64} (hd : decode (mcc mi) pc = .ok (.lload_n k, 1)) (j : Nat) (hl : L[j]? = some ((k : Nat), .long x)) (K : G X ad mi φ (pc + 1) L (.long x :: st) M o) : G X ad mi φ pc L (st) M o :=
  fun ok r hr H locs ls h1 h2 h3 => lv_lload_n ok.hx ok.hb hd rfl (lv_at h1 j hl) (K ok r hr H locs ls h1 h2 h3)
theorem G_lload {i : Nat} {x : Int64} (hd : decode (mcc mi) pc = .ok (.lload i, 2)) (j : Nat) (hl : L[j]? = some (i, .long x)) (K : G X ad mi φ (pc + 2) L (.long x :: st) M o) : G X ad mi φ pc L (st) M o :=
  fun ok r hr H locs ls h1 h2 h3 => lv_lload ok.hx ok.hb hd (lv_at h1 j hl) (K ok r hr H locs ls h1 h2 h3)
theorem G_aload_n {k : Fin 4} {x : Nat} (hd : decode (mcc mi) pc = .ok (.aload_n k, 1)) (j : Nat) (hl : L[j]? = some ((k : Nat), .ref x)) (K : G X ad mi φ (pc + 1) L (.ref x :: st) M o) : G X ad mi φ pc L (st) M o :=
  fun ok r hr H locs ls h1 h2 h3 => lv_aload_n ok.hx ok.hb hd rfl (lv_at h1 j hl) (K ok r hr H locs ls h1 h2 h3)
theorem G_aload {i : Nat} {x : Nat} (hd : decode (mcc mi) pc = .ok (.aload i, 2)) (j : Nat) (hl : L[j]? = some (i, .ref x)) (K : G X ad mi φ (pc + 2) L (.ref x :: st) M o) : G X ad mi φ pc L (st) M o :=
  fun ok r hr H locs ls h1 h2 h3 => lv_aload ok.hx ok.hb hd (lv_at h1 j hl) (K ok r hr H locs ls h1 h2 h3)
theorem G_istore_n {k : Fin 4} {x : Int32} (i : Nat) (hi : (k : Nat) = i) (hd : decode (mcc mi) pc = .ok (.istore_n k, 1)) (hn : i < mnL mi) (hl : (i, Value.int x) :: L.filter (fun q => !(q.1 == i) && !(q.1 + 1 == i && q.2.category == 2)) = L') (K : G X ad mi φ (pc + 1) L' st M o) : G X ad mi φ pc L (.int x :: st) M o :=
  fun ok r hr H locs ls h1 h2 h3 => lv_istore_n ok.hx ok.hb hd hi h1 hn hl (fun ls' h => K ok r hr H locs ls' h h2 h3)
theorem G_istore {x : Int32} {i : Nat} (hd : decode (mcc mi) pc = .ok (.istore i, 2)) (hn : i < mnL mi) (hl : (i, Value.int x) :: L.filter (fun q => !(q.1 == i) && !(q.1 + 1 == i && q.2.category == 2)) = L') (K : G X ad mi φ (pc + 2) L' st M o) : G X ad mi φ pc L (.int x :: st) M o :=
  fun ok r hr H locs ls h1 h2 h3 => lv_istore ok.hx ok.hb hd h1 hn hl (fun ls' h => K ok r hr H locs ls' h h2 h3)
theorem G_lstore_n {k : Fin 4} {x : Int64} (i : Nat) (hi : (k : Nat) = i) (hd : decode (mcc mi) pc = .ok (.lstore_n k, 1)) (hn : i + 1 < mnL mi) (hl : (i, Value.long x) :: L.filter (fun q => !(q.1 == i) && (!(q.1 == i + 1) && !(q.1 + 1 == i && q.2.category == 2))) = L') (K : G X ad mi φ (pc + 1) L' st M o) : G X ad mi φ pc L (.long x :: st) M o :=
  fun ok r hr H locs ls h1 h2 h3 => lv_lstore_n ok.hx ok.hb hd hi h1 hn hl (fun ls' h => K ok r hr H locs ls' h h2 h3)
theorem G_lstore {x : Int64} {i : Nat} (hd : decode (mcc mi) pc = .ok (.lstore i, 2)) (hn : i + 1 < mnL mi) (hl : (i, Value.long x) :: L.filter (fun q => !(q.1 == i) && (!(q.1 == i + 1) && !(q.1 + 1 == i && q.2.category == 2))) = L') (K : G X ad mi φ (pc + 2) L' st M o) : G X ad mi φ pc L (.long x :: st) M o :=
  fun ok r hr H locs ls h1 h2 h3 => lv_lstore ok.hx ok.hb hd h1 hn hl (fun ls' h => K ok r hr H locs ls' h h2 h3)
theorem G_astore_n {k : Fin 4} {x : Nat} (i : Nat) (hi : (k : Nat) = i) (hd : decode (mcc mi) pc = .ok (.astore_n k, 1)) (hn : i < mnL mi) (hl : (i, Value.ref x) :: L.filter (fun q => !(q.1 == i) && !(q.1 + 1 == i && q.2.category == 2)) = L') (K : G X ad mi φ (pc + 1) L' st M o) : G X ad mi φ pc L (.ref x :: st) M o :=
  fun ok r hr H locs ls h1 h2 h3 => lv_astore_n ok.hx ok.hb hd hi h1 hn hl (fun ls' h => K ok r hr H locs ls' h h2 h3)
theorem G_astore {x : Nat} {i : Nat} (hd : decode (mcc mi) pc = .ok (.astore i, 2)) (hn : i < mnL mi) (hl : (i, Value.ref x) :: L.filter (fun q => !(q.1 == i) && !(q.1 + 1 == i && q.2.category == 2)) = L') (K : G X ad mi φ (pc + 2) L' st M o) : G X ad mi φ pc L (.ref x :: st) M o :=
  fun ok r hr H locs ls h1 h2 h3 => lv_astore ok.hx ok.hb hd h1 hn hl (fun ls' h => K ok r hr H locs ls' h h2 h3)
theorem G_iinc {i : Nat} {n : Int} {x : Int32} (v : Int32) (hd : decode (mcc mi) pc = .ok (.iinc i n, 3)) (j : Nat) (hk : L[j]? = some (i, .int x)) (hv : x + Int32.ofInt n = v) (hn : i < mnL mi) (hl : (i, Value.int v) :: L.filter (fun q => !(q.1 == i) && !(q.1 + 1 == i && q.2.category == 2)) = L') (K : G X ad mi φ (pc + 3) L' st M o) : G X ad mi φ pc L st M o :=
  fun ok r hr H locs ls h1 h2 h3 => lv_iinc ok.hx ok.hb hd h1 hk hv hn hl (fun ls' h => K ok r hr H locs ls' h h2 h3)
theorem G_iadd {x y : Int32} (hd : decode (mcc mi) pc = .ok (.iadd, 1)) (K : G X ad mi φ (pc + 1) L (.int (x + y) :: st) M o) : G X ad mi φ pc L (.int y :: .int x :: st) M o :=
  fun ok r hr H locs ls h1 h2 h3 => lv_iadd ok.hx ok.hb hd (K ok r hr H locs ls h1 h2 h3)
theorem G_isub {x y : Int32} (hd : decode (mcc mi) pc = .ok (.isub, 1)) (K : G X ad mi φ (pc + 1) L (.int (x - y) :: st) M o) : G X ad mi φ pc L (.int y :: .int x :: st) M o :=
  fun ok r hr H locs ls h1 h2 h3 => lv_isub ok.hx ok.hb hd (K ok r hr H locs ls h1 h2 h3)
theorem G_imul {x y : Int32} (hd : decode (mcc mi) pc = .ok (.imul, 1)) (K : G X ad mi φ (pc + 1) L (.int (x * y) :: st) M o) : G X ad mi φ pc L (.int y :: .int x :: st) M o :=
  fun ok r hr H locs ls h1 h2 h3 => lv_imul ok.hx ok.hb hd (K ok r hr H locs ls h1 h2 h3)
theorem G_iand {x y : Int32} (hd : decode (mcc mi) pc = .ok (.iand, 1)) (K : G X ad mi φ (pc + 1) L (.int (x &&& y) :: st) M o) : G X ad mi φ pc L (.int y :: .int x :: st) M o :=
  fun ok r hr H locs ls h1 h2 h3 => lv_iand ok.hx ok.hb hd (K ok r hr H locs ls h1 h2 h3)
theorem G_ior {x y : Int32} (hd : decode (mcc mi) pc = .ok (.ior, 1)) (K : G X ad mi φ (pc + 1) L (.int (x ||| y) :: st) M o) : G X ad mi φ pc L (.int y :: .int x :: st) M o :=
  fun ok r hr H locs ls h1 h2 h3 => lv_ior ok.hx ok.hb hd (K ok r hr H locs ls h1 h2 h3)
theorem G_ixor {x y : Int32} (hd : decode (mcc mi) pc = .ok (.ixor, 1)) (K : G X ad mi φ (pc + 1) L (.int (x ^^^ y) :: st) M o) : G X ad mi φ pc L (.int y :: .int x :: st) M o :=
  fun ok r hr H locs ls h1 h2 h3 => lv_ixor ok.hx ok.hb hd (K ok r hr H locs ls h1 h2 h3)
theorem G_ishl {x y : Int32} (hd : decode (mcc mi) pc = .ok (.ishl, 1)) (K : G X ad mi φ (pc + 1) L (.int (x <<< (y &&& 31)) :: st) M o) : G X ad mi φ pc L (.int y :: .int x :: st) M o :=
  fun ok r hr H locs ls h1 h2 h3 => lv_ishl ok.hx ok.hb hd (K ok r hr H locs ls h1 h2 h3)
theorem G_ishr {x y : Int32} (hd : decode (mcc mi) pc = .ok (.ishr, 1)) (K : G X ad mi φ (pc + 1) L (.int (x >>> (y &&& 31)) :: st) M o) : G X ad mi φ pc L (.int y :: .int x :: st) M o :=
  fun ok r hr H locs ls h1 h2 h3 => lv_ishr ok.hx ok.hb hd (K ok r hr H locs ls h1 h2 h3)
theorem G_ladd {x y : Int64} (hd : decode (mcc mi) pc = .ok (.ladd, 1)) (K : G X ad mi φ (pc + 1) L (.long (x + y) :: st) M o) : G X ad mi φ pc L (.long y :: .long x :: st) M o :=
  fun ok r hr H locs ls h1 h2 h3 => lv_ladd ok.hx ok.hb hd (K ok r hr H locs ls h1 h2 h3)
theorem G_lsub {x y : Int64} (hd : decode (mcc mi) pc = .ok (.lsub, 1)) (K : G X ad mi φ (pc + 1) L (.long (x - y) :: st) M o) : G X ad mi φ pc L (.long y :: .long x :: st) M o :=
  fun ok r hr H locs ls h1 h2 h3 => lv_lsub ok.hx ok.hb hd (K ok r hr H locs ls h1 h2 h3)
theorem G_lmul {x y : Int64} (hd : decode (mcc mi) pc = .ok (.lmul, 1)) (K : G X ad mi φ (pc + 1) L (.long (x * y) :: st) M o) : G X ad mi φ pc L (.long y :: .long x :: st) M o :=
  fun ok r hr H locs ls h1 h2 h3 => lv_lmul ok.hx ok.hb hd (K ok r hr H locs ls h1 h2 h3)
theorem G_land {x y : Int64} (hd : decode (mcc mi) pc = .ok (.land, 1)) (K : G X ad mi φ (pc + 1) L (.long (x &&& y) :: st) M o) : G X ad mi φ pc L (.long y :: .long x :: st) M o :=
  fun ok r hr H locs ls h1 h2 h3 => lv_land ok.hx ok.hb hd (K ok r hr H locs ls h1 h2 h3)
theorem G_lor {x y : Int64} (hd : decode (mcc mi) pc = .ok (.lor, 1)) (K : G X ad mi φ (pc + 1) L (.long (x ||| y) :: st) M o) : G X ad mi φ pc L (.long y :: .long x :: st) M o :=
  fun ok r hr H locs ls h1 h2 h3 => lv_lor ok.hx ok.hb hd (K ok r hr H locs ls h1 h2 h3)
theorem G_lxor {x y : Int64} (hd : decode (mcc mi) pc = .ok (.lxor, 1)) (K : G X ad mi φ (pc + 1) L (.long (x ^^^ y) :: st) M o) : G X ad mi φ pc L (.long y :: .long x :: st) M o :=
  fun ok r hr H locs ls h1 h2 h3 => lv_lxor ok.hx ok.hb hd (K ok r hr H locs ls h1 h2 h3)
theorem G_lcmp {x y : Int64} (hd : decode (mcc mi) pc = .ok (.lcmp, 1)) (K : G X ad mi φ (pc + 1) L (.int (lg_cmp x y) :: st) M o) : G X ad mi φ pc L (.long y :: .long x :: st) M o :=
  fun ok r hr H locs ls h1 h2 h3 => W.lcmp ok.hx ok.hb hd (K ok r hr H locs ls h1 h2 h3)
theorem G_ineg {x : Int32} (hd : decode (mcc mi) pc = .ok (.ineg, 1)) (K : G X ad mi φ (pc + 1) L (.int (-x) :: st) M o) : G X ad mi φ pc L (.int x :: st) M o :=
  fun ok r hr H locs ls h1 h2 h3 => lv_ineg ok.hx ok.hb hd (K ok r hr H locs ls h1 h2 h3)
theorem G_i2l {x : Int32} (hd : decode (mcc mi) pc = .ok (.i2l, 1)) (K : G X ad mi φ (pc + 1) L (.long x.toInt64 :: st) M o) : G X ad mi φ pc L (.int x :: st) M o :=
  fun ok r hr H locs ls h1 h2 h3 => lv_i2l ok.hx ok.hb hd rfl (K ok r hr H locs ls h1 h2 h3)
theorem G_l2i {x : Int64} (hd : decode (mcc mi) pc = .ok (.l2i, 1)) (K : G X ad mi φ (pc + 1) L (.int x.toInt32 :: st) M o) : G X ad mi φ pc L (.long x :: st) M o :=
  fun ok r hr H locs ls h1 h2 h3 => lv_l2i ok.hx ok.hb hd rfl (K ok r hr H locs ls h1 h2 h3)
theorem G_lushr {x : Int64} {y : Int32} (hd : decode (mcc mi) pc = .ok (.lushr, 1)) (K : G X ad mi φ (pc + 1) L (.long ((x.toUInt64 >>> (y.toInt64.toUInt64 &&& Int64.toUInt64 63)).toInt64) :: st) M o) : G X ad mi φ pc L (.int y :: .long x :: st) M o :=
  fun ok r hr H locs ls h1 h2 h3 => lv_lushr ok.hx ok.hb hd rfl (K ok r hr H locs ls h1 h2 h3)
theorem G_lshl {x : Int64} {y : Int32} (hd : decode (mcc mi) pc = .ok (.lshl, 1)) (K : G X ad mi φ (pc + 1) L (.long (x <<< (y.toInt64 &&& 63)) :: st) M o) : G X ad mi φ pc L (.int y :: .long x :: st) M o :=
  fun ok r hr H locs ls h1 h2 h3 => lv_lshl ok.hx ok.hb hd rfl (K ok r hr H locs ls h1 h2 h3)
theorem G_lshr {x : Int64} {y : Int32} (hd : decode (mcc mi) pc = .ok (.lshr, 1)) (K : G X ad mi φ (pc + 1) L (.long (x >>> (y.toInt64 &&& 63)) :: st) M o) : G X ad mi φ pc L (.int y :: .long x :: st) M o :=
  fun ok r hr H locs ls h1 h2 h3 => lv_lshr ok.hx ok.hb hd rfl (K ok r hr H locs ls h1 h2 h3)
def jrem (x y : Int32) : Int32 := x - x / y * y
def jrml (x y : Int64) : Int64 := x - x / y * y
theorem G_irem {x y : Int32} (hd : decode (mcc mi) pc = .ok (.irem, 1)) (hne : ¬ y = 0) (K : G X ad mi φ (pc + 1) L (.int (jrem x y) :: st) M o) : G X ad mi φ pc L (.int y :: .int x :: st) M o :=
  fun ok r hr H locs ls h1 h2 h3 => lv_irem ok.hx ok.hb hd hne (K ok r hr H locs ls h1 h2 h3)
theorem G_lrem {x y : Int64} (hd : decode (mcc mi) pc = .ok (.lrem, 1)) (hne : ¬ y = 0) (K : G X ad mi φ (pc + 1) L (.long (jrml x y) :: st) M o) : G X ad mi φ pc L (.long y :: .long x :: st) M o :=
  fun ok r hr H locs ls h1 h2 h3 => lv_lrem ok.hx ok.hb hd hne (K ok r hr H locs ls h1 h2 h3)
theorem G_idiv {x y : Int32} (hd : decode (mcc mi) pc = .ok (.idiv, 1)) (hne : ¬ y = 0) (K : G X ad mi φ (pc + 1) L (.int (x / y) :: st) M o) : G X ad mi φ pc L (.int y :: .int x :: st) M o :=
  fun ok r hr H locs ls h1 h2 h3 => lv_idiv ok.hx ok.hb hd hne (K ok r hr H locs ls h1 h2 h3)
theorem G_dup {va : Value} (hd : decode (mcc mi) pc = .ok (.dup, 1)) (hva : va.category = 1) (K : G X ad mi φ (pc + 1) L (va :: va :: st) M o) : G X ad mi φ pc L (va :: st) M o :=
  fun ok r hr H locs ls h1 h2 h3 => lv_dup ok.hx ok.hb hd hva (K ok r hr H locs ls h1 h2 h3)
theorem G_dup2 {va vb : Value} (hd : decode (mcc mi) pc = .ok (.dup2, 1)) (hva : va.category = 1) (hvb : vb.category = 1) (K : G X ad mi φ (pc + 1) L (va :: vb :: va :: vb :: st) M o) : G X ad mi φ pc L (va :: vb :: st) M o :=
  fun ok r hr H locs ls h1 h2 h3 => lv_dup2_11 ok.hx ok.hb hd hva hvb (K ok r hr H locs ls h1 h2 h3)
theorem G_pop {va : Value} (hd : decode (mcc mi) pc = .ok (.pop, 1)) (hva : va.category = 1) (K : G X ad mi φ (pc + 1) L (st) M o) : G X ad mi φ pc L (va :: st) M o :=
  fun ok r hr H locs ls h1 h2 h3 => lv_pop ok.hx ok.hb hd hva (K ok r hr H locs ls h1 h2 h3)
theorem G_if_eq {x : Int32} {off : Int} (tgt : Nat) {a b : Option β} (hd : decode (mcc mi) pc = .ok (.ifCond .eq off, 3)) (ht : (pc : Int) + off = (tgt : Int)) (kt : x = 0 → G X ad mi φ tgt L st M a) (kf : ¬ x = 0 → G X ad mi φ (pc + 3) L st M b) : G X ad mi φ pc L (.int x :: st) M (if x = 0 then a else b) := by
  intro ok r hr H locs ls h1 h2 h3
  refine lv_if_eq ok.hx ok.hb hd ht (fun c => ?_) (fun c => ?_)
  · rw [if_pos c] at hr; exact kt c ok r hr H locs ls h1 h2 h3
  · rw [if_neg c] at hr; exact kf c ok r hr H locs ls h1 h2 h3
theorem G_icmp_eq {x y : Int32} {off : Int} (tgt : Nat) {a b : Option β} (hd : decode (mcc mi) pc = .ok (.if_icmp .eq off, 3)) (ht : (pc : Int) + off = (tgt : Int)) (kt : x = y → G X ad mi φ tgt L st M a) (kf : ¬ x = y → G X ad mi φ (pc + 3) L st M b) : G X ad mi φ pc L (.int y :: .int x :: st) M (if x = y then a else b) := by
  intro ok r hr H locs ls h1 h2 h3
  refine lv_icmp_eq ok.hx ok.hb hd ht (fun c => ?_) (fun c => ?_)
  · rw [if_pos c] at hr; exact kt c ok r hr H locs ls h1 h2 h3
  · rw [if_neg c] at hr; exact kf c ok r hr H locs ls h1 h2 h3
theorem G_if_ne {x : Int32} {off : Int} (tgt : Nat) {a b : Option β} (hd : decode (mcc mi) pc = .ok (.ifCond .ne off, 3)) (ht : (pc : Int) + off = (tgt : Int)) (kf : x = 0 → G X ad mi φ (pc + 3) L st M a) (kt : ¬ x = 0 → G X ad mi φ tgt L st M b) : G X ad mi φ pc L (.int x :: st) M (if x = 0 then a else b) := by
  intro ok r hr H locs ls h1 h2 h3
  refine lv_if_ne ok.hx ok.hb hd ht (fun c => ?_) (fun c => ?_)
  · rw [if_neg c] at hr; exact kt c ok r hr H locs ls h1 h2 h3
  · rw [if_pos c] at hr; exact kf c ok r hr H locs ls h1 h2 h3
theorem G_icmp_ne {x y : Int32} {off : Int} (tgt : Nat) {a b : Option β} (hd : decode (mcc mi) pc = .ok (.if_icmp .ne off, 3)) (ht : (pc : Int) + off = (tgt : Int)) (kf : x = y → G X ad mi φ (pc + 3) L st M a) (kt : ¬ x = y → G X ad mi φ tgt L st M b) : G X ad mi φ pc L (.int y :: .int x :: st) M (if x = y then a else b) := by
  intro ok r hr H locs ls h1 h2 h3
  refine lv_icmp_ne ok.hx ok.hb hd ht (fun c => ?_) (fun c => ?_)
  · rw [if_neg c] at hr; exact kt c ok r hr H locs ls h1 h2 h3
  · rw [if_pos c] at hr; exact kf c ok r hr H locs ls h1 h2 h3
theorem G_if_lt {x : Int32} {off : Int} (tgt : Nat) {a b : Option β} (hd : decode (mcc mi) pc = .ok (.ifCond .lt off, 3)) (ht : (pc : Int) + off = (tgt : Int)) (kt : x < 0 → G X ad mi φ tgt L st M a) (kf : ¬ x < 0 → G X ad mi φ (pc + 3) L st M b) : G X ad mi φ pc L (.int x :: st) M (if x < 0 then a else b) := by
  intro ok r hr H locs ls h1 h2 h3
  refine lv_if_lt ok.hx ok.hb hd ht (fun c => ?_) (fun c => ?_)
  · rw [if_pos c] at hr; exact kt c ok r hr H locs ls h1 h2 h3
  · rw [if_neg c] at hr; exact kf c ok r hr H locs ls h1 h2 h3
theorem G_icmp_lt {x y : Int32} {off : Int} (tgt : Nat) {a b : Option β} (hd : decode (mcc mi) pc = .ok (.if_icmp .lt off, 3)) (ht : (pc : Int) + off = (tgt : Int)) (kt : x < y → G X ad mi φ tgt L st M a) (kf : ¬ x < y → G X ad mi φ (pc + 3) L st M b) : G X ad mi φ pc L (.int y :: .int x :: st) M (if x < y then a else b) := by
  intro ok r hr H locs ls h1 h2 h3
  refine lv_icmp_lt ok.hx ok.hb hd ht (fun c => ?_) (fun c => ?_)
  · rw [if_pos c] at hr; exact kt c ok r hr H locs ls h1 h2 h3
  · rw [if_neg c] at hr; exact kf c ok r hr H locs ls h1 h2 h3
theorem G_if_ge {x : Int32} {off : Int} (tgt : Nat) {a b : Option β} (hd : decode (mcc mi) pc = .ok (.ifCond .ge off, 3)) (ht : (pc : Int) + off = (tgt : Int)) (kt : 0 ≤ x → G X ad mi φ tgt L st M a) (kf : ¬ 0 ≤ x → G X ad mi φ (pc + 3) L st M b) : G X ad mi φ pc L (.int x :: st) M (if 0 ≤ x then a else b) := by
  intro ok r hr H locs ls h1 h2 h3
  refine lv_if_ge ok.hx ok.hb hd ht (fun c => ?_) (fun c => ?_)
  · rw [if_pos c] at hr; exact kt c ok r hr H locs ls h1 h2 h3
  · rw [if_neg c] at hr; exact kf c ok r hr H locs ls h1 h2 h3
theorem G_icmp_ge {x y : Int32} {off : Int} (tgt : Nat) {a b : Option β} (hd : decode (mcc mi) pc = .ok (.if_icmp .ge off, 3)) (ht : (pc : Int) + off = (tgt : Int)) (kt : y ≤ x → G X ad mi φ tgt L st M a) (kf : ¬ y ≤ x → G X ad mi φ (pc + 3) L st M b) : G X ad mi φ pc L (.int y :: .int x :: st) M (if y ≤ x then a else b) := by
  intro ok r hr H locs ls h1 h2 h3
  refine lv_icmp_ge ok.hx ok.hb hd ht (fun c => ?_) (fun c => ?_)
  · rw [if_pos c] at hr; exact kt c ok r hr H locs ls h1 h2 h3
  · rw [if_neg c] at hr; exact kf c ok r hr H locs ls h1 h2 h3
theorem G_if_gt {x : Int32} {off : Int} (tgt : Nat) {a b : Option β} (hd : decode (mcc mi) pc = .ok (.ifCond .gt off, 3)) (ht : (pc : Int) + off = (tgt : Int)) (kt : 0 < x → G X ad mi φ tgt L st M a) (kf : ¬ 0 < x → G X ad mi φ (pc + 3) L st M b) : G X ad mi φ pc L (.int x :: st) M (if 0 < x then a else b) := by
  intro ok r hr H locs ls h1 h2 h3
  refine lv_if_gt ok.hx ok.hb hd ht (fun c => ?_) (fun c => ?_)
  · rw [if_pos c] at hr; exact kt c ok r hr H locs ls h1 h2 h3
  · rw [if_neg c] at hr; exact kf c ok r hr H locs ls h1 h2 h3
theorem G_icmp_gt {x y : Int32} {off : Int} (tgt : Nat) {a b : Option β} (hd : decode (mcc mi) pc = .ok (.if_icmp .gt off, 3)) (ht : (pc : Int) + off = (tgt : Int)) (kt : y < x → G X ad mi φ tgt L st M a) (kf : ¬ y < x → G X ad mi φ (pc + 3) L st M b) : G X ad mi φ pc L (.int y :: .int x :: st) M (if y < x then a else b) := by
  intro ok r hr H locs ls h1 h2 h3
  refine lv_icmp_gt ok.hx ok.hb hd ht (fun c => ?_) (fun c => ?_)
  · rw [if_pos c] at hr; exact kt c ok r hr H locs ls h1 h2 h3
  · rw [if_neg c] at hr; exact kf c ok r hr H locs ls h1 h2 h3
theorem G_if_le {x : Int32} {off : Int} (tgt : Nat) {a b : Option β} (hd : decode (mcc mi) pc = .ok (.ifCond .le off, 3)) (ht : (pc : Int) + off = (tgt : Int)) (kt : x ≤ 0 → G X ad mi φ tgt L st M a) (kf : ¬ x ≤ 0 → G X ad mi φ (pc + 3) L st M b) : G X ad mi φ pc L (.int x :: st) M (if x ≤ 0 then a else b) := by
  intro ok r hr H locs ls h1 h2 h3
  refine lv_if_le ok.hx ok.hb hd ht (fun c => ?_) (fun c => ?_)
  · rw [if_pos c] at hr; exact kt c ok r hr H locs ls h1 h2 h3
  · rw [if_neg c] at hr; exact kf c ok r hr H locs ls h1 h2 h3
theorem G_icmp_le {x y : Int32} {off : Int} (tgt : Nat) {a b : Option β} (hd : decode (mcc mi) pc = .ok (.if_icmp .le off, 3)) (ht : (pc : Int) + off = (tgt : Int)) (kt : x ≤ y → G X ad mi φ tgt L st M a) (kf : ¬ x ≤ y → G X ad mi φ (pc + 3) L st M b) : G X ad mi φ pc L (.int y :: .int x :: st) M (if x ≤ y then a else b) := by
  intro ok r hr H locs ls h1 h2 h3
  refine lv_icmp_le ok.hx ok.hb hd ht (fun c => ?_) (fun c => ?_)
  · rw [if_pos c] at hr; exact kt c ok r hr H locs ls h1 h2 h3
  · rw [if_neg c] at hr; exact kf c ok r hr H locs ls h1 h2 h3
theorem G_goto {off : Int} (tgt : Nat) (hd : decode (mcc mi) pc = .ok (.goto off, 3)) (ht : (pc : Int) + off = (tgt : Int)) (K : G X ad mi φ tgt L st M o) : G X ad mi φ pc L st M o :=
  fun ok r hr H locs ls h1 h2 h3 => lv_goto ok.hx ok.hb hd ht (K ok r hr H locs ls h1 h2 h3)
theorem G_ifnonnull {x : Nat} {off : Int} (tgt : Nat) (hd : decode (mcc mi) pc = .ok (.ifnonnull off, 3)) (ht : (pc : Int) + off = (tgt : Int)) (K : G X ad mi φ tgt L st M o) : G X ad mi φ pc L (.ref x :: st) M o :=
  fun ok r hr H locs ls h1 h2 h3 => lv_ifnonnull ok.hx ok.hb hd ht (K ok r hr H locs ls h1 h2 h3)
theorem G_ifnull {x : Nat} {off : Int} (hd : decode (mcc mi) pc = .ok (.ifnull off, 3)) (K : G X ad mi φ (pc + 3) L st M o) : G X ad mi φ pc L (.ref x :: st) M o :=
  fun ok r hr H locs ls h1 h2 h3 => lv_ifnull ok.hx ok.hb hd (K ok r hr H locs ls h1 h2 h3)
theorem G_ldc {index : Nat} {v : Int32} (hc : Cond.constant (my mi).cls index v ∈ TB) (hd : decode (mcc mi) pc = .ok (.ldc index, 2)) (K : G X ad mi φ (pc + 2) L (.int v :: st) M o) : G X ad mi φ pc L st M o :=
  fun ok r hr H locs ls h1 h2 h3 => lv_ldc ok.hx ok.hb ok.hown (ok.hts _ hc) hd (K ok r hr H locs ls h1 h2 h3)
theorem G_ldc2 {index : Nat} {v : Int64} (hc : Cond.constantLong (my mi).cls index v ∈ TB) (hd : decode (mcc mi) pc = .ok (.ldc2_w index, 3)) (K : G X ad mi φ (pc + 3) L (.long v :: st) M o) : G X ad mi φ pc L st M o :=
  fun ok r hr H locs ls h1 h2 h3 => lv_ldc2 ok.hx ok.hb ok.hown (ok.hts _ hc) hd (K ok r hr H locs ls h1 h2 h3)
theorem G_tswIn {dflt lo hi : Int} {offs : Array Int} {len : Nat} {x : Int32} {off : Int} (v : Int32) (tgt : Nat) (hd : decode (mcc mi) pc = .ok (.tableswitch dflt lo hi offs, len)) (hx : x = v) (h1 : ¬ v.toInt < lo) (h2 : ¬ hi < v.toInt) (ho : offs[(v.toInt - lo).toNat]? = some off) (ht : (pc : Int) + off = (tgt : Int)) (K : G X ad mi φ tgt L st M o) : G X ad mi φ pc L (.int x :: st) M o := by
  subst hx
  exact fun ok r hr H locs ls a1 a2 a3 => lv_tableIn ok.hx ok.hb hd h1 h2 ho ht (K ok r hr H locs ls a1 a2 a3)
theorem G_tswOut {dflt lo hi : Int} {offs : Array Int} {len : Nat} {x : Int32} (tgt : Nat) (hd : decode (mcc mi) pc = .ok (.tableswitch dflt lo hi offs, len)) (h : x.toInt < lo ∨ hi < x.toInt) (ht : (pc : Int) + dflt = (tgt : Int)) (K : G X ad mi φ tgt L st M o) : G X ad mi φ pc L (.int x :: st) M o :=
  fun ok r hr H locs ls a1 a2 a3 => lv_tableOut ok.hx ok.hb hd h ht (K ok r hr H locs ls a1 a2 a3)
/-- what the names say of a class -/
def ClOk (ci : Nat) (C : String) (T : u_T) (N : Nat) : Prop := vwCl[ci]? = some (C, T, N) ∧ (∀ w ∈ u_ws C T N, w ∈ TB) ∧ (∀ a, a < N → ∀ b, b < N → a ≠ b → (T a).2.1 ≠ (T b).2.1) ∧ ∃ ty : Nat → FieldType, ∀ k, k < N → parseFieldDescriptor (T k).2.2.1 = some (ty k)
variable {C : String} {T : u_T} {N ci k j index : Nat} {fs : List (Option Nat)} {ref host : String}
theorem G_getI (hcl : ClOk ci C T N) (hk : k < 61) (ho : ob k = .inl (ci, fs)) (j : Nat) (hj : j < N) (hf : fs[j]? = some none) (hlink : Cond.fieldLink (my mi).cls index (T j).1 (T j).2.1 (T j).2.2.1 ∈ TB) (hd : decode (mcc mi) pc = .ok (.getfield index, 3)) (K : G X ad mi φ (pc + 3) L (.int (M k j) :: st) M o) : G X ad mi φ pc L (.ref (ad k) :: st) M o :=
  fun ok r hr H locs ls h1 h2 h3 => va_get ok.hx ok.hb ok.hts hcl.2.1 ok.hown ok.hK h2 k (by rw [wd_get hk, cel_obj ho]) hcl.1 j hj (ok.hts _ hlink) (fun _ h => h) (by have := fvs_int ad (M k) fs 0 j hf; rwa [Nat.zero_add] at this) hd (K ok r hr H locs ls h1 h2 h3)
theorem G_getR {q : Nat} (hcl : ClOk ci C T N) (hk : k < 61) (ho : ob k = .inl (ci, fs)) (j : Nat) (hj : j < N) (hf : fs[j]? = some (some q)) (hlink : Cond.fieldLink (my mi).cls index (T j).1 (T j).2.1 (T j).2.2.1 ∈ TB) (hd : decode (mcc mi) pc = .ok (.getfield index, 3)) (K : G X ad mi φ (pc + 3) L (.ref (ad q) :: st) M o) : G X ad mi φ pc L (.ref (ad k) :: st) M o :=
  fun ok r hr H locs ls h1 h2 h3 => va_get ok.hx ok.hb ok.hts hcl.2.1 ok.hown ok.hK h2 k (by rw [wd_get hk, cel_obj ho]) hcl.1 j hj (ok.hts _ hlink) (fun _ h => h) (fvs_ref ad (M k) fs 0 j q hf) hd (K ok r hr H locs ls h1 h2 h3)
theorem G_getIN (hcl : ClOk ci C T N) (hk : k < 61) (ho : ob k = .inl (ci, fs)) (j : Nat) (hj : j < N) (hf : fs[j]? = some none) (hlink : Cond.fieldLinkNest (my mi).cls index (T j).1 (T j).2.1 (T j).2.2.1 host ∈ NW) (hd : decode (mcc mi) pc = .ok (.getfield index, 3)) (K : G X ad mi φ (pc + 3) L (.int (M k j) :: st) M o) : G X ad mi φ pc L (.ref (ad k) :: st) M o :=
  fun ok r hr H locs ls h1 h2 h3 => va_getN ok.hx ok.hb ok.hts hcl.2.1 ok.hown ok.hK h2 k (by rw [wd_get hk, cel_obj ho]) hcl.1 j hj (va_Nw.use rfl (ok.hnw _ hlink)) (fun _ h => h) (by have := fvs_int ad (M k) fs 0 j hf; rwa [Nat.zero_add] at this) hd (K ok r hr H locs ls h1 h2 h3)
theorem G_getRN {q : Nat} (hcl : ClOk ci C T N) (hk : k < 61) (ho : ob k = .inl (ci, fs)) (j : Nat) (hj : j < N) (hf : fs[j]? = some (some q)) (hlink : Cond.fieldLinkNest (my mi).cls index (T j).1 (T j).2.1 (T j).2.2.1 host ∈ NW) (hd : decode (mcc mi) pc = .ok (.getfield index, 3)) (K : G X ad mi φ (pc + 3) L (.ref (ad q) :: st) M o) : G X ad mi φ pc L (.ref (ad k) :: st) M o :=
  fun ok r hr H locs ls h1 h2 h3 => va_getN ok.hx ok.hb ok.hts hcl.2.1 ok.hown ok.hK h2 k (by rw [wd_get hk, cel_obj ho]) hcl.1 j hj (va_Nw.use rfl (ok.hnw _ hlink)) (fun _ h => h) (fvs_ref ad (M k) fs 0 j q hf) hd (K ok r hr H locs ls h1 h2 h3)
theorem wd_put {cI cZ : ClassId} (hk : k < 61) (ho : ob k = .inl (ci, fs)) (hf : fs[j]? = some none) (v : Int32) : (wd ad cI cZ M).set k (ad k, .inr (ci, (fvs ad (M k) 0 fs).set j (.int v))) = wd ad cI cZ (st2 M k j v) := by
  refine wd_set hk ?_
  rw [cel_obj ho, fvs_set ad (M k) v fs 0 j hf, Nat.zero_add]
  simp [st2]
theorem G_put {v : Int32} {f : Mem → Option β} (hcl : ClOk ci C T N) (hk : k < 61) (ho : ob k = .inl (ci, fs)) (j : Nat) (hj : j < N) (hf : fs[j]? = some none) (hfin : (T j).2.2.2 = false) (hty : parseFieldDescriptor (T j).2.2.1 = some .int) (hlink : Cond.fieldLink (my mi).cls index (T j).1 (T j).2.1 (T j).2.2.1 ∈ TB) (hd : decode (mcc mi) pc = .ok (.putfield index, 3)) (K : ∀ M' : Mem, G X ad mi φ (pc + 3) L st M' (f M')) : G X ad mi φ pc L (.int v :: .ref (ad k) :: st) M (nm (st2 M k j v) f) := by
  intro ok r hr H locs ls h1 h2 h3
  obtain ⟨ty, hty0⟩ := hcl.2.2.2
  refine va_put ok.hx ok.hb ok.hts hcl.2.1 ty hty0 hcl.2.2.1 ok.hown ok.hK h2 ok.hD h3 k (by rw [wd_get hk, cel_obj ho]) hcl.1 j hj (ok.hts _ hlink) (fun _ h => h) hfin hty rfl rfl (by rw [fvs_len]; exact (List.getElem?_eq_some_iff.mp hf).1) hd (fun H1 locs1 a1 _ a3 => ?_)
  rw [wd_put hk ho hf v] at a1
  exact K _ ok r hr H1 locs1 ls h1 a1 a3
theorem G_putN {v : Int32} {f : Mem → Option β} (hcl : ClOk ci C T N) (hk : k < 61) (ho : ob k = .inl (ci, fs)) (j : Nat) (hj : j < N) (hf : fs[j]? = some none) (hfin : (T j).2.2.2 = false) (hty : parseFieldDescriptor (T j).2.2.1 = some .int) (hlink : Cond.fieldLinkNest (my mi).cls index (T j).1 (T j).2.1 (T j).2.2.1 host ∈ NW) (hd : decode (mcc mi) pc = .ok (.putfield index, 3)) (K : ∀ M' : Mem, G X ad mi φ (pc + 3) L st M' (f M')) : G X ad mi φ pc L (.int v :: .ref (ad k) :: st) M (nm (st2 M k j v) f) := by
  intro ok r hr H locs ls h1 h2 h3
  obtain ⟨ty, hty0⟩ := hcl.2.2.2
  refine va_putN ok.hx ok.hb ok.hts hcl.2.1 ty hty0 hcl.2.2.1 ok.hown ok.hK h2 ok.hD h3 k (by rw [wd_get hk, cel_obj ho]) hcl.1 j hj (va_Nw.use rfl (ok.hnw _ hlink)) (fun _ h => h) hfin hty rfl rfl (by rw [fvs_len]; exact (List.getElem?_eq_some_iff.mp hf).1) hd (fun H1 locs1 a1 _ a3 => ?_)
  rw [wd_put hk ho hf v] at a1
  exact K _ ok r hr H1 locs1 ls h1 a1 a3
theorem G_iald {n : Nat} {i : Int32} (hk : k < 61) (ho : ob k = .inr (n, false)) (hd : decode (mcc mi) pc = .ok (.iaload, 1)) (K : G X ad mi φ (pc + 1) L (.int (rd M k i) :: st) M o) : G X ad mi φ pc L (.int i :: .ref (ad k) :: st) M (if inb i n then o else none) := by
  intro ok r hr H locs ls h1 h2 h3
  by_cases hb : inb i n
  · rw [if_pos hb] at hr
    exact va_iald ok.hx ok.hb ok.hK h2 k 0 (by rw [wd_get hk, cel_arr ho]) rfl hb hd (K ok r hr H locs ls h1 h2 h3)
  · rw [if_neg hb] at hr; cases hr
theorem G_zald {n : Nat} {i : Int32} (hk : k < 61) (ho : ob k = .inr (n, true)) (hd : decode (mcc mi) pc = .ok (.baload, 1)) (K : G X ad mi φ (pc + 1) L (.int (rd M k i) :: st) M o) : G X ad mi φ pc L (.int i :: .ref (ad k) :: st) M (if inb i n then o else none) := by
  intro ok r hr H locs ls h1 h2 h3
  by_cases hb : inb i n
  · rw [if_pos hb] at hr
    exact va_zald ok.hx ok.hb ok.hK h2 k 1 (by rw [wd_get hk, cel_arrZ ho]) rfl hb hd (K ok r hr H locs ls h1 h2 h3)
  · rw [if_neg hb] at hr; cases hr
theorem G_iast {n : Nat} {i x : Int32} {f : Mem → Option β} (hk : k < 61) (ho : ob k = .inr (n, false)) (hd : decode (mcc mi) pc = .ok (.iastore, 1)) (K : ∀ M' : Mem, G X ad mi φ (pc + 1) L st M' (f M')) : G X ad mi φ pc L (.int x :: .int i :: .ref (ad k) :: st) M (if inb i n then nm (wr M k i x) f else none) := by
  intro ok r hr H locs ls h1 h2 h3
  by_cases hb : inb i n
  · rw [if_pos hb] at hr
    refine va_iast ok.hx ok.hb ok.hK h2 ok.hD h3 k 0 (by rw [wd_get hk, cel_arr ho]) rfl hb hd (fun H1 locs1 a1 _ a3 => ?_)
    rw [wd_set hk (v := x) (j := i.toNatClampNeg) (M := M) (by rw [cel_arr ho]; simp [st2])] at a1
    exact K _ ok r hr H1 locs1 ls h1 a1 a3
  · rw [if_neg hb] at hr; cases hr
theorem G_zast {n : Nat} {i x : Int32} {f : Mem → Option β} (hk : k < 61) (ho : ob k = .inr (n, true)) (hd : decode (mcc mi) pc = .ok (.bastore, 1)) (K : ∀ M' : Mem, G X ad mi φ (pc + 1) L st M' (f M')) : G X ad mi φ pc L (.int x :: .int i :: .ref (ad k) :: st) M (if inb i n then nm (wr M k i (bz x)) f else none) := by
  intro ok r hr H locs ls h1 h2 h3
  by_cases hb : inb i n
  · rw [if_pos hb] at hr
    refine va_zast ok.hx ok.hb ok.hK h2 ok.hD h3 k 1 (by rw [wd_get hk, cel_arrZ ho]) rfl hb hd (fun H1 locs1 a1 _ a3 => ?_)
    rw [wd_set hk (v := bz x) (j := i.toNatClampNeg) (M := M) (by rw [cel_arrZ ho]; simp [st2, bz, vp_nar, narrow])] at a1
    exact K _ ok r hr H1 locs1 ls h1 a1 a3
  · rw [if_neg hb] at hr; cases hr
theorem G_alen {n : Nat} (hk : k < 61) (ho : ob k = .inr (n, false)) (hd : decode (mcc mi) pc = .ok (.arraylength, 1)) (K : G X ad mi φ (pc + 1) L (.int (Int32.ofNat n) :: st) M o) : G X ad mi φ pc L (.ref (ad k) :: st) M o :=
  fun ok r hr H locs ls h1 h2 h3 => va_alen ok.hx ok.hb ok.hK h2 k 0 (by rw [wd_get hk, cel_arr ho]) (ty := .int) rfl rfl hd (K ok r hr H locs ls h1 h2 h3)
end GR
section RET
variable {p : Program} {l : Launch} {e : Env} {R : Room} {s : State} {m : MethodId} {args : Array Value} {below : List Frame} {meth : Method} {c : Code} {H : Heap} {locs : List Loc} {cells slots : Nat} {Q : State → Prop}
theorem W_zret {cc : ByteArray} {Qc : Array Value → State → Outcome → State → Prop} {free : Addr → Prop} {v : Int32} (hexec : p.tables.exec = Jvm.exec) (hb : c.code = cc) (hr : meth.sig.returnType = some .boolean)
    (hq : ∀ t : State, t.heap = H → s.WarmedH t.vm → Qc args s (.returned (some (.int (bz v)))) t) (hf : ∀ q ∈ locs, free q.base)
    {pc : Nat} {ls : Array Slot} (hdg : decode cc pc = .ok (.ireturn, 1)) (hlocks : meth.locks = false) : W p l e R s m args below meth c H locs cells slots (MQ below Qc args s cells slots free) (F0 m pc ls [.int v]) := by
  intro T hT X
  have hlocks : meth.locks = false := hlocks
  obtain ⟨fs, hret, hrun, hended, hW, hframe⟩ := X.leave (v := some (.int (bz v))) (fun h => by rw [hr] at h; cases h)
  have hmeth' : T.vm.method? m = some meth := X.method'
  have hn : narrow .boolean (.int v) = .int (bz v) := rfl
  refine ⟨T.setFrames fs, ?_, .returned (some (.int (bz v))), hrun, hended, hq _ hT hW, locs, ⟨⟨_, rfl⟩, hW, hframe⟩, hf⟩
  jvm_step X.here [X.here.top, hexec, hb, hdg, hmeth', hr, hn]
  (try refine ⟨rfl, ?_⟩); (try refine ⟨rfl, ?_⟩)
  first | (intro acts; rw [hret _ acts rfl rfl rfl]) | rw [hret _ _ rfl rfl rfl]
  exact Steps.refl _
theorem W_callw {D : va_G} {ad : Nat → Nat} {cI cZ : ClassId} {A : Nat → Prop} {pc : Nat} {ls : Array Slot} {rest st0 : List Value} {a : Array Value} {r : Option Value × Mem} (hr : va_Run p l e R s m args below meth c H locs cells slots 0 0 (F0 m pc ls st0) rest (Qw ad D cI cZ (Aw ad) r a) (Aw ad)) (hS : va_S A s.heap H locs) (hA : ∀ q, Aw ad q → A q)
    (kk : ∀ (H1 : Heap) (locs1 : List Loc), va_P D vwCl (wd ad cI cZ r.2) H1 → va_S A s.heap H1 locs1 → W p l e R s m args below meth c H1 locs1 cells slots Q (F0 m (pc + 3) ls (r.1.toList ++ rest))) : W p l e R s m args below meth c H locs cells slots Q (F0 m pc ls st0) := by
  intro T hT X
  obtain ⟨v, st₀, t, T', Lc, h0, X', hL, e1, e2, ⟨⟨hv, hP⟩, hz, hk⟩, st⟩ := hr T hT X
  injection hv with hv
  subst hv
  rw [h0] at hz hk
  obtain ⟨t2, a1, b1⟩ := kk T'.heap (locs ++ Lc) (by rw [e1]; exact hP)
    ⟨Nat.le_trans hS.1 (by rw [e1]; exact hz), fun q h1 h2 => by rw [e1, hk q (Nat.lt_of_lt_of_le h1 hS.1) (fun z => h2 (hA q z))]; exact hS.2.1 q h1 h2, fun q hq => by
      rcases List.mem_append.mp hq with h | h
      · exact hS.2.2 q h
      · exact hA _ (hL q h)⟩ T' rfl X'
  exact ⟨t2, st t2 a1, b1⟩
end RET
theorem Bw_blind {ad : Nat → Nat} {D : va_G} {cI cZ : ClassId} {M : Mem} {av : List Value} : FrameBlind (va_Pc av (Bw ad D cI cZ M)) := fun a U g mk q => by
  obtain ⟨q0, q1, q2, q3, q4⟩ := q
  exact ⟨q0, q1, va_K.moved (u := U) (U := U.calling g mk a) (Vm.Alike.refl U.vm) q2, q3, fun w hw => va_Nw.same (u := U) (U := U.calling g mk a) (nest_on w (List.mem_filter.mp hw).2) rfl (q4 w hw)⟩
/-- what a caller needs to know of a method -/
def CalOk (mi : Mi) (n : Nat) : Prop := Cond.code (my mi) (mcc mi) (mnL mi) (mret mi) ∈ TB ∧ Cond.initialized (my mi).cls ∈ TB ∧ ((my mi).cls ≠ "java/lang/invoke/MethodHandle" ∧ (my mi).cls ≠ "java/lang/invoke/VarHandle") ∧ (parseMethodDescriptor (my mi).desc).map (fun d => d.parameters.length) = some n
def CalV (mi : Mi) (n : Nat) : Prop := CalOk mi n ∧ Cond.instanceMethod (my mi) ∈ TB ∧ Cond.selects (my mi).cls (my mi) (my mi) ∈ TB
def CalS (mi : Mi) (n : Nat) : Prop := CalOk mi n ∧ Cond.static (my mi) ∈ TB
section CALL
variable {β β' : Type} {X : Cx} {ad : Nat → Nat} {mi mj : Mi} {φ : β → Option Value × Mem} {φ' : β' → Option Value × Mem} {pc n index : Nat} {L : List (Nat × Value)} {st stk : List Value} {M : Mem} {o' : Option β'} {f : β' → Option β} {as : (Nat → Nat) → List Value} {C : String} {T : u_T} {N ci k : Nat} {fs : List (Option Nat)} {host : String}
abbrev RoomOk (mi mj : Mi) : Prop := mfr mj + 1 ≤ mfr mi ∧ 8 + (mnL mj + 11) + mlo mj ≤ mlo mi
theorem call_ws (hc : CalOk mj n) : GoodIn TB (mws mj) := fun w hw => by
  rcases List.mem_cons.mp hw with rfl | h
  · exact TB_good _ hc.1
  · exact TB_good _ h
theorem call_cb (ok : Ok X ad mi) (hc : CalOk mj n) (hr : RoomOk mi mj) (hl : Cond.methodLink (my mi).cls index (my mj) ∈ TB) : CallB (xR X) (xS X) (xG X) (my mi).cls index (my mj) (mcc mj) (mnL mj) (mret mj) (mws mj) (mrm mj) 0 0 n := by
  obtain ⟨h1, h2, h3, h4⟩ := hc
  refine ⟨rfl, rfl, by rw [ok.hR.1]; exact hr.1, by rw [ok.hR.2.1]; exact hr.2, pay_in ok.hts (call_ws (n := n) ⟨h1, h2, h3, h4⟩), List.mem_cons_self, ok.hts _ h1, ok.hts _ h2, h3, fun sig h => ?_, ok.hts _ hl⟩
  rw [h] at h4
  exact (Option.some.inj h4).symm
theorem call_cn (ok : Ok X ad mi) (hc : CalOk mj n) (hr : RoomOk mi mj) (hl : Cond.methodLinkNest (my mi).cls index (my mj) host ∈ NW) : va_CN (xR X) (xS X) (xG X) (my mi).cls index (my mj) host (mcc mj) (mnL mj) (mret mj) (mws mj) (mrm mj) 0 0 n := by
  obtain ⟨h1, h2, h3, h4⟩ := hc
  refine ⟨⟨rfl, rfl, by rw [ok.hR.1]; exact hr.1, by rw [ok.hR.2.1]; exact hr.2, pay_in ok.hts (call_ws (n := n) ⟨h1, h2, h3, h4⟩), List.mem_cons_self⟩, ok.hts _ h1, ok.hts _ h2, h3, fun sig h => ?_, va_Nw.use rfl (ok.hnw _ hl)⟩
  rw [h] at h4
  exact (Option.some.inj h4).symm
theorem call_pre (ok : Ok X ad mi) {H : Heap} {As : List Value} (h2 : va_P (xD X) vwCl (wd ad (xI X) (xZ X) M) H) (U : State) (hU : U.heap = H) (hW : (xS X).WarmedH U.vm) : Bw ad (xD X) (xI X) (xZ X) M U :=
  ⟨by rw [hU]; exact h2, va_K.moved hW.alike ok.hK, ok.hin, fun w hw => nest_warm hW w (List.mem_filter.mp hw).2 (ok.hnw w hw)⟩
theorem G_callV (hM : MC mj φ' as M o') (hc : CalV mj n) (hr : RoomOk mi mj) (hl : Cond.methodLink (my mi).cls index (my mj) ∈ TB) (hcl : ClOk ci (my mj).cls T N) (hk : k < 61) (ho : ob k = .inl (ci, fs)) (As : List Value) (has : as ad = .ref (ad k) :: As) (hn : As.length = n) (hst : stk = As.reverse ++ .ref (ad k) :: st) (hcat : (st.map fun v => v.category).sum ≤ 8) (hd : decode (mcc mi) pc = .ok (.invokevirtual index, 3))
    (K : ∀ r, G X ad mi φ (pc + 3) L ((φ' r).1.toList ++ st) (φ' r).2 (f r)) : G X ad mi φ pc L stk M (Option.bind o' f) := by
  subst hst
  intro ok r hr' H locs ls h1 h2 h3
  cases ho' : o' with
  | none => rw [ho'] at hr'; cases hr'
  | some r' =>
    rw [ho'] at hr'
    have hMet := hM (xL X) ad (xD X) (xI X) (xZ X) r' ho'
    have hrun := va_runV (H := H) (locs := locs) (cells := xK X) (slots := xN X) (e := xE X) (meth := xMe X) (below := xB X) (As := As) (rest := st) (b := ad k) (C := (my mj).cls) (g := F0 (xM X) pc ls (As.reverse ++ .ref (ad k) :: st)) ⟨ok.hx, ok.hb, ok.hml, ok.hown, ok.hts⟩ hMet ⟨call_cb ok hc.1 hr hl, ok.hts _ hc.2.1, ok.hts _ hc.2.2⟩ ⟨Bw_blind, va_recv (q := ((my mj).cls, T, N)) ok.hK h2 hcl.1 (by rw [wd_get hk, cel_obj ho]), fun U hU hW => ⟨by rw [has], call_pre ok (As := As) h2 U hU hW⟩⟩ rfl hn h1.1 rfl (lv_room hcat) hd ⟨ok.hR.2.2.1, ok.hR.2.2.2⟩
    exact W_callw hrun h3 ok.hA (fun H1 locs1 a1 a2 => K r' ok r hr' H1 locs1 ls h1 a1 a2)
theorem G_callVN (hM : MC mj φ' as M o') (hc : CalV mj n) (hr : RoomOk mi mj) (hl : Cond.methodLinkNest (my mi).cls index (my mj) host ∈ NW) (hcl : ClOk ci (my mj).cls T N) (hk : k < 61) (ho : ob k = .inl (ci, fs)) (As : List Value) (has : as ad = .ref (ad k) :: As) (hn : As.length = n) (hst : stk = As.reverse ++ .ref (ad k) :: st) (hcat : (st.map fun v => v.category).sum ≤ 8) (hd : decode (mcc mi) pc = .ok (.invokevirtual index, 3))
    (K : ∀ r, G X ad mi φ (pc + 3) L ((φ' r).1.toList ++ st) (φ' r).2 (f r)) : G X ad mi φ pc L stk M (Option.bind o' f) := by
  subst hst
  intro ok r hr' H locs ls h1 h2 h3
  cases ho' : o' with
  | none => rw [ho'] at hr'; cases hr'
  | some r' =>
    rw [ho'] at hr'
    have hMet := hM (xL X) ad (xD X) (xI X) (xZ X) r' ho'
    have hrun := va_runVN (H := H) (locs := locs) (cells := xK X) (slots := xN X) (e := xE X) (meth := xMe X) (below := xB X) (As := As) (rest := st) (b := ad k) (C := (my mj).cls) (g := F0 (xM X) pc ls (As.reverse ++ .ref (ad k) :: st)) ⟨ok.hx, ok.hb, ok.hml, ok.hown, ok.hts⟩ hMet ⟨call_cn ok hc.1 hr hl, ok.hts _ hc.2.1, ok.hts _ hc.2.2⟩ ⟨Bw_blind, va_recv (q := ((my mj).cls, T, N)) ok.hK h2 hcl.1 (by rw [wd_get hk, cel_obj ho]), fun U hU hW => ⟨by rw [has], call_pre ok (As := As) h2 U hU hW⟩⟩ rfl hn h1.1 rfl (lv_room hcat) hd ⟨ok.hR.2.2.1, ok.hR.2.2.2⟩
    exact W_callw hrun h3 ok.hA (fun H1 locs1 a1 a2 => K r' ok r hr' H1 locs1 ls h1 a1 a2)
theorem G_callS (hM : MC mj φ' as M o') (hc : CalS mj n) (hr : RoomOk mi mj) (hl : Cond.methodLink (my mi).cls index (my mj) ∈ TB) (hn : (as ad).length = n) (hst : stk = (as ad).reverse ++ st) (hcat : (st.map fun v => v.category).sum ≤ 8) (hd : decode (mcc mi) pc = .ok (.invokestatic index, 3))
    (K : ∀ r, G X ad mi φ (pc + 3) L ((φ' r).1.toList ++ st) (φ' r).2 (f r)) : G X ad mi φ pc L stk M (Option.bind o' f) := by
  subst hst
  intro ok r hr' H locs ls h1 h2 h3
  cases ho' : o' with
  | none => rw [ho'] at hr'; cases hr'
  | some r' =>
    rw [ho'] at hr'
    have hMet := hM (xL X) ad (xD X) (xI X) (xZ X) r' ho'
    have hrun := va_runS (H := H) (locs := locs) (cells := xK X) (slots := xN X) (e := xE X) (meth := xMe X) (below := xB X) (As := as ad) (rest := st) (g := F0 (xM X) pc ls ((as ad).reverse ++ st)) ⟨ok.hx, ok.hb, ok.hml, ok.hown, ok.hts⟩ hMet ⟨call_cb ok hc.1 hr hl, ok.hts _ hc.2⟩ ⟨Bw_blind, fun U hU hW => ⟨rfl, call_pre ok (As := as ad) h2 U hU hW⟩⟩ rfl hn h1.1 rfl (lv_room hcat) hd ⟨ok.hR.2.2.1, ok.hR.2.2.2⟩
    exact W_callw hrun h3 ok.hA (fun H1 locs1 a1 a2 => K r' ok r hr' H1 locs1 ls h1 a1 a2)
theorem G_callSN (hM : MC mj φ' as M o') (hc : CalS mj n) (hr : RoomOk mi mj) (hl : Cond.methodLinkNest (my mi).cls index (my mj) host ∈ NW) (hn : (as ad).length = n) (hst : stk = (as ad).reverse ++ st) (hcat : (st.map fun v => v.category).sum ≤ 8) (hd : decode (mcc mi) pc = .ok (.invokestatic index, 3))
    (K : ∀ r, G X ad mi φ (pc + 3) L ((φ' r).1.toList ++ st) (φ' r).2 (f r)) : G X ad mi φ pc L stk M (Option.bind o' f) := by
  subst hst
  intro ok r hr' H locs ls h1 h2 h3
  cases ho' : o' with
  | none => rw [ho'] at hr'; cases hr'
  | some r' =>
    rw [ho'] at hr'
    have hMet := hM (xL X) ad (xD X) (xI X) (xZ X) r' ho'
    have hrun := va_runSN (H := H) (locs := locs) (cells := xK X) (slots := xN X) (e := xE X) (meth := xMe X) (below := xB X) (As := as ad) (rest := st) (g := F0 (xM X) pc ls ((as ad).reverse ++ st)) ⟨ok.hx, ok.hb, ok.hml, ok.hown, ok.hts⟩ hMet ⟨call_cn ok hc.1 hr hl, ok.hts _ hc.2, trivial⟩ ⟨Bw_blind, fun U hU hW => ⟨rfl, call_pre ok (As := as ad) h2 U hU hW⟩⟩ rfl hn h1.1 rfl (lv_room hcat) hd ⟨ok.hR.2.2.1, ok.hR.2.2.2⟩
    exact W_callw hrun h3 ok.hA (fun H1 locs1 a1 a2 => K r' ok r hr' H1 locs1 ls h1 a1 a2)
theorem G_ireturn {v : Int32} {x : β} (hM : mi.1 = true) (hret : mret mi = some .int) (hd : decode (mcc mi) pc = .ok (.ireturn, 1)) (hφ : φ x = (some (.int v), M)) : G X ad mi φ pc L [.int v] M (some x) := by
  intro ok r hr H locs ls h1 h2 h3
  cases hr
  rw [ok.hQ hM, hφ]
  exact W.iret ok.hx ok.hb (ok.hr.trans hret) (fun t ht _ => ⟨⟨rfl, by rw [ht]; exact h2⟩, h3.F ht⟩) h3.2.2 hd ok.hlk
theorem G_zreturn {v : Int32} {x : β} (hM : mi.1 = true) (hret : mret mi = some .boolean) (hd : decode (mcc mi) pc = .ok (.ireturn, 1)) (hφ : φ x = (some (.int (bz v)), M)) : G X ad mi φ pc L [.int v] M (some x) := by
  intro ok r hr H locs ls h1 h2 h3
  cases hr
  rw [ok.hQ hM, hφ]
  exact W_zret ok.hx ok.hb (ok.hr.trans hret) (fun t ht _ => ⟨⟨rfl, by rw [ht]; exact h2⟩, h3.F ht⟩) h3.2.2 hd ok.hlk
theorem G_lreturn {v : Int64} {x : β} (hM : mi.1 = true) (hret : mret mi = some .long) (hd : decode (mcc mi) pc = .ok (.lreturn, 1)) (hφ : φ x = (some (.long v), M)) : G X ad mi φ pc L [.long v] M (some x) := by
  intro ok r hr H locs ls h1 h2 h3
  cases hr
  rw [ok.hQ hM, hφ]
  exact W.lret ok.hx ok.hb (ok.hr.trans hret) (fun t ht _ => ⟨⟨rfl, by rw [ht]; exact h2⟩, h3.F ht⟩) h3.2.2 hd ok.hlk
theorem G_return {x : β} (hM : mi.1 = true) (hret : mret mi = none) (hd : decode (mcc mi) pc = .ok (.return_, 1)) (hφ : φ x = (none, M)) : G X ad mi φ pc L [] M (some x) := by
  intro ok r hr H locs ls h1 h2 h3
  cases hr
  rw [ok.hQ hM, hφ]
  exact W.vret ok.hx ok.hb (ok.hr.trans hret) (fun t ht _ => ⟨⟨rfl, by rw [ht]; exact h2⟩, h3.F ht⟩) h3.2.2 hd ok.hlk
end CALL
end
section
/-! printed by wip/whole/gen.py: what each method does, as a pure function -/
abbrev φI (M : Mem) : Int32 → Option Value × Mem := fun r => (some (.int r), M)
abbrev φL (M : Mem) : Int64 → Option Value × Mem := fun r => (some (.long r), M)
abbrev φIM : Int32 × Mem → Option Value × Mem := fun r => (some (.int r.1), r.2)
abbrev φV : Mem → Option Value × Mem := fun M => (none, M)
def bnd2 {β : Type} (o : Option (Int32 × Mem)) (f : Int32 → Mem → Option β) : Option β := Option.bind o fun q => f q.1 q.2
def SP_at (k0 : Nat) (v1 : Int32) (M : Mem) : Option Int32 :=
  if v1 < 0 then some 0 else if (Int32.ofNat (aln k0)) ≤ v1 then some 0 else if inb v1 (aln k0) then some (rd M k0 v1) else none
def SP_put (k0 : Nat) (v1 : Int32) (v2 : Int32) (M : Mem) : Option Mem :=
  if v1 < 0 then some M else if (Int32.ofNat (aln k0)) ≤ v1 then some M else if inb v1 (aln k0) then nm (wr M k0 v1 v2) fun (M1 : Mem) => some M1 else none
def SP_refuse (v1 : Int32) (M : Mem) : Option (Int32 × Mem) :=
  Option.bind (SP_at 32 (-v1) M) fun r_1 => Option.bind (SP_put 32 (-v1) (r_1 + 1) M) fun M1 => some (v1, M1)
def Td_drain (k0 : Nat) (M : Mem) : Option Mem :=
  nm (st2 M k0 1 0) fun (M1 : Mem) => some M1
def SP_wipe_L7 (k0 : Nat) (kx : Mem → Option Mem) (ag : (Int32 × Mem) → Option Mem) (v1_1 : Int32) (M1 : Mem) : Option Mem :=
  if (Int32.ofNat (aln k0)) ≤ v1_1 then kx M1 else if inb v1_1 (aln k0) then nm (wr M1 k0 v1_1 0) fun (M2 : Mem) => ag (v1_1 + 1, M2) else none
def SP_wipe (k0 : Nat) (M : Mem) : Option Mem :=
  LOOP (fun aq sq => SP_wipe_L7 k0 (fun (M3 : Mem) => some M3) aq sq.1 sq.2) FU (0, M)
def To_settle (v1 : Int32) (M : Mem) : Option Mem :=
  nm (st2 M 1 2 v1) fun (M1 : Mem) => Option.bind (SP_wipe 2 M1) fun M2 => some M2
def SP_persons (v1 : Int32) (M : Mem) : Option (Int32 × Mem) :=
  if 1 ≤ v1 then if v1 ≤ 7 then nm (M 1 2) fun (v2_1 : Int32) => Option.bind (To_settle v1 M) fun M1 => Option.bind (Td_drain 4 M1) fun M2 => nm (st2 M2 10 3 0) fun (M3 : Mem) => some (v2_1, M3) else bnd2 (SP_refuse (-6) M) fun r_1 M4 => some (r_1, M4) else bnd2 (SP_refuse (-4) M) fun r_2 M5 => some (r_2, M5)
def To_lives (v1 : Int32) (M : Mem) : Option Int32 :=
  if v1 < 0 then some 0 else if (M 1 2) ≤ v1 then some 0 else some 1
def SP_mark (v1 : Int32) (v2 : Int32) (M : Mem) : Option (Int32 × Mem) :=
  Option.bind (To_lives v1 M) fun r_1 => if r_1 = 0 then bnd2 (SP_refuse (-1) M) fun r_2 M1 => some (r_2, M1) else if 0 ≤ v2 then if v2 ≤ 3 then Option.bind (SP_at 2 v1 M) fun r_3 => Option.bind (SP_put 2 v1 v2 M) fun M2 => some (r_3, M2) else bnd2 (SP_refuse (-6) M) fun r_4 M3 => some (r_4, M3) else bnd2 (SP_refuse (-4) M) fun r_5 M4 => some (r_5, M4)
def SP_year (v1 : Int32) (M : Mem) : Option (Int32 × Mem) :=
  if 0 ≤ v1 then if v1 ≤ 100 then nm (M 0 12) fun (v2_1 : Int32) => nm (st2 M 0 12 v1) fun (M1 : Mem) => some (v2_1, M1) else bnd2 (SP_refuse (-6) M) fun r_1 M2 => some (r_1, M2) else bnd2 (SP_refuse (-4) M) fun r_2 M3 => some (r_2, M3)
def Ta_append (v1 : Int32) (M : Mem) : Option Mem :=
  if 60 ≤ (M 6 2) then some M else Option.bind (SP_put 7 (M 6 2) v1 M) fun M1 => nm (st2 M1 6 2 ((M1 6 2) + 1)) fun (M2 : Mem) => some M2
def SP_feed_L42 (v1_1 : Int32) (v2_1 : Int64) (kx : Mem → Option (Int32 × Mem)) (ag : (Int32 × Mem) → Option (Int32 × Mem)) (v4_1 : Int32) (M3 : Mem) : Option (Int32 × Mem) :=
  if v1_1 ≤ v4_1 then kx M3 else Option.bind (Ta_append ((((v2_1.toUInt64 >>> ((8 * v4_1).toInt64.toUInt64 &&& Int64.toUInt64 63)).toInt64).toInt32) &&& 255) M3) fun M4 => ag (v4_1 + 1, M4)
def SP_feed (v1 : Int32) (v2 : Int64) (M : Mem) : Option (Int32 × Mem) :=
  if 1 ≤ v1 then jp (fun (M1 : Mem) => bnd2 (SP_refuse (-6) M1) fun r_1 M2 => some (r_1, M2)) fun (k_1 : Mem → Option (Int32 × Mem)) => if 8 < v1 then k_1 M else if ((M 6 2) + v1) ≤ 60 then LOOP (fun aq sq => SP_feed_L42 v1 v2 (fun (M5 : Mem) => some (M5 6 2, M5)) aq sq.1 sq.2) FU (0, M) else k_1 M else bnd2 (SP_refuse (-4) M) fun r_2 M6 => some (r_2, M6)
def Td_field (k0 : Nat) (v1 : Int32) (v2 : Int32) (M : Mem) : Option Int32 :=
  Option.bind (SP_at (k0 + 1) ((v1 * 6) + v2) M) fun r_1 => some r_1
def Ta_drafted (v1 : Int32) (M : Mem) : Option Int32 :=
  Option.bind (Td_field 8 (M 8 1) v1 M) fun r_1 => some r_1
def Ta_here (M : Mem) : Option Int32 :=
  if (M 6 2) ≤ (M 6 3) then some (-1) else Option.bind (SP_at 7 (M 6 3) M) fun r_1 => some r_1
def Td_draft (k0 : Nat) (v1 : Int32) (v2 : Int32) (M : Mem) : Option Mem :=
  Option.bind (SP_put (k0 + 1) (((M k0 1) * 6) + v1) v2 M) fun M1 => some M1
def Ta_readInto (v1 : Int32) (v2 : Int32) (v3 : Int32) (v4 : Int32) (M : Mem) : Option (Int32 × Mem) :=
  Option.bind (Ta_here M) fun r_1 => if r_1 < v2 then some (0, M) else if r_1 ≤ v3 then Option.bind (Td_draft 8 v1 (r_1 - v4) M) fun M1 => nm (st2 M1 6 3 ((M1 6 3) + 1)) fun (M2 : Mem) => some (1, M2) else some (0, M)
def Ta_readPerson (v1 : Int32) (M : Mem) : Option (Int32 × Mem) :=
  bnd2 (Ta_readInto v1 97 ((97 + (M 6 4)) - 1) 97 M) fun r_1 M1 => some (bz r_1, M1)
def Ta_skip (v1 : Int32) (M : Mem) : Option (Int32 × Mem) :=
  Option.bind (Ta_here M) fun r_1 => if r_1 = v1 then nm (st2 M 6 3 ((M 6 3) + 1)) fun (M1 : Mem) => some (1, M1) else some (0, M)
def Ta_readStrength (M : Mem) : Option (Int32 × Mem) :=
  bnd2 (Ta_skip 42 M) fun r_1 M1 => if r_1 = 0 then some (1, M1) else bnd2 (Ta_readInto 3 49 57 48 M1) fun r_2 M2 => if r_2 = 0 then some (0, M2) else some (1, M2)
def Ta_readYear_L8 (v3_2 : Int32) (kx : Int32 → Mem → Option (Int32 × Mem)) (ag : (Int32 × Mem) → Option (Int32 × Mem)) (v4_1 : Int32) (M1 : Mem) : Option (Int32 × Mem) :=
  if 3 ≤ ((M1 6 3) - v3_2) then kx v4_1 M1 else Option.bind (Ta_here M1) fun r_1 => if r_1 < 48 then kx v4_1 M1 else Option.bind (Ta_here M1) fun r_2 => if 57 < r_2 then kx v4_1 M1 else Option.bind (Ta_here M1) fun r_3 => nm (((v4_1 * 10) + r_3) - 48) fun (v4_2 : Int32) => nm (st2 M1 6 3 ((M1 6 3) + 1)) fun (M2 : Mem) => ag (v4_2, M2)
def Ta_readYear (v1 : Int32) (v2 : Int32) (M : Mem) : Option (Int32 × Mem) :=
  nm (M 6 3) fun (v3_1 : Int32) => LOOP (fun aq sq => Ta_readYear_L8 v3_1 (fun (v4_3 : Int32) (M3 : Mem) => if (M3 6 3) = v3_1 then some (0, M3) else if 100 < v4_3 then nm (st2 M3 6 3 v3_1) fun (M4 : Mem) => some (0, M4) else if v2 < v4_3 then Option.bind (Td_draft 8 v1 v4_3 M3) fun M5 => some (1, M5) else nm (st2 M3 6 3 v3_1) fun (M6 : Mem) => some (0, M6)) aq sq.1 sq.2) FU (0, M)
def Ta_readYears (M : Mem) : Option (Int32 × Mem) :=
  bnd2 (Ta_skip 64 M) fun r_1 M1 => if r_1 = 0 then some (1, M1) else bnd2 (Ta_readYear 4 (-1) M1) fun r_2 M2 => if r_2 = 0 then some (0, M2) else bnd2 (Ta_skip 45 M2) fun r_3 M3 => if r_3 = 0 then some (0, M3) else Option.bind (Ta_drafted 4 M3) fun r_4 => bnd2 (Ta_readYear 5 r_4 M3) fun r_5 M4 => if r_5 = 0 then some (0, M4) else some (1, M4)
def Ta_readTie (M : Mem) : Option (Int32 × Mem) :=
  Option.bind (Td_draft 8 3 1 M) fun M1 => Option.bind (Td_draft 8 4 0 M1) fun M2 => Option.bind (Td_draft 8 5 100 M2) fun M3 => bnd2 (Ta_readPerson 0 M3) fun r_1 M4 => if r_1 = 0 then some (0, M4) else bnd2 (Ta_skip 62 M4) fun r_2 M5 => if r_2 = 0 then some (0, M5) else Option.bind (Ta_here M5) fun r_3 => Option.bind (Ta_drafted 0 M5) fun r_4 => if r_3 = (97 + r_4) then some (0, M5) else bnd2 (Ta_readPerson 1 M5) fun r_5 M6 => if r_5 = 0 then some (0, M6) else bnd2 (Ta_readInto 2 48 50 48 M6) fun r_6 M7 => if r_6 = 0 then some (0, M7) else bnd2 (Ta_readStrength M7) fun r_7 M8 => if r_7 = 0 then some (0, M8) else bnd2 (Ta_readYears M8) fun r_8 M9 => if r_8 = 0 then some (0, M9) else some (1, M9)
def Td_endDraft (k0 : Nat) (M : Mem) : Option Mem :=
  if 60 ≤ (M k0 1) then some M else nm (st2 M k0 1 ((M k0 1) + 1)) fun (M1 : Mem) => some M1
def Ta_readAll_L21 (kx : Mem → Option (Int32 × Mem)) (ag : (Int32 × Int32 × Mem) → Option (Int32 × Mem)) (v2_1 : Int32) (v3_1 : Int32) (M4 : Mem) : Option (Int32 × Mem) :=
  if 60 < v3_1 then kx M4 else if v2_1 = 0 then kx M4 else bnd2 (Ta_readTie M4) fun r_1 M5 => if r_1 = 0 then some (0, M5) else Option.bind (Td_endDraft 8 M5) fun M6 => bnd2 (Ta_skip 59 M6) fun r_2 M7 => ag (r_2, v3_1 + 1, M7)
def Ta_readAll (v1 : Int32) (M : Mem) : Option (Int32 × Mem) :=
  nm (st2 M 6 4 v1) fun (M1 : Mem) => nm (st2 M1 6 3 0) fun (M2 : Mem) => Option.bind (Td_drain 8 M2) fun M3 => LOOP (fun aq sq => Ta_readAll_L21 (fun (M8 : Mem) => if (M8 6 3) = (M8 6 2) then some (1, M8) else some (0, M8)) aq sq.1 sq.2.1 sq.2.2) FU (1, 0, M3)
def Td_takeAll_L12 (v2_2 : Int32) (kx : Mem → Option Mem) (ag : (Int32 × Mem) → Option Mem) (v3_1 : Int32) (M2 : Mem) : Option Mem :=
  if 6 ≤ v3_1 then kx M2 else Option.bind (Td_field 8 v2_2 v3_1 M2) fun r_1 => Option.bind (Td_draft 4 v3_1 r_1 M2) fun M3 => ag (v3_1 + 1, M3)
def Td_takeAll_L2 (kx : Mem → Option Mem) (ag : (Int32 × Mem) → Option Mem) (v2_1 : Int32) (M1 : Mem) : Option Mem :=
  if (M1 8 1) ≤ v2_1 then kx M1 else LOOP (fun aq sq => Td_takeAll_L12 v2_1 (fun (M4 : Mem) => Option.bind (Td_endDraft 4 M4) fun M5 => ag (v2_1 + 1, M5)) aq sq.1 sq.2) FU (0, M1)
def Td_takeAll (M : Mem) : Option Mem :=
  LOOP (fun aq sq => Td_takeAll_L2 (fun (M6 : Mem) => some M6) aq sq.1 sq.2) FU (0, M)
def SP_ties (M : Mem) : Option (Int32 × Mem) :=
  bnd2 (Ta_readAll (M 1 2) M) fun r_1 M1 => nm (st2 M1 6 2 0) fun (M2 : Mem) => if r_1 = 0 then some ((-20) - (M2 6 3), M2) else if ((M2 4 1) + (M2 8 1)) ≤ 60 then Option.bind (Td_takeAll M2) fun M3 => some (M3 4 1, M3) else bnd2 (SP_refuse (-6) M2) fun r_2 M4 => some (r_2, M4)
def Td_drop_L5 (kx : Mem → Option Mem) (ag : (Int32 × Mem) → Option Mem) (v2_2 : Int32) (M1 : Mem) : Option Mem :=
  if (((M1 4 1) - 1) * 6) ≤ v2_2 then kx M1 else Option.bind (SP_at 5 (v2_2 + 6) M1) fun r_1 => Option.bind (SP_put 5 v2_2 r_1 M1) fun M2 => ag (v2_2 + 1, M2)
def Td_drop (v1 : Int32) (M : Mem) : Option Mem :=
  nm (v1 * 6) fun (v2_1 : Int32) => LOOP (fun aq sq => Td_drop_L5 (fun (M3 : Mem) => nm (st2 M3 4 1 ((M3 4 1) - 1)) fun (M4 : Mem) => some M4) aq sq.1 sq.2) FU (v2_1, M)
def SP_untie (v1 : Int32) (M : Mem) : Option (Int32 × Mem) :=
  jp (fun (M1 : Mem) => bnd2 (SP_refuse (-1) M1) fun r_1 M2 => some (r_1, M2)) fun (k_1 : Mem → Option (Int32 × Mem)) => if v1 < 0 then k_1 M else if v1 < (M 4 1) then Option.bind (Td_drop v1 M) fun M3 => some (1, M3) else k_1 M
def SP_isKind (v0 : Int32) : Option Int32 :=
  if v0 < 0 then some 0 else if 3 ≤ v0 then some 0 else some 1
def SP_cell (v0 : Int32) (v1 : Int32) (v2 : Int32) : Option Int32 :=
  some ((((v0 * 7) + v1) * 7) + v2)
def Td_draw_L9 (v2_1 : Int32) (kx : Mem → Option Mem) (ag : (Int32 × Mem) → Option Mem) (v3_1 : Int32) (M2 : Mem) : Option Mem :=
  if (M2 4 1) ≤ v3_1 then kx M2 else Option.bind (Td_field 4 v3_1 4 M2) fun r_1 => if v2_1 < r_1 then ag (v3_1 + 1, M2) else Option.bind (Td_field 4 v3_1 5 M2) fun r_2 => if r_2 ≤ v2_1 then ag (v3_1 + 1, M2) else Option.bind (Td_field 4 v3_1 2 M2) fun r_3 => Option.bind (Td_field 4 v3_1 0 M2) fun r_4 => Option.bind (Td_field 4 v3_1 1 M2) fun r_5 => Option.bind (SP_cell r_3 r_4 r_5) fun r_6 => Option.bind (Td_field 4 v3_1 3 M2) fun r_7 => Option.bind (SP_put 3 r_6 r_7 M2) fun M3 => ag (v3_1 + 1, M3)
def Td_draw (v2 : Int32) (M : Mem) : Option Mem :=
  Option.bind (SP_wipe 3 M) fun M1 => LOOP (fun aq sq => Td_draw_L9 v2 (fun (M4 : Mem) => some M4) aq sq.1 sq.2) FU (0, M1)
def SP_lookAt (v1 : Int32) (M : Mem) : Option Mem :=
  Option.bind (Td_draw v1 M) fun M1 => some M1
def To_strength (v1 : Int32) (v2 : Int32) (v3 : Int32) (M : Mem) : Option Int32 :=
  nm ((((v1 * 7) + v2) * 7) + v3) fun (v4_1 : Int32) => if v4_1 < 0 then some 0 else if (Int32.ofNat 147) ≤ v4_1 then some 0 else if inb v4_1 147 then some (rd M 3 v4_1) else none
def SP_tie (v1 : Int32) (v2 : Int32) (v3 : Int32) (M : Mem) : Option (Int32 × Mem) :=
  Option.bind (SP_isKind v1) fun r_1 => jp (fun (M1 : Mem) => bnd2 (SP_refuse (-1) M1) fun r_2 M2 => some (r_2, M2)) fun (k_1 : Mem → Option (Int32 × Mem)) => if r_1 = 0 then k_1 M else Option.bind (To_lives v2 M) fun r_3 => if r_3 = 0 then k_1 M else Option.bind (To_lives v3 M) fun r_4 => if r_4 = 0 then k_1 M else if v2 = v3 then k_1 M else Option.bind (SP_lookAt (M 0 12) M) fun M3 => Option.bind (To_strength v1 v2 v3 M3) fun r_5 => some (r_5, M3)
def To_tied (v1 : Int32) (v2 : Int32) (v3 : Int32) (M : Mem) : Option Int32 :=
  Option.bind (To_strength v1 v2 v3 M) fun r_1 => if r_1 ≤ 0 then some 0 else some 1
def To_tiesOf_L6 (v1_1 : Int32) (v2_1 : Int32) (v3_1 : Int32) (M : Mem) (kx : Int32 → Option Int32) (ag : (Int32 × Int32) → Option Int32) (v4_1 : Int32) (v5_1 : Int32) : Option Int32 :=
  if (M 1 2) ≤ v5_1 then kx v4_1 else if v3_1 = 0 then Option.bind (To_tied v1_1 v2_1 v5_1 M) fun r_1 => if r_1 = 0 then ag (v4_1, v5_1 + 1) else ag (v4_1 + 1, v5_1 + 1) else Option.bind (To_tied v1_1 v5_1 v2_1 M) fun r_2 => if r_2 = 0 then ag (v4_1, v5_1 + 1) else ag (v4_1 + 1, v5_1 + 1)
def To_tiesOf (v1 : Int32) (v2 : Int32) (v3 : Int32) (M : Mem) : Option Int32 :=
  LOOP (fun aq sq => To_tiesOf_L6 v1 v2 v3 M (fun (v4_2 : Int32) => some v4_2) aq sq.1 sq.2) FU (0, 0)
def SP_degree (v1 : Int32) (v2 : Int32) (v3 : Int32) (M : Mem) : Option (Int32 × Mem) :=
  Option.bind (SP_isKind v1) fun r_1 => jp (fun (M1 : Mem) => bnd2 (SP_refuse (-1) M1) fun r_2 M2 => some (r_2, M2)) fun (k_1 : Mem → Option (Int32 × Mem)) => if r_1 = 0 then k_1 M else Option.bind (To_lives v2 M) fun r_3 => if r_3 = 0 then k_1 M else Option.bind (SP_lookAt (M 0 12) M) fun M3 => Option.bind (To_tiesOf v1 v2 v3 M3) fun r_4 => some (r_4, M3)
def Pa_of (k0 : Nat) (v1 : Int32) (M : Mem) : Option Int32 :=
  Option.bind (SP_at (k0 + 1) v1 M) fun r_1 => some r_1
def JM_max (v0 : Int32) (v1 : Int32) : Option Int32 :=
  if v0 < v1 then some v1 else some v0
def Pa_readNumber_L17 (k0 : Nat) (kx : Int32 → Mem → Option (Int32 × Mem)) (ag : (Int32 × Int32 × Mem) → Option (Int32 × Mem)) (v3_1 : Int32) (v4_2 : Int32) (M3 : Mem) : Option (Int32 × Mem) :=
  if v4_2 < 0 then kx v3_1 M3 else Option.bind (SP_put (k0 + 1) v4_2 (jrem v3_1 10) M3) fun M4 => nm (v3_1 / 10) fun (v3_2 : Int32) => ag (v3_2, v4_2 + (-1), M4)
def Pa_readNumber_L59 (k0 : Nat) (v2_2 : Int32) (kx : Mem → Option (Int32 × Mem)) (ag : (Int32 × Mem) → Option (Int32 × Mem)) (v4_3 : Int32) (M6 : Mem) : Option (Int32 × Mem) :=
  if v2_2 ≤ v4_3 then kx M6 else Option.bind (Pa_of k0 v4_3 M6) fun r_1 => if r_1 ≤ (M6 k0 2) then Option.bind (Pa_of k0 v4_3 M6) fun r_2 => Option.bind (JM_max (M6 k0 2) (r_2 + 1)) fun r_3 => nm (st2 M6 k0 2 r_3) fun (M7 : Mem) => ag (v4_3 + 1, M7) else some (0, M6)
def Pa_readNumber (k0 : Nat) (v1 : Int32) (v2 : Int32) (M : Mem) : Option (Int32 × Mem) :=
  nm (st2 M k0 1 v2) fun (M1 : Mem) => nm (st2 M1 k0 2 0) fun (M2 : Mem) => nm (v2 - 1) fun (v4_1 : Int32) => LOOP (fun aq sq => Pa_readNumber_L17 k0 (fun (v3_3 : Int32) (M5 : Mem) => if v1 < 0 then some (0, M5) else if v3_3 = 0 then LOOP (fun aq sq => Pa_readNumber_L59 k0 v2 (fun (M8 : Mem) => some (1, M8)) aq sq.1 sq.2) FU (0, M5) else some (0, M5)) aq sq.1 sq.2.1 sq.2.2) FU (v1, v4_1, M2)
def SP_parting (v1 : Int32) (M : Mem) : Option (Int32 × Mem) :=
  bnd2 (Pa_readNumber 26 v1 (M 1 2) M) fun r_1 M1 => if r_1 = 0 then bnd2 (SP_refuse (-1) M1) fun r_2 M2 => some (r_2, M2) else some (M1 26 2, M1)
def SP_isSameness (v0 : Int32) : Option Int32 :=
  if v0 < 0 then some 0 else if 5 ≤ v0 then some 0 else some 1
def Pa_together (k0 : Nat) (v1 : Int32) (v2 : Int32) (M : Mem) : Option Int32 :=
  Option.bind (Pa_of k0 v1 M) fun r_1 => Option.bind (Pa_of k0 v2 M) fun r_2 => if r_1 = r_2 then some 1 else some 0
def Sa_sameView_L2 (v1_1 : Int32) (v2_1 : Int32) (M : Mem) (kx : Option Int32) (ag : Int32 → Option Int32) (v3_1 : Int32) : Option Int32 :=
  if 6 ≤ v3_1 then kx else Option.bind (SP_at 15 ((v1_1 * 6) + v3_1) M) fun r_1 => Option.bind (SP_at 15 ((v2_1 * 6) + v3_1) M) fun r_2 => if r_1 = r_2 then ag (v3_1 + 1) else some 0
def Sa_sameView (v1 : Int32) (v2 : Int32) (M : Mem) : Option Int32 :=
  LOOP (fun aq sq => Sa_sameView_L2 v1 v2 M (some 1) aq sq) FU 0
def Sa_match (v0 : Int32) (v1 : Int32) (v2 : Int32) : Option Int32 :=
  if v2 = 0 then jp (fun (s_1 : Int32) => jp (fun (s_2 : Int32) => if s_1 = s_2 then some 1 else some 0) fun (k_2 : Int32 → Option Int32) => if v1 ≤ 0 then k_2 0 else k_2 1) fun (k_1 : Int32 → Option Int32) => if v0 ≤ 0 then k_1 0 else k_1 1 else if v0 = v1 then some 1 else some 0
def Sa_swappable_L34 (v1_2 : Int32) (v2_2 : Int32) (v3_2 : Int32) (v4_2 : Int32) (M : Mem) (kx : Int32 → Option Int32) (ag : (Int32 × Int32) → Option Int32) (v5_1 : Int32) (v6_1 : Int32) : Option Int32 :=
  if (M 1 2) ≤ v6_1 then kx v5_1 else if v5_1 = 0 then kx v5_1 else if v6_1 = v1_2 then ag (1, v6_1 + 1) else if v6_1 = v2_2 then ag (1, v6_1 + 1) else Option.bind (To_strength v4_2 v1_2 v6_1 M) fun r_4 => Option.bind (To_strength v4_2 v2_2 v6_1 M) fun r_5 => Option.bind (Sa_match r_4 r_5 v3_2) fun r_6 => if r_6 = 0 then ag (0, v6_1 + 1) else Option.bind (To_strength v4_2 v6_1 v1_2 M) fun r_7 => Option.bind (To_strength v4_2 v6_1 v2_2 M) fun r_8 => Option.bind (Sa_match r_7 r_8 v3_2) fun r_9 => if r_9 = 0 then ag (0, v6_1 + 1) else ag (1, v6_1 + 1)
def Sa_swappable_L3 (v1_1 : Int32) (v2_1 : Int32) (v3_1 : Int32) (M : Mem) (kx : Option Int32) (ag : Int32 → Option Int32) (v4_1 : Int32) : Option Int32 :=
  if 3 ≤ v4_1 then kx else Option.bind (To_strength v4_1 v1_1 v2_1 M) fun r_1 => Option.bind (To_strength v4_1 v2_1 v1_1 M) fun r_2 => Option.bind (Sa_match r_1 r_2 v3_1) fun r_3 => LOOP (fun aq sq => Sa_swappable_L34 v1_1 v2_1 v3_1 v4_1 M (fun (v5_2 : Int32) => if v5_2 = 0 then some 0 else ag (v4_1 + 1)) aq sq.1 sq.2) FU (r_3, 0)
def Sa_swappable (v1 : Int32) (v2 : Int32) (v3 : Int32) (M : Mem) : Option Int32 :=
  LOOP (fun aq sq => Sa_swappable_L3 v1 v2 v3 M (some 1) aq sq) FU 0
def To_sameMark (v1 : Int32) (v2 : Int32) (M : Mem) : Option Int32 :=
  Option.bind (SP_at 2 v1 M) fun r_1 => Option.bind (SP_at 2 v2 M) fun r_2 => if r_1 = r_2 then some 1 else some 0
def Sa_alike (v2 : Int32) (v3 : Int32) (v4 : Int32) (M : Mem) : Option Int32 :=
  Option.bind (To_sameMark v3 v4 M) fun r_1 => if r_1 = 0 then some 0 else if v2 = 0 then some 1 else if v2 = 1 then Option.bind (Sa_swappable v3 v4 0 M) fun r_2 => some (bz r_2) else if v2 = 2 then Option.bind (Sa_swappable v3 v4 1 M) fun r_3 => some (bz r_3) else Option.bind (Sa_sameView v3 v4 M) fun r_4 => some (bz r_4)
def Sa_note (v1 : Int32) (v2 : Int32) (v3 : Int32) (M : Mem) : Option Mem :=
  nm (1 <<< ((3 * v2) &&& 31)) fun (v4_1 : Int32) => jp (fun (s_1 : Int32) => Option.bind (SP_put 15 v1 s_1 M) fun M1 => some M1) fun (k_1 : Int32 → Option Mem) => if v3 = 0 then Option.bind (SP_at 15 v1 M) fun r_1 => k_1 (r_1 ||| v4_1) else Option.bind (SP_at 15 v1 M) fun r_2 => k_1 (r_2 + v4_1)
def Sa_look_L46 (k2 : Nat) (v3_3 : Int32) (v4_3 : Int32) (v5_2 : Int32) (kx : Mem → Option Mem) (ag : (Int32 × Mem) → Option Mem) (v6_1 : Int32) (M4 : Mem) : Option Mem :=
  if (M4 1 2) ≤ v6_1 then kx M4 else Option.bind (To_tied v4_3 v5_2 v6_1 M4) fun r_1 => if r_1 = 0 then ag (v6_1 + 1, M4) else Option.bind (Pa_of k2 v6_1 M4) fun r_2 => jp (fun (s_1 : Int32) => Option.bind (Sa_note ((v5_2 * 6) + v4_3) r_2 s_1 M4) fun M5 => Option.bind (Pa_of k2 v5_2 M5) fun r_3 => jp (fun (s_2 : Int32) => Option.bind (Sa_note (((v6_1 * 6) + 3) + v4_3) r_3 s_2 M5) fun M6 => ag (v6_1 + 1, M6)) fun (k_2 : Int32 → Option Mem) => if v3_3 = 4 then k_2 1 else k_2 0) fun (k_1 : Int32 → Option Mem) => if v3_3 = 4 then k_1 1 else k_1 0
def Sa_look_L34 (k2 : Nat) (v3_2 : Int32) (v4_2 : Int32) (kx : Mem → Option Mem) (ag : (Int32 × Mem) → Option Mem) (v5_1 : Int32) (M3 : Mem) : Option Mem :=
  if (M3 1 2) ≤ v5_1 then kx M3 else LOOP (fun aq sq => Sa_look_L46 k2 v3_2 v4_2 v5_1 (fun (M7 : Mem) => ag (v5_1 + 1, M7)) aq sq.1 sq.2) FU (0, M3)
def Sa_look_L25 (k2 : Nat) (v3_1 : Int32) (kx : Mem → Option Mem) (ag : (Int32 × Mem) → Option Mem) (v4_1 : Int32) (M2 : Mem) : Option Mem :=
  if 3 ≤ v4_1 then kx M2 else LOOP (fun aq sq => Sa_look_L34 k2 v3_1 v4_1 (fun (M8 : Mem) => ag (v4_1 + 1, M8)) aq sq.1 sq.2) FU (0, M2)
def Sa_look (k2 : Nat) (v3 : Int32) (M : Mem) : Option Mem :=
  if v3 = 0 then some M else if v3 = 1 then some M else if v3 = 2 then some M else Option.bind (SP_wipe 15 M) fun M1 => LOOP (fun aq sq => Sa_look_L25 k2 v3 (fun (M9 : Mem) => some M9) aq sq.1 sq.2) FU (0, M1)
def Sa_firstUnlike_L25 (v3_2 : Int32) (v4_2 : Int32) (M1 : Mem) (kx : Option (Int32 × Mem)) (ag : Int32 → Option (Int32 × Mem)) (v5_2 : Int32) : Option (Int32 × Mem) :=
  if (M1 1 2) ≤ v5_2 then kx else Option.bind (Pa_together 26 v4_2 v5_2 M1) fun r_1 => if r_1 = 0 then ag (v5_2 + 1) else Option.bind (Sa_alike v3_2 v4_2 v5_2 M1) fun r_2 => if r_2 = 0 then some ((10 * v4_2) + v5_2, M1) else ag (v5_2 + 1)
def Sa_firstUnlike_L10 (v3_1 : Int32) (M1 : Mem) (kx : Option (Int32 × Mem)) (ag : Int32 → Option (Int32 × Mem)) (v4_1 : Int32) : Option (Int32 × Mem) :=
  if (M1 1 2) ≤ v4_1 then kx else nm (v4_1 + 1) fun (v5_1 : Int32) => LOOP (fun aq sq => Sa_firstUnlike_L25 v3_1 v4_1 M1 (ag (v4_1 + 1)) aq sq) FU v5_1
def Sa_firstUnlike (v3 : Int32) (M : Mem) : Option (Int32 × Mem) :=
  Option.bind (Sa_look 26 v3 M) fun M1 => LOOP (fun aq sq => Sa_firstUnlike_L10 v3 M1 (some ((-9), M1)) aq sq) FU 0
def SP_judge (v1 : Int32) (v2 : Int32) (M : Mem) : Option (Int32 × Mem) :=
  bnd2 (Pa_readNumber 26 v1 (M 1 2) M) fun r_1 M1 => jp (fun (M2 : Mem) => bnd2 (SP_refuse (-1) M2) fun r_2 M3 => some (r_2, M3)) fun (k_1 : Mem → Option (Int32 × Mem)) => if r_1 = 0 then k_1 M1 else Option.bind (SP_isSameness v2) fun r_3 => if r_3 = 0 then k_1 M1 else Option.bind (SP_lookAt (M1 0 12) M1) fun M4 => bnd2 (Sa_firstUnlike v2 M4) fun r_4 M5 => some (r_4, M5)
def Pa_number_L4 (k0 : Nat) (M : Mem) (kx : Int32 → Option Int32) (ag : (Int32 × Int32) → Option Int32) (v1_1 : Int32) (v2_1 : Int32) : Option Int32 :=
  if (M k0 1) ≤ v2_1 then kx v1_1 else Option.bind (Pa_of k0 v2_1 M) fun r_1 => nm ((v1_1 * 10) + r_1) fun (v1_2 : Int32) => ag (v1_2, v2_1 + 1)
def Pa_number (k0 : Nat) (M : Mem) : Option Int32 :=
  LOOP (fun aq sq => Pa_number_L4 k0 M (fun (v1_3 : Int32) => some v1_3) aq sq.1 sq.2) FU (0, 0)
def Pa_copy_L18 (k0 : Nat) (k1 : Nat) (kx : Mem → Option Mem) (ag : (Int32 × Mem) → Option Mem) (v2_1 : Int32) (M3 : Mem) : Option Mem :=
  if (M3 k0 1) ≤ v2_1 then kx M3 else Option.bind (Pa_of k1 v2_1 M3) fun r_1 => Option.bind (SP_put (k0 + 1) v2_1 r_1 M3) fun M4 => ag (v2_1 + 1, M4)
def Pa_copy (k0 : Nat) (k1 : Nat) (M : Mem) : Option Mem :=
  nm (st2 M k0 1 (M k1 1)) fun (M1 : Mem) => nm (st2 M1 k0 2 (M1 k1 2)) fun (M2 : Mem) => LOOP (fun aq sq => Pa_copy_L18 k0 k1 (fun (M5 : Mem) => some M5) aq sq.1 sq.2) FU (0, M2)
def Pa_begin (k0 : Nat) (v1 : Int32) (M : Mem) : Option Mem :=
  nm (st2 M k0 1 v1) fun (M1 : Mem) => nm (st2 M1 k0 2 0) fun (M2 : Mem) => some M2
def Pa_place (k0 : Nat) (v1 : Int32) (v2 : Int32) (M : Mem) : Option Mem :=
  if 0 ≤ v2 then Option.bind (Pa_of k0 v2 M) fun r_1 => Option.bind (SP_put (k0 + 1) v1 r_1 M) fun M1 => some M1 else Option.bind (SP_put (k0 + 1) v1 (M k0 2) M) fun M2 => nm (st2 M2 k0 2 ((M2 k0 2) + 1)) fun (M3 : Mem) => some M3
def Sa_split_L34 (k2 : Nat) (v4_2 : Int32) (v5_2 : Int32) (M3 : Mem) (kx : Int32 → Option Mem) (ag : (Int32 × Int32) → Option Mem) (v6_1 : Int32) (v7_1 : Int32) : Option Mem :=
  if v5_2 ≤ v7_1 then kx v6_1 else if 0 ≤ v6_1 then kx v6_1 else Option.bind (Pa_together k2 v5_2 v7_1 M3) fun r_1 => if r_1 = 0 then ag (v6_1, v7_1 + 1) else Option.bind (Sa_alike v4_2 v7_1 v5_2 M3) fun r_2 => if r_2 = 0 then ag (v6_1, v7_1 + 1) else ag (v7_1, v7_1 + 1)
def Sa_split_L19 (k2 : Nat) (k3 : Nat) (v4_1 : Int32) (kx : Mem → Option Mem) (ag : (Int32 × Mem) → Option Mem) (v5_1 : Int32) (M3 : Mem) : Option Mem :=
  if (M3 1 2) ≤ v5_1 then kx M3 else LOOP (fun aq sq => Sa_split_L34 k2 v4_1 v5_1 M3 (fun (v6_2 : Int32) => Option.bind (Pa_place k3 v5_1 v6_2 M3) fun M4 => ag (v5_1 + 1, M4)) aq sq.1 sq.2) FU ((-1), 0)
def Sa_split (k2 : Nat) (k3 : Nat) (v4 : Int32) (M : Mem) : Option Mem :=
  Option.bind (Sa_look k2 v4 M) fun M1 => Option.bind (Pa_begin k3 (M1 1 2) M1) fun M2 => LOOP (fun aq sq => Sa_split_L19 k2 k3 v4 (fun (M5 : Mem) => some M5) aq sq.1 sq.2) FU (0, M2)
def Sa_refine_L3 (k2 : Nat) (k3 : Nat) (v4_1 : Int32) (kx : Mem → Option Mem) (ag : (Int32 × Mem) → Option Mem) (v5_1 : Int32) (M1 : Mem) : Option Mem :=
  if 7 ≤ v5_1 then kx M1 else Option.bind (Sa_split k2 k3 v4_1 M1) fun M2 => if (M2 k3 2) = (M2 k2 2) then some M2 else Option.bind (Pa_copy k2 k3 M2) fun M3 => ag (v5_1 + 1, M3)
def Sa_refine (k2 : Nat) (k3 : Nat) (v4 : Int32) (M : Mem) : Option Mem :=
  LOOP (fun aq sq => Sa_refine_L3 k2 k3 v4 (fun (M4 : Mem) => some M4) aq sq.1 sq.2) FU (0, M)
def SP_coarsest (v1 : Int32) (v2 : Int32) (M : Mem) : Option (Int32 × Mem) :=
  bnd2 (Pa_readNumber 26 v1 (M 1 2) M) fun r_1 M1 => jp (fun (M2 : Mem) => bnd2 (SP_refuse (-1) M2) fun r_2 M3 => some (r_2, M3)) fun (k_1 : Mem → Option (Int32 × Mem)) => if r_1 = 0 then k_1 M1 else Option.bind (SP_isSameness v2) fun r_3 => if r_3 = 0 then k_1 M1 else Option.bind (SP_lookAt (M1 0 12) M1) fun M4 => Option.bind (Sa_refine 26 28 v2 M4) fun M5 => Option.bind (Pa_number 26 M5) fun r_4 => some (r_4, M5)
def Tu_begin (M : Mem) : Option Mem :=
  nm (st2 M 16 3 0) fun (M1 : Mem) => nm (st2 M1 16 4 0) fun (M2 : Mem) => Option.bind (SP_put 17 0 (-1) M2) fun M3 => some M3
def SP_holds (v0 : Int32) (v1 : Int32) : Option Int32 :=
  if ((v0 >>> (v1 &&& 31)) &&& 1) = 0 then some 0 else some 1
def Tu_keeps_L3 (v1_1 : Int32) (v2_1 : Int32) (v3_1 : Int32) (v4_1 : Int32) (M : Mem) (kx : Option Int32) (ag : Int32 → Option Int32) (v5_1 : Int32) : Option Int32 :=
  if 3 ≤ v5_1 then kx else Option.bind (To_strength v5_1 v1_1 v2_1 M) fun r_1 => Option.bind (To_strength v5_1 v3_1 v4_1 M) fun r_2 => if r_1 = r_2 then Option.bind (To_strength v5_1 v2_1 v1_1 M) fun r_3 => Option.bind (To_strength v5_1 v4_1 v3_1 M) fun r_4 => if r_3 = r_4 then ag (v5_1 + 1) else some 0 else some 0
def Tu_keeps (v1 : Int32) (v2 : Int32) (v3 : Int32) (v4 : Int32) (M : Mem) : Option Int32 :=
  LOOP (fun aq sq => Tu_keeps_L3 v1 v2 v3 v4 M (some 1) aq sq) FU 0
def Tu_keepsAhead_L16 (v2_1 : Int32) (M : Mem) (kx : Option Int32) (ag : Int32 → Option Int32) (v3_1 : Int32) : Option Int32 :=
  if (M 16 3) ≤ v3_1 then kx else Option.bind (SP_at 17 v3_1 M) fun r_2 => Option.bind (Tu_keeps (M 16 3) v3_1 v2_1 r_2 M) fun r_3 => if r_3 = 0 then some 0 else ag (v3_1 + 1)
def Tu_keepsAhead (v2 : Int32) (M : Mem) : Option Int32 :=
  Option.bind (To_sameMark (M 16 3) v2 M) fun r_1 => if r_1 = 0 then some 0 else LOOP (fun aq sq => Tu_keepsAhead_L16 v2 M (some 1) aq sq) FU 0
def Tu_lift (M : Mem) : Option (Int32 × Mem) :=
  Option.bind (SP_at 17 (M 16 3) M) fun r_1 => if r_1 < 0 then some (r_1 + 1, M) else nm (st2 M 16 4 ((M 16 4) &&& ((1 <<< (r_1 &&& 31)) ^^^ (-1)))) fun (M1 : Mem) => some (r_1 + 1, M1)
def Tu_nextKeeping_L6 (v2_1 : Int32) (v3_1 : Int32) (v4_1 : Int32) (M1 : Mem) (kx : Option (Int32 × Mem)) (ag : Int32 → Option (Int32 × Mem)) (v5_1 : Int32) : Option (Int32 × Mem) :=
  if (M1 1 2) ≤ v5_1 then kx else jp (fun (s_1 : Int32) => if s_1 = 0 then ag (v5_1 + 1) else Option.bind (SP_holds (M1 16 4) v5_1) fun r_2 => if r_2 = 0 then Option.bind (Tu_keepsAhead v5_1 M1) fun r_3 => if r_3 = 0 then ag (v5_1 + 1) else Option.bind (Tu_keeps (M1 16 3) v3_1 v5_1 v4_1 M1) fun r_4 => if r_4 = 0 then ag (v5_1 + 1) else some (v5_1, M1) else ag (v5_1 + 1)) fun (k_1 : Int32 → Option (Int32 × Mem)) => if v2_1 ≤ (M1 16 3) then jp (fun (s_2 : Int32) => jp (fun (s_3 : Int32) => if s_2 = s_3 then k_1 1 else k_1 0) fun (k_3 : Int32 → Option (Int32 × Mem)) => if v5_1 = v4_1 then k_3 1 else k_3 0) fun (k_2 : Int32 → Option (Int32 × Mem)) => if (M1 16 3) = v3_1 then k_2 1 else k_2 0 else if v5_1 = (M1 16 3) then k_1 1 else k_1 0
def Tu_nextKeeping (v2 : Int32) (v3 : Int32) (v4 : Int32) (M : Mem) : Option (Int32 × Mem) :=
  bnd2 (Tu_lift M) fun r_1 M1 => LOOP (fun aq sq => Tu_nextKeeping_L6 v2 v3 v4 M1 (some ((-1), M1)) aq sq) FU r_1
def Tu_step (v1 : Int32) (M : Mem) : Option Mem :=
  if 0 ≤ v1 then Option.bind (SP_put 17 (M 16 3) v1 M) fun M1 => nm (st2 M1 16 4 ((M1 16 4) ||| (1 <<< (v1 &&& 31)))) fun (M2 : Mem) => nm (st2 M2 16 3 ((M2 16 3) + 1)) fun (M3 : Mem) => Option.bind (SP_put 17 (M3 16 3) (-1) M3) fun M4 => some M4 else nm (st2 M 16 3 ((M 16 3) - 1)) fun (M5 : Mem) => some M5
def Tu_brings_L19 (v2_1 : Int32) (v3_1 : Int32) (v4_1 : Int32) (kx : Mem → Option (Int32 × Mem)) (ag : (Int32 × Mem) → Option (Int32 × Mem)) (v5_1 : Int32) (M2 : Mem) : Option (Int32 × Mem) :=
  if 1000000 ≤ v5_1 then kx M2 else if (M2 16 3) < 0 then kx M2 else if (M2 1 2) ≤ (M2 16 3) then kx M2 else bnd2 (Tu_nextKeeping v2_1 v3_1 v4_1 M2) fun r_2 M3 => Option.bind (Tu_step r_2 M3) fun M4 => ag (v5_1 + 1, M4)
def Tu_brings (v2 : Int32) (v3 : Int32) (v4 : Int32) (M : Mem) : Option (Int32 × Mem) :=
  Option.bind (To_sameMark v3 v4 M) fun r_1 => if r_1 = 0 then some (0, M) else Option.bind (Tu_begin M) fun M1 => LOOP (fun aq sq => Tu_brings_L19 v2 v3 v4 (fun (M5 : Mem) => if (M5 16 3) < (M5 1 2) then some (0, M5) else some (1, M5)) aq sq.1 sq.2) FU (0, M1)
def Tu_howMany_L18 (v3_2 : Int32) (kx : Int32 → Mem → Option (Int32 × Mem)) (ag : (Int32 × Int32 × Mem) → Option (Int32 × Mem)) (v4_1 : Int32) (v5_1 : Int32) (M2 : Mem) : Option (Int32 × Mem) :=
  if (M2 1 2) ≤ v5_1 then kx v4_1 M2 else bnd2 (Tu_brings v3_2 v3_2 v5_1 M2) fun r_1 M3 => if r_1 = 0 then ag (v4_1, v5_1 + 1, M3) else ag (v4_1 + 1, v5_1 + 1, M3)
def Tu_howMany_L4 (kx : Int32 → Mem → Option (Int32 × Mem)) (ag : (Int32 × Int32 × Mem) → Option (Int32 × Mem)) (v2_1 : Int32) (v3_1 : Int32) (M1 : Mem) : Option (Int32 × Mem) :=
  if (M1 1 2) ≤ v3_1 then kx v2_1 M1 else LOOP (fun aq sq => Tu_howMany_L18 v3_1 (fun (v4_2 : Int32) (M4 : Mem) => nm (v2_1 * v4_2) fun (v2_3 : Int32) => ag (v2_3, v3_1 + 1, M4)) aq sq.1 sq.2.1 sq.2.2) FU (0, v3_1, M1)
def Tu_howMany (M : Mem) : Option (Int32 × Mem) :=
  LOOP (fun aq sq => Tu_howMany_L4 (fun (v2_4 : Int32) (M5 : Mem) => some (v2_4, M5)) aq sq.1 sq.2.1 sq.2.2) FU (1, 0, M)
def SP_renamings (M : Mem) : Option (Int32 × Mem) :=
  Option.bind (SP_lookAt (M 0 12) M) fun M1 => bnd2 (Tu_howMany M1) fun r_1 M2 => some (r_1, M2)
def SP_moves (v1 : Int32) (v2 : Int32) (M : Mem) : Option (Int32 × Mem) :=
  Option.bind (To_lives v1 M) fun r_1 => jp (fun (M1 : Mem) => bnd2 (SP_refuse (-1) M1) fun r_2 M2 => some (r_2, M2)) fun (k_1 : Mem → Option (Int32 × Mem)) => if r_1 = 0 then k_1 M else Option.bind (To_lives v2 M) fun r_3 => if r_3 = 0 then k_1 M else Option.bind (SP_lookAt (M 0 12) M) fun M3 => bnd2 (Tu_brings 0 v1 v2 M3) fun r_4 M4 => if r_4 = 0 then some (0, M4) else some (1, M4)
def Tu_partByOrbit_L24 (v3_2 : Int32) (kx : Int32 → Mem → Option Mem) (ag : (Int32 × Int32 × Mem) → Option Mem) (v4_1 : Int32) (v5_1 : Int32) (M3 : Mem) : Option Mem :=
  if v3_2 ≤ v5_1 then kx v4_1 M3 else if 0 ≤ v4_1 then kx v4_1 M3 else bnd2 (Tu_brings 0 v5_1 v3_2 M3) fun r_1 M4 => if r_1 = 0 then ag (v4_1, v5_1 + 1, M4) else ag (v5_1, v5_1 + 1, M4)
def Tu_partByOrbit_L10 (kx : Mem → Option Mem) (ag : (Int32 × Mem) → Option Mem) (v3_1 : Int32) (M2 : Mem) : Option Mem :=
  if (M2 1 2) ≤ v3_1 then kx M2 else LOOP (fun aq sq => Tu_partByOrbit_L24 v3_1 (fun (v4_2 : Int32) (M5 : Mem) => Option.bind (Pa_place 30 v3_1 v4_2 M5) fun M6 => ag (v3_1 + 1, M6)) aq sq.1 sq.2.1 sq.2.2) FU ((-1), 0, M2)
def Tu_partByOrbit (M : Mem) : Option Mem :=
  Option.bind (Pa_begin 30 (M 1 2) M) fun M1 => LOOP (fun aq sq => Tu_partByOrbit_L10 (fun (M7 : Mem) => some M7) aq sq.1 sq.2) FU (0, M1)
def SP_orbits (M : Mem) : Option (Int32 × Mem) :=
  Option.bind (SP_lookAt (M 0 12) M) fun M1 => Option.bind (Tu_partByOrbit M1) fun M2 => Option.bind (Pa_number 30 M2) fun r_1 => some (r_1, M2)
def Tu_behind (v0 : Int64) (v2 : Int32) : Option Int64 :=
  some (jrml ((v0 * 10) + v2.toInt64) 1000000007)
def Tu_bestAsNumber_L5 (M : Mem) (kx : Int64 → Option Int32) (ag : (Int64 × Int32) → Option Int32) (v2_1 : Int64) (v4_1 : Int32) : Option Int32 :=
  if (M 1 2) ≤ v4_1 then kx v2_1 else Option.bind (SP_at 18 v4_1 M) fun r_1 => Option.bind (SP_at 2 r_1 M) fun r_2 => Option.bind (Tu_behind v2_1 r_2) fun r_3 => ag (r_3, v4_1 + 1)
def Tu_bestAsNumber_L65 (v4_4 : Int32) (v5_2 : Int32) (M : Mem) (kx : Int64 → Option Int32) (ag : (Int64 × Int32) → Option Int32) (v2_5 : Int64) (v6_1 : Int32) : Option Int32 :=
  if (M 1 2) ≤ v6_1 then kx v2_5 else Option.bind (SP_at 18 v5_2 M) fun r_4 => Option.bind (SP_at 18 v6_1 M) fun r_5 => Option.bind (To_strength v4_4 r_4 r_5 M) fun r_6 => Option.bind (Tu_behind v2_5 r_6) fun r_7 => ag (r_7, v6_1 + 1)
def Tu_bestAsNumber_L53 (v4_3 : Int32) (M : Mem) (kx : Int64 → Option Int32) (ag : (Int64 × Int32) → Option Int32) (v2_4 : Int64) (v5_1 : Int32) : Option Int32 :=
  if (M 1 2) ≤ v5_1 then kx v2_4 else LOOP (fun aq sq => Tu_bestAsNumber_L65 v4_3 v5_1 M (fun (v2_6 : Int64) => ag (v2_6, v5_1 + 1)) aq sq.1 sq.2) FU (v2_4, 0)
def Tu_bestAsNumber_L44 (M : Mem) (kx : Int64 → Option Int32) (ag : (Int64 × Int32) → Option Int32) (v2_3 : Int64) (v4_2 : Int32) : Option Int32 :=
  if 3 ≤ v4_2 then kx v2_3 else LOOP (fun aq sq => Tu_bestAsNumber_L53 v4_2 M (fun (v2_7 : Int64) => ag (v2_7, v4_2 + 1)) aq sq.1 sq.2) FU (v2_3, 0)
def Tu_bestAsNumber (M : Mem) : Option Int32 :=
  LOOP (fun aq sq => Tu_bestAsNumber_L5 M (fun (v2_2 : Int64) => LOOP (fun aq sq => Tu_bestAsNumber_L44 M (fun (v2_8 : Int64) => some v2_8.toInt32) aq sq.1 sq.2) FU (v2_2, 0)) aq sq.1 sq.2) FU (0, 0)
def Tu_findTwins_L15 (v2_2 : Int32) (M1 : Mem) (kx : Int32 → Option Mem) (ag : (Int32 × Int32) → Option Mem) (v3_1 : Int32) (v4_1 : Int32) : Option Mem :=
  if v2_2 ≤ v4_1 then kx v3_1 else Option.bind (To_sameMark v2_2 v4_1 M1) fun r_1 => if r_1 = 0 then ag (v3_1, v4_1 + 1) else Option.bind (Sa_swappable v2_2 v4_1 1 M1) fun r_2 => if r_2 = 0 then ag (v3_1, v4_1 + 1) else nm (v3_1 ||| (1 <<< (v4_1 &&& 31))) fun (v3_2 : Int32) => ag (v3_2, v4_1 + 1)
def Tu_findTwins_L2 (kx : Mem → Option Mem) (ag : (Int32 × Mem) → Option Mem) (v2_1 : Int32) (M1 : Mem) : Option Mem :=
  if (M1 1 2) ≤ v2_1 then kx M1 else LOOP (fun aq sq => Tu_findTwins_L15 v2_1 M1 (fun (v3_3 : Int32) => Option.bind (SP_put 19 v2_1 v3_3 M1) fun M2 => ag (v2_1 + 1, M2)) aq sq.1 sq.2) FU (0, 0)
def Tu_findTwins (M : Mem) : Option Mem :=
  LOOP (fun aq sq => Tu_findTwins_L2 (fun (M3 : Mem) => some M3) aq sq.1 sq.2) FU (0, M)
def To_tiesOfKind_L4 (v1_1 : Int32) (M : Mem) (kx : Int32 → Option Int32) (ag : (Int32 × Int32) → Option Int32) (v2_1 : Int32) (v3_1 : Int32) : Option Int32 :=
  if (M 1 2) ≤ v3_1 then kx v2_1 else Option.bind (To_tiesOf v1_1 v3_1 0 M) fun r_1 => nm (v2_1 + r_1) fun (v2_2 : Int32) => ag (v2_2, v3_1 + 1)
def To_tiesOfKind (v1 : Int32) (M : Mem) : Option Int32 :=
  LOOP (fun aq sq => To_tiesOfKind_L4 v1 M (fun (v2_3 : Int32) => some v2_3) aq sq.1 sq.2) FU (0, 0)
def Tu_firstKind_L2 (M : Mem) (kx : Option Int32) (ag : Int32 → Option Int32) (v1_1 : Int32) : Option Int32 :=
  if 3 ≤ v1_1 then kx else Option.bind (To_tiesOfKind v1_1 M) fun r_1 => if r_1 ≤ 0 then ag (v1_1 + 1) else some v1_1
def Tu_firstKind (M : Mem) : Option Int32 :=
  LOOP (fun aq sq => Tu_firstKind_L2 M (some 0) aq sq) FU 0
def Tu_keepBest_L2 (kx : Mem → Option Mem) (ag : (Int32 × Mem) → Option Mem) (v2_1 : Int32) (M1 : Mem) : Option Mem :=
  if (M1 1 2) ≤ v2_1 then kx M1 else Option.bind (SP_at 17 v2_1 M1) fun r_1 => Option.bind (SP_put 18 v2_1 r_1 M1) fun M2 => ag (v2_1 + 1, M2)
def Tu_keepBest (M : Mem) : Option Mem :=
  LOOP (fun aq sq => Tu_keepBest_L2 (fun (M3 : Mem) => some M3) aq sq.1 sq.2) FU (0, M)
def Tu_lessThanBest_L22 (v3_3 : Int32) (v4_2 : Int32) (M : Mem) (kx : Option Int32) (ag : Int32 → Option Int32) (v5_1 : Int32) : Option Int32 :=
  if (M 1 2) ≤ v5_1 then kx else Option.bind (SP_at 17 v4_2 M) fun r_1 => Option.bind (SP_at 17 v5_1 M) fun r_2 => Option.bind (To_strength v3_3 r_1 r_2 M) fun r_3 => Option.bind (SP_at 18 v4_2 M) fun r_4 => Option.bind (SP_at 18 v5_1 M) fun r_5 => Option.bind (To_strength v3_3 r_4 r_5 M) fun r_6 => if r_3 = r_6 then ag (v5_1 + 1) else if r_6 ≤ r_3 then some 0 else some 1
def Tu_lessThanBest_L10 (v3_2 : Int32) (M : Mem) (kx : Option Int32) (ag : Int32 → Option Int32) (v4_1 : Int32) : Option Int32 :=
  if (M 1 2) ≤ v4_1 then kx else LOOP (fun aq sq => Tu_lessThanBest_L22 v3_2 v4_1 M (ag (v4_1 + 1)) aq sq) FU 0
def Tu_lessThanBest_L2 (M : Mem) (kx : Option Int32) (ag : Int32 → Option Int32) (v3_1 : Int32) : Option Int32 :=
  if 3 ≤ v3_1 then kx else LOOP (fun aq sq => Tu_lessThanBest_L10 v3_1 M (ag (v3_1 + 1)) aq sq) FU 0
def Tu_lessThanBest (v2 : Int32) (M : Mem) : Option Int32 :=
  LOOP (fun aq sq => Tu_lessThanBest_L2 M (some 0) aq sq) FU v2
def Tu_behindBest_L3 (v2_1 : Int32) (v3_1 : Int32) (M : Mem) (kx : Option Int32) (ag : Int32 → Option Int32) (v4_1 : Int32) : Option Int32 :=
  if (M 16 3) < v4_1 then kx else Option.bind (SP_at 17 0 M) fun r_1 => jp (fun (s_1 : Int32) => Option.bind (To_strength v2_1 r_1 s_1 M) fun r_2 => Option.bind (SP_at 18 0 M) fun r_3 => Option.bind (SP_at 18 v4_1 M) fun r_4 => Option.bind (To_strength v2_1 r_3 r_4 M) fun r_5 => if r_2 = r_5 then ag (v4_1 + 1) else if r_2 ≤ r_5 then some 0 else some 1) fun (k_1 : Int32 → Option Int32) => if v4_1 = (M 16 3) then k_1 v3_1 else Option.bind (SP_at 17 v4_1 M) fun r_6 => k_1 r_6
def Tu_behindBest (v2 : Int32) (v3 : Int32) (M : Mem) : Option Int32 :=
  LOOP (fun aq sq => Tu_behindBest_L3 v2 v3 M (some 0) aq sq) FU 1
def Tu_hasLeastMark_L2 (v2_1 : Int32) (M : Mem) (kx : Option Int32) (ag : Int32 → Option Int32) (v3_1 : Int32) : Option Int32 :=
  if (M 1 2) ≤ v3_1 then kx else Option.bind (SP_holds (M 16 4) v3_1) fun r_1 => if r_1 = 0 then Option.bind (SP_at 2 v3_1 M) fun r_2 => Option.bind (SP_at 2 v2_1 M) fun r_3 => if r_3 ≤ r_2 then ag (v3_1 + 1) else some 0 else ag (v3_1 + 1)
def Tu_hasLeastMark (v2 : Int32) (M : Mem) : Option Int32 :=
  LOOP (fun aq sq => Tu_hasLeastMark_L2 v2 M (some 1) aq sq) FU 0
def Tu_nextInRow_L6 (v2_1 : Int32) (v3_1 : Int32) (M1 : Mem) (kx : Option (Int32 × Mem)) (ag : Int32 → Option (Int32 × Mem)) (v4_1 : Int32) : Option (Int32 × Mem) :=
  if (M1 1 2) ≤ v4_1 then kx else Option.bind (SP_holds (M1 16 4) v4_1) fun r_2 => jp (fun (s_1 : Int32) => if s_1 = 0 then ag (v4_1 + 1) else Option.bind (Tu_hasLeastMark v4_1 M1) fun r_3 => if r_3 = 0 then ag (v4_1 + 1) else if v3_1 = 0 then some (v4_1, M1) else Option.bind (Tu_behindBest v2_1 v4_1 M1) fun r_4 => if r_4 = 0 then some (v4_1, M1) else ag (v4_1 + 1)) fun (k_1 : Int32 → Option (Int32 × Mem)) => if r_2 = 0 then Option.bind (SP_at 19 v4_1 M1) fun r_5 => if (r_5 &&& ((M1 16 4) ^^^ (-1))) = 0 then k_1 1 else k_1 0 else k_1 0
def Tu_nextInRow (v2 : Int32) (v3 : Int32) (M : Mem) : Option (Int32 × Mem) :=
  bnd2 (Tu_lift M) fun r_1 M1 => LOOP (fun aq sq => Tu_nextInRow_L6 v2 v3 M1 (some ((-1), M1)) aq sq) FU r_1
def Tu_leastRow_L19 (v2_1 : Int32) (kx : Mem → Option (Int32 × Mem)) (ag : (Int32 × Int32 × Mem) → Option (Int32 × Mem)) (v3_1 : Int32) (v4_1 : Int32) (M3 : Mem) : Option (Int32 × Mem) :=
  if 1000000 ≤ v4_1 then kx M3 else if (M3 16 3) < 0 then kx M3 else if (M3 1 2) ≤ (M3 16 3) then jp (fun (M4 : Mem) => nm (st2 M4 16 3 ((M4 16 3) - 1)) fun (M5 : Mem) => ag (1, v4_1 + 1, M5)) fun (k_1 : Mem → Option (Int32 × Mem)) => jp (fun (M6 : Mem) => Option.bind (Tu_keepBest M6) fun M7 => k_1 M7) fun (k_2 : Mem → Option (Int32 × Mem)) => if v3_1 = 0 then k_2 M3 else Option.bind (Tu_lessThanBest v2_1 M3) fun r_2 => if r_2 = 0 then k_1 M3 else k_2 M3 else bnd2 (Tu_nextInRow v2_1 v3_1 M3) fun r_3 M8 => Option.bind (Tu_step r_3 M8) fun M9 => ag (v3_1, v4_1 + 1, M9)
def Tu_leastRow (M : Mem) : Option (Int32 × Mem) :=
  Option.bind (Tu_findTwins M) fun M1 => Option.bind (Tu_firstKind M1) fun r_1 => Option.bind (Tu_begin M1) fun M2 => LOOP (fun aq sq => Tu_leastRow_L19 r_1 (fun (M10 : Mem) => Option.bind (Tu_bestAsNumber M10) fun r_4 => some (r_4, M10)) aq sq.1 sq.2.1 sq.2.2) FU (0, 0, M2)
def SP_form (M : Mem) : Option (Int32 × Mem) :=
  Option.bind (SP_lookAt (M 0 12) M) fun M1 => bnd2 (Tu_leastRow M1) fun r_1 M2 => some (r_1, M2)
def Pa_allInOne (k0 : Nat) (v1 : Int32) (M : Mem) : Option Mem :=
  nm (st2 M k0 1 v1) fun (M1 : Mem) => nm (st2 M1 k0 2 1) fun (M2 : Mem) => Option.bind (SP_wipe (k0 + 1) M2) fun M3 => some M3
def SP_addTo (k0 : Nat) (v1 : Int32) (v2 : Int32) (M : Mem) : Option Mem :=
  Option.bind (SP_at k0 v1 M) fun r_1 => Option.bind (SP_put k0 v1 (r_1 + v2) M) fun M1 => some M1
def Pa_topAhead_L4 (v1_1 : Int32) (M : Mem) (kx : Int32 → Option Int32) (ag : (Int32 × Int32) → Option Int32) (v2_1 : Int32) (v3_1 : Int32) : Option Int32 :=
  if v1_1 ≤ v3_1 then kx v2_1 else Option.bind (Pa_of 26 v3_1 M) fun r_1 => Option.bind (JM_max v2_1 r_1) fun r_2 => ag (r_2, v3_1 + 1)
def Pa_topAhead (v1 : Int32) (M : Mem) : Option Int32 :=
  LOOP (fun aq sq => Pa_topAhead_L4 v1 M (fun (v2_2 : Int32) => some v2_2) aq sq.1 sq.2) FU (0, 0)
def Pa_forward_L37 (kx : Mem → Option (Int32 × Mem)) (ag : (Int32 × Mem) → Option (Int32 × Mem)) (v2_2 : Int32) (M2 : Mem) : Option (Int32 × Mem) :=
  if (M2 26 1) ≤ v2_2 then kx M2 else Option.bind (SP_put 27 v2_2 0 M2) fun M3 => ag (v2_2 + 1, M3)
def Pa_forward_L7 (M : Mem) (kx : Option (Int32 × Mem)) (ag : Int32 → Option (Int32 × Mem)) (v1_2 : Int32) : Option (Int32 × Mem) :=
  if v1_2 ≤ 0 then kx else Option.bind (Pa_of 26 v1_2 M) fun r_1 => Option.bind (Pa_topAhead v1_2 M) fun r_2 => if r_2 < r_1 then ag (v1_2 + (-1)) else Option.bind (SP_addTo 27 v1_2 1 M) fun M1 => nm (v1_2 + 1) fun (v2_1 : Int32) => LOOP (fun aq sq => Pa_forward_L37 (fun (M4 : Mem) => Option.bind (Pa_topAhead (M4 26 1) M4) fun r_3 => nm (st2 M4 26 2 (r_3 + 1)) fun (M5 : Mem) => some (1, M5)) aq sq.1 sq.2) FU (v2_1, M1)
def Pa_forward (M : Mem) : Option (Int32 × Mem) :=
  nm ((M 26 1) - 1) fun (v1_1 : Int32) => LOOP (fun aq sq => Pa_forward_L7 M (some (0, M)) aq sq) FU v1_1
def SP_next_L52 (v1_1 : Int32) (v2_1 : Int32) (kx : Mem → Option (Int32 × Mem)) (ag : (Int32 × Int32 × Mem) → Option (Int32 × Mem)) (v3_1 : Int32) (v4_1 : Int32) (M4 : Mem) : Option (Int32 × Mem) :=
  if 877 ≤ v4_1 then kx M4 else if v3_1 = 0 then kx M4 else Option.bind (Pa_number 26 M4) fun r_3 => jp (fun (M5 : Mem) => bnd2 (Pa_forward M5) fun r_4 M6 => ag (r_4, v4_1 + 1, M6)) fun (k_1 : Mem → Option (Int32 × Mem)) => if r_3 ≤ v2_1 then k_1 M4 else bnd2 (Sa_firstUnlike v1_1 M4) fun r_5 M7 => if r_5 = (-9) then some (r_3, M7) else k_1 M7
def SP_next (v1 : Int32) (v2 : Int32) (M : Mem) : Option (Int32 × Mem) :=
  Option.bind (SP_isSameness v1) fun r_1 => if r_1 = 0 then bnd2 (SP_refuse (-1) M) fun r_2 M1 => some (r_2, M1) else if (-1) ≤ v2 then Option.bind (SP_lookAt (M 0 12) M) fun M2 => Option.bind (Pa_allInOne 26 (M2 1 2) M2) fun M3 => LOOP (fun aq sq => SP_next_L52 v1 v2 (fun (M8 : Mem) => some ((-9), M8)) aq sq.1 sq.2.1 sq.2.2) FU (1, 0, M3) else bnd2 (SP_refuse (-4) M) fun r_6 M9 => some (r_6, M9)
def SP_all_L42 (v1_1 : Int32) (kx : Int32 → Mem → Option (Int32 × Mem)) (ag : (Int32 × Int32 × Int32 × Mem) → Option (Int32 × Mem)) (v2_1 : Int32) (v3_1 : Int32) (v4_1 : Int32) (M4 : Mem) : Option (Int32 × Mem) :=
  if 877 ≤ v4_1 then kx v2_1 M4 else if v3_1 = 0 then kx v2_1 M4 else bnd2 (Sa_firstUnlike v1_1 M4) fun r_3 M5 => jp (fun (v2_2 : Int32) => bnd2 (Pa_forward M5) fun r_4 M6 => ag (v2_2, r_4, v4_1 + 1, M6)) fun (k_1 : Int32 → Option (Int32 × Mem)) => if r_3 = (-9) then k_1 (v2_1 + 1) else k_1 v2_1
def SP_all (v1 : Int32) (M : Mem) : Option (Int32 × Mem) :=
  Option.bind (SP_isSameness v1) fun r_1 => if r_1 = 0 then bnd2 (SP_refuse (-1) M) fun r_2 M1 => some (r_2, M1) else Option.bind (SP_lookAt (M 0 12) M) fun M2 => Option.bind (Pa_allInOne 26 (M2 1 2) M2) fun M3 => LOOP (fun aq sq => SP_all_L42 v1 (fun (v2_3 : Int32) (M7 : Mem) => some (v2_3, M7)) aq sq.1 sq.2.1 sq.2.2.1 sq.2.2.2) FU (0, 1, 0, M3)
def Pa_cross_L24 (k2 : Nat) (v3_2 : Int32) (M2 : Mem) (kx : Int32 → Option Mem) (ag : (Int32 × Int32) → Option Mem) (v4_1 : Int32) (v5_1 : Int32) : Option Mem :=
  if v3_2 ≤ v5_1 then kx v4_1 else if 0 ≤ v4_1 then kx v4_1 else Option.bind (Pa_together 26 v3_2 v5_1 M2) fun r_1 => if r_1 = 0 then ag (v4_1, v5_1 + 1) else Option.bind (Pa_together k2 v3_2 v5_1 M2) fun r_2 => if r_2 = 0 then ag (v4_1, v5_1 + 1) else ag (v5_1, v5_1 + 1)
def Pa_cross_L10 (k2 : Nat) (kx : Mem → Option Mem) (ag : (Int32 × Mem) → Option Mem) (v3_1 : Int32) (M2 : Mem) : Option Mem :=
  if (M2 30 1) ≤ v3_1 then kx M2 else LOOP (fun aq sq => Pa_cross_L24 k2 v3_1 M2 (fun (v4_2 : Int32) => Option.bind (Pa_place 30 v3_1 v4_2 M2) fun M3 => ag (v3_1 + 1, M3)) aq sq.1 sq.2) FU ((-1), 0)
def Pa_cross (k2 : Nat) (M : Mem) : Option Mem :=
  Option.bind (Pa_begin 30 (M 26 1) M) fun M1 => LOOP (fun aq sq => Pa_cross_L10 k2 (fun (M4 : Mem) => some M4) aq sq.1 sq.2) FU (0, M1)
def Pa_copyRenumbered (M : Mem) : Option Mem :=
  Option.bind (Pa_cross 26 M) fun M1 => some M1
def Pa_rename_L2 (v1_1 : Int32) (v2_1 : Int32) (kx : Mem → Option Mem) (ag : (Int32 × Mem) → Option Mem) (v3_1 : Int32) (M1 : Mem) : Option Mem :=
  if (M1 26 1) ≤ v3_1 then kx M1 else Option.bind (Pa_of 26 v3_1 M1) fun r_1 => if r_1 = v1_1 then Option.bind (SP_put 27 v3_1 v2_1 M1) fun M2 => ag (v3_1 + 1, M2) else ag (v3_1 + 1, M1)
def Pa_rename (v1 : Int32) (v2 : Int32) (M : Mem) : Option Mem :=
  LOOP (fun aq sq => Pa_rename_L2 v1 v2 (fun (M3 : Mem) => some M3) aq sq.1 sq.2) FU (0, M)
def Pa_mergeBy_L14 (v2_2 : Int32) (kx : Mem → Option Mem) (ag : (Int32 × Mem) → Option Mem) (v3_2 : Int32) (M2 : Mem) : Option Mem :=
  if (M2 26 1) ≤ v3_2 then kx M2 else Option.bind (Pa_together 28 v2_2 v3_2 M2) fun r_1 => if r_1 = 0 then ag (v3_2 + 1, M2) else Option.bind (Pa_of 26 v3_2 M2) fun r_2 => Option.bind (Pa_of 26 v2_2 M2) fun r_3 => Option.bind (Pa_rename r_2 r_3 M2) fun M3 => ag (v3_2 + 1, M3)
def Pa_mergeBy_L2 (kx : Mem → Option Mem) (ag : (Int32 × Mem) → Option Mem) (v2_1 : Int32) (M1 : Mem) : Option Mem :=
  if (M1 26 1) ≤ v2_1 then kx M1 else nm (v2_1 + 1) fun (v3_1 : Int32) => LOOP (fun aq sq => Pa_mergeBy_L14 v2_1 (fun (M4 : Mem) => ag (v2_1 + 1, M4)) aq sq.1 sq.2) FU (v3_1, M1)
def Pa_mergeBy (M : Mem) : Option Mem :=
  LOOP (fun aq sq => Pa_mergeBy_L2 (fun (M5 : Mem) => some M5) aq sq.1 sq.2) FU (0, M)
def SP_join (v1 : Int32) (v2 : Int32) (M : Mem) : Option (Int32 × Mem) :=
  bnd2 (Pa_readNumber 26 v1 (M 1 2) M) fun r_1 M1 => jp (fun (M2 : Mem) => bnd2 (SP_refuse (-1) M2) fun r_2 M3 => some (r_2, M3)) fun (k_1 : Mem → Option (Int32 × Mem)) => if r_1 = 0 then k_1 M1 else bnd2 (Pa_readNumber 28 v2 (M1 1 2) M1) fun r_3 M4 => if r_3 = 0 then k_1 M4 else Option.bind (Pa_mergeBy M4) fun M5 => Option.bind (Pa_copyRenumbered M5) fun M6 => Option.bind (Pa_number 30 M6) fun r_4 => some (r_4, M6)
def SP_meet (v1 : Int32) (v2 : Int32) (M : Mem) : Option (Int32 × Mem) :=
  bnd2 (Pa_readNumber 26 v1 (M 1 2) M) fun r_1 M1 => jp (fun (M2 : Mem) => bnd2 (SP_refuse (-1) M2) fun r_2 M3 => some (r_2, M3)) fun (k_1 : Mem → Option (Int32 × Mem)) => if r_1 = 0 then k_1 M1 else bnd2 (Pa_readNumber 28 v2 (M1 1 2) M1) fun r_3 M4 => if r_3 = 0 then k_1 M4 else Option.bind (Pa_cross 28 M4) fun M5 => Option.bind (Pa_number 30 M5) fun r_4 => some (r_4, M5)
def Bl_tiesTo_L6 (v3_1 : Int32) (v4_1 : Int32) (v5_1 : Int32) (M : Mem) (kx : Int32 → Option Int32) (ag : (Int32 × Int32) → Option Int32) (v6_1 : Int32) (v7_1 : Int32) : Option Int32 :=
  if (M 1 2) ≤ v7_1 then kx v6_1 else Option.bind (Pa_of 26 v7_1 M) fun r_1 => if r_1 = v4_1 then Option.bind (To_tied v5_1 v3_1 v7_1 M) fun r_2 => if r_2 = 0 then ag (v6_1, v7_1 + 1) else ag (v6_1 + 1, v7_1 + 1) else ag (v6_1, v7_1 + 1)
def Bl_tiesTo (v3 : Int32) (v4 : Int32) (v5 : Int32) (M : Mem) : Option Int32 :=
  LOOP (fun aq sq => Bl_tiesTo_L6 v3 v4 v5 M (fun (v6_2 : Int32) => some v6_2) aq sq.1 sq.2) FU (0, 0)
def Pa_sizeOf_L4 (v1_1 : Int32) (M : Mem) (kx : Int32 → Option Int32) (ag : (Int32 × Int32) → Option Int32) (v2_1 : Int32) (v3_1 : Int32) : Option Int32 :=
  if (M 26 1) ≤ v3_1 then kx v2_1 else Option.bind (Pa_of 26 v3_1 M) fun r_1 => if r_1 = v1_1 then ag (v2_1 + 1, v3_1 + 1) else ag (v2_1, v3_1 + 1)
def Pa_sizeOf (v1 : Int32) (M : Mem) : Option Int32 :=
  LOOP (fun aq sq => Pa_sizeOf_L4 v1 M (fun (v2_2 : Int32) => some v2_2) aq sq.1 sq.2) FU (0, 0)
def JM_min (v0 : Int32) (v1 : Int32) : Option Int32 :=
  if v1 < v0 then some v1 else some v0
def Bl_image_L30 (v3_1 : Int32) (v4_1 : Int32) (v5_1 : Int32) (M : Mem) (kx : Int32 → Int32 → Option Int32) (ag : (Int32 × Int32 × Int32) → Option Int32) (v7_1 : Int32) (v8_1 : Int32) (v9_1 : Int32) : Option Int32 :=
  if (M 1 2) ≤ v9_1 then kx v7_1 v8_1 else Option.bind (Pa_of 26 v9_1 M) fun r_2 => if r_2 = v3_1 then Option.bind (Bl_tiesTo v9_1 v4_1 v5_1 M) fun r_3 => Option.bind (JM_min v7_1 r_3) fun r_4 => Option.bind (JM_max v8_1 r_3) fun r_5 => ag (r_4, r_5, v9_1 + 1) else ag (v7_1, v8_1, v9_1 + 1)
def Bl_image (v3 : Int32) (v4 : Int32) (v5 : Int32) (M : Mem) : Option Int32 :=
  Option.bind (Pa_sizeOf v4 M) fun r_1 => jp (fun (s_1 : Int32) => nm (r_1 - s_1) fun (v6_1 : Int32) => LOOP (fun aq sq => Bl_image_L30 v3 v4 v5 M (fun (v7_2 : Int32) (v8_2 : Int32) => if v8_2 = 0 then some 0 else if v7_2 = v6_1 then some 1 else if v7_2 = v8_2 then some 2 else if v7_2 ≤ 0 then some 4 else some 3) aq sq.1 sq.2.1 sq.2.2) FU (v6_1, 0, 0)) fun (k_1 : Int32 → Option Int32) => if v3 = v4 then k_1 1 else k_1 0
def Pa_has (v1 : Int32) (M : Mem) : Option Int32 :=
  if v1 < 0 then some 0 else if (M 26 2) ≤ v1 then some 0 else some 1
def SP_picture (v1 : Int32) (v2 : Int32) (v3 : Int32) (v4 : Int32) (M : Mem) : Option (Int32 × Mem) :=
  bnd2 (Pa_readNumber 26 v1 (M 1 2) M) fun r_1 M1 => jp (fun (M2 : Mem) => bnd2 (SP_refuse (-1) M2) fun r_2 M3 => some (r_2, M3)) fun (k_1 : Mem → Option (Int32 × Mem)) => if r_1 = 0 then k_1 M1 else Option.bind (Pa_has v2 M1) fun r_3 => if r_3 = 0 then k_1 M1 else Option.bind (Pa_has v3 M1) fun r_4 => if r_4 = 0 then k_1 M1 else Option.bind (SP_isKind v4) fun r_5 => if r_5 = 0 then k_1 M1 else Option.bind (SP_lookAt (M1 0 12) M1) fun M4 => Option.bind (Bl_image v2 v3 v4 M4) fun r_6 => some (r_6, M4)
def Bl_misfit (v1 : Int32) (v2 : Int32) (v3 : Int32) (v4 : Int32) (M : Mem) : Option Int32 :=
  Option.bind (SP_cell v1 v2 v3) fun r_1 => Option.bind (SP_at 21 r_1 M) fun r_2 => nm (r_2 + v4) fun (v5_1 : Int32) => Option.bind (SP_at 22 v2 M) fun r_3 => Option.bind (SP_at 22 v3 M) fun r_4 => jp (fun (s_1 : Int32) => nm (r_3 * (r_4 - s_1)) fun (v6_1 : Int32) => Option.bind (JM_min v5_1 (v6_1 - v5_1)) fun r_5 => some r_5) fun (k_1 : Int32 → Option Int32) => if v2 = v3 then k_1 1 else k_1 0
def Bl_tallyTies_L52 (v3_3 : Int32) (v4_2 : Int32) (kx : Mem → Option Mem) (ag : (Int32 × Mem) → Option Mem) (v5_1 : Int32) (M6 : Mem) : Option Mem :=
  if 3 ≤ v5_1 then kx M6 else Option.bind (To_tied v5_1 v3_3 v4_2 M6) fun r_2 => if r_2 = 0 then ag (v5_1 + 1, M6) else Option.bind (Pa_of 26 v3_3 M6) fun r_3 => Option.bind (Pa_of 26 v4_2 M6) fun r_4 => Option.bind (SP_cell v5_1 r_3 r_4) fun r_5 => Option.bind (SP_addTo 21 r_5 1 M6) fun M7 => ag (v5_1 + 1, M7)
def Bl_tallyTies_L40 (v3_2 : Int32) (kx : Mem → Option Mem) (ag : (Int32 × Mem) → Option Mem) (v4_1 : Int32) (M5 : Mem) : Option Mem :=
  if (M5 1 2) ≤ v4_1 then kx M5 else LOOP (fun aq sq => Bl_tallyTies_L52 v3_2 v4_1 (fun (M8 : Mem) => ag (v4_1 + 1, M8)) aq sq.1 sq.2) FU (0, M5)
def Bl_tallyTies_L16 (kx : Mem → Option Mem) (ag : (Int32 × Mem) → Option Mem) (v3_1 : Int32) (M3 : Mem) : Option Mem :=
  if (M3 1 2) ≤ v3_1 then kx M3 else Option.bind (Pa_of 26 v3_1 M3) fun r_1 => Option.bind (SP_addTo 22 r_1 1 M3) fun M4 => LOOP (fun aq sq => Bl_tallyTies_L40 v3_1 (fun (M9 : Mem) => ag (v3_1 + 1, M9)) aq sq.1 sq.2) FU (0, M4)
def Bl_tallyTies (M : Mem) : Option Mem :=
  Option.bind (SP_wipe 21 M) fun M1 => Option.bind (SP_wipe 22 M1) fun M2 => LOOP (fun aq sq => Bl_tallyTies_L16 (fun (M10 : Mem) => some M10) aq sq.1 sq.2) FU (0, M2)
def Bl_misfits_L32 (v4_3 : Int32) (v5_2 : Int32) (M1 : Mem) (kx : Int32 → Option (Int32 × Mem)) (ag : (Int32 × Int32) → Option (Int32 × Mem)) (v3_3 : Int32) (v6_1 : Int32) : Option (Int32 × Mem) :=
  if (M1 26 2) ≤ v6_1 then kx v3_3 else Option.bind (Bl_misfit v4_3 v5_2 v6_1 0 M1) fun r_1 => nm (v3_3 + r_1) fun (v3_4 : Int32) => ag (v3_4, v6_1 + 1)
def Bl_misfits_L20 (v4_2 : Int32) (M1 : Mem) (kx : Int32 → Option (Int32 × Mem)) (ag : (Int32 × Int32) → Option (Int32 × Mem)) (v3_2 : Int32) (v5_1 : Int32) : Option (Int32 × Mem) :=
  if (M1 26 2) ≤ v5_1 then kx v3_2 else LOOP (fun aq sq => Bl_misfits_L32 v4_2 v5_1 M1 (fun (v3_5 : Int32) => ag (v3_5, v5_1 + 1)) aq sq.1 sq.2) FU (v3_2, 0)
def Bl_misfits_L11 (M1 : Mem) (kx : Int32 → Option (Int32 × Mem)) (ag : (Int32 × Int32) → Option (Int32 × Mem)) (v3_1 : Int32) (v4_1 : Int32) : Option (Int32 × Mem) :=
  if 3 ≤ v4_1 then kx v3_1 else LOOP (fun aq sq => Bl_misfits_L20 v4_1 M1 (fun (v3_6 : Int32) => ag (v3_6, v4_1 + 1)) aq sq.1 sq.2) FU (v3_1, 0)
def Bl_misfits (M : Mem) : Option (Int32 × Mem) :=
  Option.bind (Bl_tallyTies M) fun M1 => LOOP (fun aq sq => Bl_misfits_L11 M1 (fun (v3_7 : Int32) => some (v3_7, M1)) aq sq.1 sq.2) FU (0, 0)
def SP_wrong (v1 : Int32) (M : Mem) : Option (Int32 × Mem) :=
  bnd2 (Pa_readNumber 26 v1 (M 1 2) M) fun r_1 M1 => if r_1 = 0 then bnd2 (SP_refuse (-1) M1) fun r_2 M2 => some (r_2, M2) else Option.bind (SP_lookAt (M1 0 12) M1) fun M3 => bnd2 (Bl_misfits M3) fun r_3 M4 => some (r_3, M4)
def Bl_bestWith_L23 (v3_1 : Int32) (kx : Int32 → Int32 → Int32 → Mem → Option (Int32 × Mem)) (ag : (Int32 × Int32 × Int32 × Int32 × Int32 × Mem) → Option (Int32 × Mem)) (v5_1 : Int32) (v6_1 : Int32) (v7_1 : Int32) (v8_1 : Int32) (v9_1 : Int32) (M2 : Mem) : Option (Int32 × Mem) :=
  if 877 ≤ v9_1 then kx v5_1 v6_1 v7_1 M2 else if v8_1 = 0 then kx v5_1 v6_1 v7_1 M2 else jp (fun (s_1 : Int32) (M3 : Mem) => jp (fun (v5_2 : Int32) (v6_2 : Int32) (v7_2 : Int32) => bnd2 (Pa_forward M3) fun r_1 M4 => ag (v5_2, v6_2, v7_2, r_1, v9_1 + 1, M4)) fun (k_2 : Int32 → Int32 → Int32 → Option (Int32 × Mem)) => jp (fun (v5_3 : Int32) (v6_3 : Int32) (v7_3 : Int32) (v9_2 : Int32) (M5 : Mem) => if s_1 < 0 then k_2 v5_3 v6_3 v7_3 else if v7_3 < 0 then k_2 v5_3 v6_3 s_1 else if v7_3 ≤ s_1 then k_2 v5_3 v6_3 v7_3 else k_2 v5_3 v6_3 s_1) fun (k_3 : Int32 → Int32 → Int32 → Int32 → Mem → Option (Int32 × Mem)) => if s_1 < 0 then k_3 v5_1 v6_1 v7_1 v9_1 M3 else jp (Option.bind (Pa_number 26 M3) fun r_2 => k_2 r_2 s_1 v6_1) fun (k_4 : Option (Int32 × Mem)) => if v6_1 < 0 then k_4 else if v6_1 ≤ s_1 then k_3 v5_1 v6_1 v7_1 v9_1 M3 else k_4) fun (k_1 : Int32 → Mem → Option (Int32 × Mem)) => if (M2 26 2) = v3_1 then bnd2 (Bl_misfits M2) fun r_3 M6 => k_1 r_3 M6 else k_1 (-1) M2
def Bl_bestWith (v3 : Int32) (v4 : Int32) (M : Mem) : Option (Int32 × Mem) :=
  Option.bind (Pa_allInOne 26 (M 1 2) M) fun M1 => LOOP (fun aq sq => Bl_bestWith_L23 v3 (fun (v5_4 : Int32) (v6_4 : Int32) (v7_4 : Int32) (M7 : Mem) => if v4 = 0 then some (v5_4, M7) else if v4 = 1 then some (v6_4, M7) else if 0 ≤ v7_4 then some (v7_4 - v6_4, M7) else some ((-9), M7)) aq sq.1 sq.2.1 sq.2.2.1 sq.2.2.2.1 sq.2.2.2.2.1 sq.2.2.2.2.2) FU (0, (-1), (-1), 1, 0, M1)
def SP_least (v1 : Int32) (v2 : Int32) (M : Mem) : Option (Int32 × Mem) :=
  if 1 ≤ v1 then if v1 ≤ (M 1 2) then jp (fun (M1 : Mem) => bnd2 (SP_refuse (-2) M1) fun r_1 M2 => some (r_1, M2)) fun (k_1 : Mem → Option (Int32 × Mem)) => if v2 < 0 then k_1 M else if v2 ≤ 2 then Option.bind (SP_lookAt (M 0 12) M) fun M3 => bnd2 (Bl_bestWith v1 v2 M3) fun r_2 M4 => some (r_2, M4) else k_1 M else bnd2 (SP_refuse (-6) M) fun r_3 M5 => some (r_3, M5) else bnd2 (SP_refuse (-4) M) fun r_4 M6 => some (r_4, M6)
def Bl_gainOf (v3 : Int32) (v4 : Int32) (v5 : Int32) (M : Mem) : Option Int32 :=
  Option.bind (Pa_of 26 v3 M) fun r_1 => Option.bind (Pa_of 26 v4 M) fun r_2 => Option.bind (Bl_misfit v5 r_1 r_2 0 M) fun r_3 => Option.bind (To_tied v5 v3 v4 M) fun r_4 => jp (fun (s_1 : Int32) => Option.bind (Bl_misfit v5 r_1 r_2 s_1 M) fun r_5 => some (r_3 - r_5)) fun (k_1 : Int32 → Option Int32) => if r_4 = 0 then k_1 1 else k_1 (-1)
def Bl_worstTie_L40 (v6_3 : Int32) (v7_2 : Int32) (M1 : Mem) (kx : Int32 → Int32 → Option (Int32 × Mem)) (ag : (Int32 × Int32 × Int32) → Option (Int32 × Mem)) (v4_3 : Int32) (v5_3 : Int32) (v8_1 : Int32) : Option (Int32 × Mem) :=
  if v6_3 = v7_2 then kx v4_3 v5_3 else if 3 ≤ v8_1 then kx v4_3 v5_3 else Option.bind (Bl_gainOf v6_3 v7_2 v8_1 M1) fun r_1 => jp (fun (v8_2 : Int32) => nm (((100 * v6_3) + (10 * v7_2)) + v8_2) fun (v4_4 : Int32) => ag (v4_4, r_1, v8_2 + 1)) fun (k_1 : Int32 → Option (Int32 × Mem)) => if v4_3 < 0 then k_1 v8_1 else if r_1 ≤ v5_3 then ag (v4_3, v5_3, v8_1 + 1) else k_1 v8_1
def Bl_worstTie_L28 (v6_2 : Int32) (M1 : Mem) (kx : Int32 → Int32 → Option (Int32 × Mem)) (ag : (Int32 × Int32 × Int32) → Option (Int32 × Mem)) (v4_2 : Int32) (v5_2 : Int32) (v7_1 : Int32) : Option (Int32 × Mem) :=
  if (M1 1 2) ≤ v7_1 then kx v4_2 v5_2 else LOOP (fun aq sq => Bl_worstTie_L40 v6_2 v7_1 M1 (fun (v4_5 : Int32) (v5_4 : Int32) => ag (v4_5, v5_4, v7_1 + 1)) aq sq.1 sq.2.1 sq.2.2) FU (v4_2, v5_2, 0)
def Bl_worstTie_L16 (M1 : Mem) (kx : Int32 → Int32 → Option (Int32 × Mem)) (ag : (Int32 × Int32 × Int32) → Option (Int32 × Mem)) (v4_1 : Int32) (v5_1 : Int32) (v6_1 : Int32) : Option (Int32 × Mem) :=
  if (M1 1 2) ≤ v6_1 then kx v4_1 v5_1 else LOOP (fun aq sq => Bl_worstTie_L28 v6_1 M1 (fun (v4_6 : Int32) (v5_5 : Int32) => ag (v4_6, v5_5, v6_1 + 1)) aq sq.1 sq.2.1 sq.2.2) FU (v4_1, v5_1, 0)
def Bl_worstTie (v3 : Int32) (M : Mem) : Option (Int32 × Mem) :=
  Option.bind (Bl_tallyTies M) fun M1 => LOOP (fun aq sq => Bl_worstTie_L16 M1 (fun (v4_7 : Int32) (v5_6 : Int32) => if v3 = 0 then some (v5_6, M1) else some (v4_7, M1)) aq sq.1 sq.2.1 sq.2.2) FU ((-9), 0, 0)
def SP_spoils (v1 : Int32) (v2 : Int32) (M : Mem) : Option (Int32 × Mem) :=
  bnd2 (Pa_readNumber 26 v1 (M 1 2) M) fun r_1 M1 => if r_1 = 0 then bnd2 (SP_refuse (-1) M1) fun r_2 M2 => some (1000000000 - r_2, M2) else jp (fun (M3 : Mem) => bnd2 (SP_refuse (-2) M3) fun r_3 M4 => some (1000000000 - r_3, M4)) fun (k_1 : Mem → Option (Int32 × Mem)) => if v2 < 0 then k_1 M1 else if v2 ≤ 1 then if 2 ≤ (M1 1 2) then Option.bind (SP_lookAt (M1 0 12) M1) fun M5 => jp (fun (s_1 : Int32) => bnd2 (Bl_worstTie s_1 M5) fun r_4 M6 => some (r_4, M6)) fun (k_2 : Int32 → Option (Int32 × Mem)) => if v2 = 0 then k_2 1 else k_2 0 else if v2 = 0 then some ((-9), M1) else bnd2 (SP_refuse (-3) M1) fun r_5 M7 => some (1000000000 - r_5, M7) else k_1 M1
def Nc_append (v1 : Int32) (v2 : Int32) (v3 : Int32) (M : Mem) : Option Mem :=
  Option.bind (SP_put 11 (M 10 3) v1 M) fun M1 => Option.bind (SP_put 12 (M1 10 3) v2 M1) fun M2 => jp (fun (s_1 : Int32) => Option.bind (SP_put 13 (M2 10 3) s_1 M2) fun M3 => nm (st2 M3 10 3 ((M3 10 3) + 1)) fun (M4 : Mem) => some M4) fun (k_1 : Int32 → Option Mem) => if v3 = 0 then k_1 0 else k_1 1
def SP_newcomer (v1 : Int32) (v2 : Int32) (v3 : Int32) (M : Mem) : Option (Int32 × Mem) :=
  Option.bind (SP_isKind v1) fun r_1 => jp (fun (M1 : Mem) => bnd2 (SP_refuse (-1) M1) fun r_2 M2 => some (r_2, M2)) fun (k_1 : Mem → Option (Int32 × Mem)) => if r_1 = 0 then k_1 M else Option.bind (To_lives v2 M) fun r_3 => if r_3 = 0 then k_1 M else if (M 10 3) < 6 then Option.bind (Nc_append v1 v2 v3 M) fun M3 => some (M3 10 3, M3) else bnd2 (SP_refuse (-6) M) fun r_4 M4 => some (r_4, M4)
def Nc_hasSuchTie_L50 (v3_2 : Int32) (v4_2 : Int32) (v5_2 : Int32) (v6_2 : Int32) (v7_2 : Int32) (M : Mem) (kx : Option Int32) (ag : Int32 → Option Int32) (v8_1 : Int32) : Option Int32 :=
  if (M 1 2) ≤ v8_1 then kx else Option.bind (Pa_of 26 v7_2 M) fun r_4 => jp (fun (s_2 : Int32) => if s_2 = 0 then ag (v8_1 + 1) else if v6_2 = 0 then Option.bind (SP_at 11 v4_2 M) fun r_5 => Option.bind (To_tied r_5 v8_1 v7_2 M) fun r_6 => if r_6 = 0 then ag (v8_1 + 1) else some 1 else Option.bind (SP_at 11 v4_2 M) fun r_7 => Option.bind (To_tied r_7 v7_2 v8_1 M) fun r_8 => if r_8 = 0 then ag (v8_1 + 1) else some 1) fun (k_2 : Int32 → Option Int32) => if r_4 = v3_2 then Option.bind (Pa_of 26 v8_1 M) fun r_9 => if r_9 = v5_2 then k_2 1 else k_2 0 else k_2 0
def Nc_hasSuchTie_L38 (v3_1 : Int32) (v4_1 : Int32) (v5_1 : Int32) (v6_1 : Int32) (M : Mem) (kx : Option Int32) (ag : Int32 → Option Int32) (v7_1 : Int32) : Option Int32 :=
  if (M 1 2) ≤ v7_1 then kx else LOOP (fun aq sq => Nc_hasSuchTie_L50 v3_1 v4_1 v5_1 v6_1 v7_1 M (ag (v7_1 + 1)) aq sq) FU 0
def Nc_hasSuchTie (v3 : Int32) (v4 : Int32) (M : Mem) : Option Int32 :=
  Option.bind (SP_at 12 v4 M) fun r_1 => Option.bind (Pa_of 26 r_1 M) fun r_2 => Option.bind (SP_at 13 v4 M) fun r_3 => jp (fun (s_1 : Int32) => LOOP (fun aq sq => Nc_hasSuchTie_L38 v3 v4 r_2 s_1 M (some 0) aq sq) FU 0) fun (k_1 : Int32 → Option Int32) => if r_3 = 1 then k_1 1 else k_1 0
def Nc_suitingParts_L20 (v4_2 : Int32) (M : Mem) (kx : Int32 → Option Int32) (ag : (Int32 × Int32) → Option Int32) (v5_1 : Int32) (v6_1 : Int32) : Option Int32 :=
  if (M 10 3) ≤ v6_1 then kx v5_1 else if v5_1 = 0 then kx v5_1 else Option.bind (Nc_hasSuchTie v4_2 v6_1 M) fun r_1 => ag (r_1, v6_1 + 1)
def Nc_suitingParts_L5 (M : Mem) (kx : Int32 → Option Int32) (ag : (Int32 × Int32) → Option Int32) (v3_1 : Int32) (v4_1 : Int32) : Option Int32 :=
  if (M 26 2) ≤ v4_1 then kx v3_1 else LOOP (fun aq sq => Nc_suitingParts_L20 v4_1 M (fun (v5_2 : Int32) => if v5_2 = 0 then ag (v3_1, v4_1 + 1) else nm (v3_1 ||| (1 <<< (v4_1 &&& 31))) fun (v3_3 : Int32) => ag (v3_3, v4_1 + 1)) aq sq.1 sq.2) FU (1, 0)
def Nc_suitingParts (M : Mem) : Option Int32 :=
  LOOP (fun aq sq => Nc_suitingParts_L5 M (fun (v3_4 : Int32) => some v3_4) aq sq.1 sq.2) FU (0, 0)
def SP_fits (v1 : Int32) (M : Mem) : Option (Int32 × Mem) :=
  bnd2 (Pa_readNumber 26 v1 (M 1 2) M) fun r_1 M1 => if r_1 = 0 then bnd2 (SP_refuse (-1) M1) fun r_2 M2 => some (r_2, M2) else Option.bind (SP_lookAt (M1 0 12) M1) fun M3 => Option.bind (Nc_suitingParts M3) fun r_3 => some (r_3, M3)
def SP_gone (M : Mem) : Option (Int32 × Mem) :=
  nm (M 10 3) fun (v1_1 : Int32) => nm (st2 M 10 3 0) fun (M1 : Mem) => some (v1_1, M1)
def SP_partOfYear (v1 : Int32) (v2 : Int32) (k3 : Nat) (M : Mem) : Option Mem :=
  Option.bind (SP_lookAt v1 M) fun M1 => Option.bind (Pa_allInOne k3 (M1 1 2) M1) fun M2 => Option.bind (Sa_refine k3 30 v2 M2) fun M3 => some M3
def Ma_bestFor_L13 (v1_1 : Int32) (v2_1 : Int32) (v3_1 : Int32) (M : Mem) (kx : Int32 → Option Int32) (ag : (Int32 × Int32) → Option Int32) (v4_1 : Int32) (v5_1 : Int32) : Option Int32 :=
  if v3_1 ≤ v5_1 then kx v4_1 else Option.bind (SP_holds v2_1 v5_1) fun r_2 => if r_2 = 0 then ag (v4_1, v5_1 + 1) else Option.bind (SP_at 25 (v2_1 &&& ((1 <<< (v5_1 &&& 31)) ^^^ (-1))) M) fun r_3 => Option.bind (SP_at 24 ((v1_1 * 7) + v5_1) M) fun r_4 => Option.bind (JM_max v4_1 (r_3 + r_4)) fun r_5 => ag (r_5, v5_1 + 1)
def Ma_bestFor (v1 : Int32) (v2 : Int32) (v3 : Int32) (M : Mem) : Option Int32 :=
  Option.bind (SP_at 25 v2 M) fun r_1 => LOOP (fun aq sq => Ma_bestFor_L13 v1 v2 v3 M (fun (v4_2 : Int32) => some v4_2) aq sq.1 sq.2) FU (r_1, 0)
def Ma_keepers_L9 (kx : Mem → Option (Int32 × Mem)) (ag : (Int32 × Mem) → Option (Int32 × Mem)) (v3_1 : Int32) (M2 : Mem) : Option (Int32 × Mem) :=
  if (M2 26 1) ≤ v3_1 then kx M2 else Option.bind (Pa_of 26 v3_1 M2) fun r_1 => Option.bind (Pa_of 28 v3_1 M2) fun r_2 => Option.bind (SP_addTo 24 ((r_1 * 7) + r_2) 1 M2) fun M3 => ag (v3_1 + 1, M3)
def Ma_keepers_L76 (v4_2 : Int32) (kx : Mem → Option (Int32 × Mem)) (ag : (Int32 × Mem) → Option (Int32 × Mem)) (v5_1 : Int32) (M7 : Mem) : Option (Int32 × Mem) :=
  if v5_1 ≤ 0 then kx M7 else Option.bind (Ma_bestFor v4_2 v5_1 (M7 28 2) M7) fun r_3 => Option.bind (SP_put 25 v5_1 r_3 M7) fun M8 => ag (v5_1 + (-1), M8)
def Ma_keepers_L64 (v3_3 : Int32) (kx : Mem → Option (Int32 × Mem)) (ag : (Int32 × Mem) → Option (Int32 × Mem)) (v4_1 : Int32) (M6 : Mem) : Option (Int32 × Mem) :=
  if (M6 26 2) ≤ v4_1 then kx M6 else LOOP (fun aq sq => Ma_keepers_L76 v4_1 (fun (M9 : Mem) => ag (v4_1 + 1, M9)) aq sq.1 sq.2) FU (v3_3, M6)
def Ma_keepers (M : Mem) : Option (Int32 × Mem) :=
  Option.bind (SP_wipe 24 M) fun M1 => LOOP (fun aq sq => Ma_keepers_L9 (fun (M4 : Mem) => Option.bind (SP_wipe 25 M4) fun M5 => nm ((1 <<< ((M5 28 2) &&& 31)) - 1) fun (v3_2 : Int32) => LOOP (fun aq sq => Ma_keepers_L64 v3_2 (fun (M10 : Mem) => Option.bind (SP_at 25 v3_2 M10) fun r_4 => some (r_4, M10)) aq sq.1 sq.2) FU (0, M5)) aq sq.1 sq.2) FU (0, M1)
def SP_shift (v1 : Int32) (v2 : Int32) (v3 : Int32) (M : Mem) : Option (Int32 × Mem) :=
  Option.bind (SP_isSameness v3) fun r_1 => if r_1 = 0 then bnd2 (SP_refuse (-1) M) fun r_2 M1 => some (r_2, M1) else jp (fun (M2 : Mem) => bnd2 (SP_refuse (-4) M2) fun r_3 M3 => some (r_3, M3)) fun (k_1 : Mem → Option (Int32 × Mem)) => if v1 < 0 then k_1 M else if 0 ≤ v2 then jp (fun (M4 : Mem) => bnd2 (SP_refuse (-6) M4) fun r_4 M5 => some (r_4, M5)) fun (k_2 : Mem → Option (Int32 × Mem)) => if 100 < v1 then k_2 M else if v2 ≤ 100 then Option.bind (SP_partOfYear v1 v3 26 M) fun M6 => Option.bind (SP_partOfYear v2 v3 28 M6) fun M7 => bnd2 (Ma_keepers M7) fun r_5 M8 => some ((M7 1 2) - r_5, M8) else k_2 M else k_1 M
def Td_nextChange_L5 (v1_1 : Int32) (M : Mem) (kx : Int32 → Option Int32) (ag : (Int32 × Int32) → Option Int32) (v2_1 : Int32) (v3_1 : Int32) : Option Int32 :=
  if (M 4 1) ≤ v3_1 then kx v2_1 else Option.bind (Td_field 4 v3_1 4 M) fun r_1 => jp (fun (v2_2 : Int32) => Option.bind (Td_field 4 v3_1 5 M) fun r_2 => if r_2 ≤ v1_1 then ag (v2_2, v3_1 + 1) else Option.bind (Td_field 4 v3_1 5 M) fun r_3 => Option.bind (JM_min v2_2 r_3) fun r_4 => ag (r_4, v3_1 + 1)) fun (k_1 : Int32 → Option Int32) => if r_1 ≤ v1_1 then k_1 v2_1 else Option.bind (Td_field 4 v3_1 4 M) fun r_5 => Option.bind (JM_min v2_1 r_5) fun r_6 => k_1 r_6
def Td_nextChange (v1 : Int32) (M : Mem) : Option Int32 :=
  LOOP (fun aq sq => Td_nextChange_L5 v1 M (fun (v2_3 : Int32) => some v2_3) aq sq.1 sq.2) FU (101, 0)
def SP_stays_L68 (v2_1 : Int32) (v3_1 : Int32) (kx : Int32 → Mem → Option (Int32 × Mem)) (ag : (Int32 × Int32 × Mem) → Option (Int32 × Mem)) (v4_1 : Int32) (v5_1 : Int32) (M3 : Mem) : Option (Int32 × Mem) :=
  if 100 < v5_1 then kx v4_1 M3 else if 100 < v4_1 then kx v4_1 M3 else Option.bind (SP_partOfYear v4_1 v2_1 26 M3) fun M4 => Option.bind (Pa_number 26 M4) fun r_5 => if r_5 = v3_1 then Option.bind (Td_nextChange v4_1 M4) fun r_6 => ag (r_6, v5_1 + 1, M4) else kx v4_1 M4
def SP_stays (v1 : Int32) (v2 : Int32) (M : Mem) : Option (Int32 × Mem) :=
  Option.bind (SP_isSameness v2) fun r_1 => if r_1 = 0 then bnd2 (SP_refuse (-1) M) fun r_2 M1 => some (r_2, M1) else if 0 ≤ v1 then if v1 ≤ 100 then Option.bind (SP_partOfYear v1 v2 26 M) fun M2 => Option.bind (Pa_number 26 M2) fun r_3 => Option.bind (Td_nextChange v1 M2) fun r_4 => LOOP (fun aq sq => SP_stays_L68 v2 r_3 (fun (v4_2 : Int32) (M5 : Mem) => some (v4_2 - v1, M5)) aq sq.1 sq.2.1 sq.2.2) FU (r_4, 0, M2) else bnd2 (SP_refuse (-6) M) fun r_7 M6 => some (r_7, M6) else bnd2 (SP_refuse (-4) M) fun r_8 M7 => some (r_8, M7)
def To_tiesInAll_L4 (M : Mem) (kx : Int32 → Option Int32) (ag : (Int32 × Int32) → Option Int32) (v1_1 : Int32) (v2_1 : Int32) : Option Int32 :=
  if 3 ≤ v2_1 then kx v1_1 else Option.bind (To_tiesOfKind v2_1 M) fun r_1 => nm (v1_1 + r_1) fun (v1_2 : Int32) => ag (v1_2, v2_1 + 1)
def To_tiesInAll (M : Mem) : Option Int32 :=
  LOOP (fun aq sq => To_tiesInAll_L4 M (fun (v1_3 : Int32) => some v1_3) aq sq.1 sq.2) FU (0, 0)
def SP_count (v1 : Int32) (M : Mem) : Option (Int32 × Mem) :=
  if v1 = 0 then some (M 1 2, M) else if v1 = 1 then some (M 4 1, M) else if v1 = 2 then Option.bind (SP_lookAt (M 0 12) M) fun M1 => Option.bind (To_tiesInAll M1) fun r_1 => some (r_1, M1) else if v1 = 3 then some (M 0 12, M) else if v1 = 4 then some (M 6 2, M) else if v1 = 5 then some (M 10 3, M) else if v1 < 11 then some ((-9), M) else if 16 < v1 then some ((-9), M) else Option.bind (SP_at 32 (v1 - 10) M) fun r_2 => some (r_2, M)
def MD_no (v1 : Int32) (M : Mem) : Option (Int32 × Mem) :=
  if inb (-v1) 7 then if inb (-v1) 7 then nm (wr M 34 (-v1) ((rd M 34 (-v1)) + 1)) fun (M1 : Mem) => some (v1, M1) else none else none
def MD_less (v1 : Int32) (M : Mem) : Option (Int32 × Mem) :=
  if inb (-v1) 7 then if inb (-v1) 7 then nm (wr M 34 (-v1) ((rd M 34 (-v1)) + 1)) fun (M1 : Mem) => some (1000000000 - v1, M1) else none else none
def MD_isIn (v0 : Int64) (v2 : Int64) (v4 : Int64) : Option Int32 :=
  if (lg_cmp v0 v2) < 0 then some 0 else if 0 < (lg_cmp v0 v4) then some 0 else some 1
def MD_out (v0 : Int64) (v2 : Int64) (v4 : Int64) : Option Int32 :=
  if 0 ≤ (lg_cmp v0 v2) then if (lg_cmp v0 v4) ≤ 0 then some 0 else some (-6) else some (-4)
def MD_isPerson (v1 : Int32) (M : Mem) : Option Int32 :=
  if v1 < 0 then some 0 else if (M 33 8) ≤ v1 then some 0 else some 1
def MD_isKind (v0 : Int32) : Option Int32 :=
  if v0 < 0 then some 0 else if 3 ≤ v0 then some 0 else some 1
def MD_isSameness (v0 : Int32) : Option Int32 :=
  if v0 < 0 then some 0 else if 5 ≤ v0 then some 0 else some 1
def MD_persons_L43 (kx : Mem → Option (Int32 × Mem)) (ag : (Int32 × Mem) → Option (Int32 × Mem)) (v4_1 : Int32) (M4 : Mem) : Option (Int32 × Mem) :=
  if 7 ≤ v4_1 then kx M4 else if inb v4_1 7 then nm (wr M4 35 v4_1 0) fun (M5 : Mem) => ag (v4_1 + 1, M5) else none
def MD_persons (v1 : Int32) (M : Mem) : Option (Int32 × Mem) :=
  Option.bind (MD_out v1.toInt64 1 7) fun r_1 => if r_1 = 0 then nm (M 33 8) fun (v3_1 : Int32) => nm (st2 M 33 8 v1) fun (M1 : Mem) => nm (st2 M1 33 9 0) fun (M2 : Mem) => nm (st2 M2 33 33 0) fun (M3 : Mem) => LOOP (fun aq sq => MD_persons_L43 (fun (M6 : Mem) => some (v3_1, M6)) aq sq.1 sq.2) FU (0, M3) else bnd2 (MD_no r_1 M) fun r_2 M7 => some (r_2, M7)
def MD_mark (v1 : Int32) (v2 : Int32) (M : Mem) : Option (Int32 × Mem) :=
  Option.bind (MD_isPerson v1 M) fun r_1 => if r_1 = 0 then bnd2 (MD_no (-1) M) fun r_2 M1 => some (r_2, M1) else Option.bind (MD_out v2.toInt64 0 3) fun r_3 => if r_3 = 0 then if inb v1 7 then nm (rd M 35 v1) fun (v4_1 : Int32) => if inb v1 7 then nm (wr M 35 v1 v2) fun (M2 : Mem) => some (v4_1, M2) else none else none else bnd2 (MD_no r_3 M) fun r_4 M3 => some (r_4, M3)
def MD_year (v1 : Int32) (M : Mem) : Option (Int32 × Mem) :=
  Option.bind (MD_out v1.toInt64 0 100) fun r_1 => if r_1 = 0 then nm (M 33 10) fun (v3_1 : Int32) => nm (st2 M 33 10 v1) fun (M1 : Mem) => some (v3_1, M1) else bnd2 (MD_no r_1 M) fun r_2 M2 => some (r_2, M2)
def MD_feed_L46 (v1_1 : Int32) (v2_1 : Int64) (kx : Mem → Option (Int32 × Mem)) (ag : (Int32 × Mem) → Option (Int32 × Mem)) (v5_1 : Int32) (M1 : Mem) : Option (Int32 × Mem) :=
  if v1_1 ≤ v5_1 then kx M1 else if inb (M1 33 12) 60 then nm (wr M1 42 (M1 33 12) (((v2_1 >>> ((8 * v5_1).toInt64 &&& 63)) &&& 255).toInt32)) fun (M2 : Mem) => nm (st2 M2 33 12 ((M2 33 12) + 1)) fun (M3 : Mem) => ag (v5_1 + 1, M3) else none
def MD_feed (v1 : Int32) (v2 : Int64) (M : Mem) : Option (Int32 × Mem) :=
  Option.bind (MD_out v1.toInt64 1 8) fun r_1 => jp (fun (v4_1 : Int32) => if v4_1 = 0 then LOOP (fun aq sq => MD_feed_L46 v1 v2 (fun (M4 : Mem) => some (M4 33 12, M4)) aq sq.1 sq.2) FU (0, M) else bnd2 (MD_no v4_1 M) fun r_2 M5 => some (r_2, M5)) fun (k_1 : Int32 → Option (Int32 × Mem)) => if r_1 = 0 then if ((M 33 12) + v1) ≤ 60 then k_1 r_1 else k_1 (-6) else k_1 r_1
def MD_sign (M : Mem) : Option Int32 :=
  if (M 33 12) ≤ (M 33 13) then some (-1) else if inb (M 33 13) 60 then some (rd M 42 (M 33 13)) else none
def MD_takes (v1 : Int32) (M : Mem) : Option (Int32 × Mem) :=
  Option.bind (MD_sign M) fun r_1 => if r_1 = v1 then nm (st2 M 33 13 ((M 33 13) + 1)) fun (M1 : Mem) => some (1, M1) else some (0, M)
def MD_takesIn (v1 : Int32) (v2 : Int32) (v3 : Int32) (M : Mem) : Option (Int32 × Mem) :=
  Option.bind (MD_sign M) fun r_1 => nm (r_1 - v1) fun (v4_1 : Int32) => Option.bind (MD_isIn v4_1.toInt64 v2.toInt64 v3.toInt64) fun r_2 => if r_2 = 0 then some ((-1), M) else nm (st2 M 33 13 ((M 33 13) + 1)) fun (M1 : Mem) => some (v4_1, M1)
def MD_years_L24 (kx : Int32 → Mem → Option (Int32 × Mem)) (ag : (Int32 × Int32 × Mem) → Option (Int32 × Mem)) (v3_1 : Int32) (v4_1 : Int32) (M2 : Mem) : Option (Int32 × Mem) :=
  if 3 ≤ v4_1 then kx v3_1 M2 else Option.bind (MD_sign M2) fun r_2 => Option.bind (MD_isIn r_2.toInt64 48 57) fun r_3 => if r_3 = 0 then kx v3_1 M2 else bnd2 (MD_takesIn 48 0 9 M2) fun r_4 M3 => nm ((10 * v3_1) + r_4) fun (v3_2 : Int32) => ag (v3_2, v4_1 + 1, M3)
def MD_years (v1 : Int32) (M : Mem) : Option (Int32 × Mem) :=
  nm (M 33 13) fun (v2_1 : Int32) => bnd2 (MD_takesIn 48 0 9 M) fun r_1 M1 => if 0 ≤ r_1 then LOOP (fun aq sq => MD_years_L24 (fun (v3_3 : Int32) (M4 : Mem) => if 100 < v3_3 then nm (st2 M4 33 13 v2_1) fun (M5 : Mem) => some ((-1), M5) else if v3_3 ≤ v1 then nm (st2 M4 33 13 v2_1) fun (M6 : Mem) => some ((-1), M6) else some (v3_3, M4)) aq sq.1 sq.2.1 sq.2.2) FU (r_1, 1, M1) else some ((-1), M1)
def MD_oneTie (M : Mem) : Option (Int32 × Mem) :=
  bnd2 (MD_takesIn 97 0 ((M 33 8) - 1) M) fun r_1 M1 => if r_1 < 0 then some (0, M1) else bnd2 (MD_takes 62 M1) fun r_2 M2 => if r_2 = 0 then some (0, M2) else Option.bind (MD_sign M2) fun r_3 => if r_3 = (97 + r_1) then some (0, M2) else bnd2 (MD_takesIn 97 0 ((M2 33 8) - 1) M2) fun r_4 M3 => if 0 ≤ r_4 then bnd2 (MD_takesIn 48 0 2 M3) fun r_5 M4 => if 0 ≤ r_5 then if inb (M4 33 14) 20 then nm (wr M4 46 (M4 33 14) 1) fun (M5 : Mem) => if inb (M5 33 14) 20 then nm (wr M5 47 (M5 33 14) 0) fun (M6 : Mem) => if inb (M6 33 14) 20 then nm (wr M6 48 (M6 33 14) 100) fun (M7 : Mem) => bnd2 (MD_takes 42 M7) fun r_6 M8 => jp (fun (M9 : Mem) => bnd2 (MD_takes 64 M9) fun r_7 M10 => jp (fun (M11 : Mem) => if inb (M11 33 14) 20 then nm (wr M11 43 (M11 33 14) r_1) fun (M12 : Mem) => if inb (M12 33 14) 20 then nm (wr M12 44 (M12 33 14) r_4) fun (M13 : Mem) => if inb (M13 33 14) 20 then nm (wr M13 45 (M13 33 14) r_5) fun (M14 : Mem) => nm (st2 M14 33 14 ((M14 33 14) + 1)) fun (M15 : Mem) => some (1, M15) else none else none else none) fun (k_2 : Mem → Option (Int32 × Mem)) => if r_7 = 0 then k_2 M10 else bnd2 (MD_years (-1) M10) fun r_8 M16 => if inb (M10 33 14) 20 then nm (wr M16 47 (M10 33 14) r_8) fun (M17 : Mem) => if inb (M17 33 14) 20 then if (rd M17 47 (M17 33 14)) < 0 then some (0, M17) else bnd2 (MD_takes 45 M17) fun r_9 M18 => if r_9 = 0 then some (0, M18) else if inb (M18 33 14) 20 then bnd2 (MD_years (rd M18 47 (M18 33 14)) M18) fun r_10 M19 => if inb (M18 33 14) 20 then nm (wr M19 48 (M18 33 14) r_10) fun (M20 : Mem) => if inb (M20 33 14) 20 then if 0 ≤ (rd M20 48 (M20 33 14)) then k_2 M20 else some (0, M20) else none else none else none else none else none) fun (k_1 : Mem → Option (Int32 × Mem)) => if r_6 = 0 then k_1 M8 else bnd2 (MD_takesIn 48 1 9 M8) fun r_11 M21 => if inb (M8 33 14) 20 then nm (wr M21 46 (M8 33 14) r_11) fun (M22 : Mem) => if inb (M22 33 14) 20 then if 0 ≤ (rd M22 46 (M22 33 14)) then k_1 M22 else some (0, M22) else none else none else none else none else none else some (0, M4) else some (0, M3)
def MD_reads_L19 (kx : Mem → Option (Int32 × Mem)) (ag : Mem → Option (Int32 × Mem)) (M4 : Mem) : Option (Int32 × Mem) :=
  bnd2 (MD_takes 59 M4) fun r_2 M5 => if r_2 = 0 then if (M5 33 13) = (M5 33 12) then some (1, M5) else some (0, M5) else bnd2 (MD_oneTie M5) fun r_3 M6 => if r_3 = 0 then kx M6 else ag M6
def MD_reads (M : Mem) : Option (Int32 × Mem) :=
  nm (st2 M 33 13 0) fun (M1 : Mem) => nm (st2 M1 33 14 0) fun (M2 : Mem) => bnd2 (MD_oneTie M2) fun r_1 M3 => if r_1 = 0 then some (0, M3) else LOOP (fun aq sq => MD_reads_L19 (fun (M7 : Mem) => some (0, M7)) aq sq) FU M3
def MD_ties_L45 (kx : Mem → Option (Int32 × Mem)) (ag : (Int32 × Mem) → Option (Int32 × Mem)) (v2_1 : Int32) (M3 : Mem) : Option (Int32 × Mem) :=
  if (M3 33 14) ≤ v2_1 then kx M3 else if inb v2_1 20 then if inb (M3 33 9) 60 then nm (wr M3 36 (M3 33 9) (rd M3 43 v2_1)) fun (M4 : Mem) => if inb v2_1 20 then if inb (M4 33 9) 60 then nm (wr M4 37 (M4 33 9) (rd M4 44 v2_1)) fun (M5 : Mem) => if inb v2_1 20 then if inb (M5 33 9) 60 then nm (wr M5 38 (M5 33 9) (rd M5 45 v2_1)) fun (M6 : Mem) => if inb v2_1 20 then if inb (M6 33 9) 60 then nm (wr M6 39 (M6 33 9) (rd M6 46 v2_1)) fun (M7 : Mem) => if inb v2_1 20 then if inb (M7 33 9) 60 then nm (wr M7 40 (M7 33 9) (rd M7 47 v2_1)) fun (M8 : Mem) => if inb v2_1 20 then if inb (M8 33 9) 60 then nm (wr M8 41 (M8 33 9) (rd M8 48 v2_1)) fun (M9 : Mem) => nm (st2 M9 33 9 ((M9 33 9) + 1)) fun (M10 : Mem) => ag (v2_1 + 1, M10) else none else none else none else none else none else none else none else none else none else none else none else none
def MD_ties (M : Mem) : Option (Int32 × Mem) :=
  bnd2 (MD_reads M) fun r_1 M1 => nm (st2 M1 33 12 0) fun (M2 : Mem) => if r_1 = 0 then some ((-20) - (M2 33 13), M2) else if ((M2 33 9) + (M2 33 14)) ≤ 60 then LOOP (fun aq sq => MD_ties_L45 (fun (M11 : Mem) => some (M11 33 9, M11)) aq sq.1 sq.2) FU (0, M2) else bnd2 (MD_no (-6) M2) fun r_2 M12 => some (r_2, M12)
def MD_untie_L24 (kx : Mem → Option (Int32 × Mem)) (ag : (Int32 × Mem) → Option (Int32 × Mem)) (v2_1 : Int32) (M2 : Mem) : Option (Int32 × Mem) :=
  if ((M2 33 9) - 1) ≤ v2_1 then kx M2 else if inb (v2_1 + 1) 60 then if inb v2_1 60 then nm (wr M2 36 v2_1 (rd M2 36 (v2_1 + 1))) fun (M3 : Mem) => if inb (v2_1 + 1) 60 then if inb v2_1 60 then nm (wr M3 37 v2_1 (rd M3 37 (v2_1 + 1))) fun (M4 : Mem) => if inb (v2_1 + 1) 60 then if inb v2_1 60 then nm (wr M4 38 v2_1 (rd M4 38 (v2_1 + 1))) fun (M5 : Mem) => if inb (v2_1 + 1) 60 then if inb v2_1 60 then nm (wr M5 39 v2_1 (rd M5 39 (v2_1 + 1))) fun (M6 : Mem) => if inb (v2_1 + 1) 60 then if inb v2_1 60 then nm (wr M6 40 v2_1 (rd M6 40 (v2_1 + 1))) fun (M7 : Mem) => if inb (v2_1 + 1) 60 then if inb v2_1 60 then nm (wr M7 41 v2_1 (rd M7 41 (v2_1 + 1))) fun (M8 : Mem) => ag (v2_1 + 1, M8) else none else none else none else none else none else none else none else none else none else none else none else none
def MD_untie (v1 : Int32) (M : Mem) : Option (Int32 × Mem) :=
  Option.bind (MD_isIn v1.toInt64 0 (((M 33 9) - 1).toInt64)) fun r_1 => if r_1 = 0 then bnd2 (MD_no (-1) M) fun r_2 M1 => some (r_2, M1) else LOOP (fun aq sq => MD_untie_L24 (fun (M9 : Mem) => nm (st2 M9 33 9 ((M9 33 9) - 1)) fun (M10 : Mem) => some (1, M10)) aq sq.1 sq.2) FU (v1, M)
def MD_findTies_L2 (kx : Mem → Option Mem) (ag : (Int32 × Mem) → Option Mem) (v2_1 : Int32) (M1 : Mem) : Option Mem :=
  if 147 ≤ v2_1 then kx M1 else if inb v2_1 147 then nm (wr M1 49 v2_1 0) fun (M2 : Mem) => ag (v2_1 + 1, M2) else none
def MD_findTies_L24 (v1_2 : Int32) (kx : Mem → Option Mem) (ag : (Int32 × Mem) → Option Mem) (v2_2 : Int32) (M4 : Mem) : Option Mem :=
  if (M4 33 9) ≤ v2_2 then kx M4 else if inb v2_2 60 then if v1_2 < (rd M4 40 v2_2) then ag (v2_2 + 1, M4) else if inb v2_2 60 then if (rd M4 41 v2_2) ≤ v1_2 then ag (v2_2 + 1, M4) else if inb v2_2 60 then if inb v2_2 60 then if inb v2_2 60 then if inb v2_2 60 then if inb (((49 * (rd M4 38 v2_2)) + (7 * (rd M4 36 v2_2))) + (rd M4 37 v2_2)) 147 then nm (wr M4 49 (((49 * (rd M4 38 v2_2)) + (7 * (rd M4 36 v2_2))) + (rd M4 37 v2_2)) (rd M4 39 v2_2)) fun (M5 : Mem) => ag (v2_2 + 1, M5) else none else none else none else none else none else none else none
def MD_findTies (v1 : Int32) (M : Mem) : Option Mem :=
  LOOP (fun aq sq => MD_findTies_L2 (fun (M3 : Mem) => LOOP (fun aq sq => MD_findTies_L24 v1 (fun (M6 : Mem) => some M6) aq sq.1 sq.2) FU (0, M3)) aq sq.1 sq.2) FU (0, M)
def MD_strong (v1 : Int32) (v2 : Int32) (v3 : Int32) (M : Mem) : Option Int32 :=
  if inb (((49 * v1) + (7 * v2)) + v3) 147 then some (rd M 49 (((49 * v1) + (7 * v2)) + v3)) else none
def MD_has (v1 : Int32) (v2 : Int32) (v3 : Int32) (M : Mem) : Option Int32 :=
  Option.bind (MD_strong v1 v2 v3 M) fun r_1 => if r_1 ≤ 0 then some 0 else some 1
def MD_tie (v1 : Int32) (v2 : Int32) (v3 : Int32) (M : Mem) : Option (Int32 × Mem) :=
  Option.bind (MD_isKind v1) fun r_1 => jp (fun (M1 : Mem) => bnd2 (MD_no (-1) M1) fun r_2 M2 => some (r_2, M2)) fun (k_1 : Mem → Option (Int32 × Mem)) => if r_1 = 0 then k_1 M else Option.bind (MD_isPerson v2 M) fun r_3 => if r_3 = 0 then k_1 M else Option.bind (MD_isPerson v3 M) fun r_4 => if r_4 = 0 then k_1 M else if v2 = v3 then k_1 M else Option.bind (MD_findTies (M 33 10) M) fun M3 => Option.bind (MD_strong v1 v2 v3 M3) fun r_5 => some (r_5, M3)
def MD_degree_L35 (v1_1 : Int32) (v2_1 : Int32) (v3_1 : Int32) (M3 : Mem) (kx : Int32 → Option (Int32 × Mem)) (ag : (Int32 × Int32) → Option (Int32 × Mem)) (v4_1 : Int32) (v5_1 : Int32) : Option (Int32 × Mem) :=
  if (M3 33 8) ≤ v5_1 then kx v4_1 else if v3_1 = 0 then Option.bind (MD_has v1_1 v2_1 v5_1 M3) fun r_4 => if r_4 = 0 then nm (v4_1 + 0) fun (v4_2 : Int32) => ag (v4_2, v5_1 + 1) else nm (v4_1 + 1) fun (v4_3 : Int32) => ag (v4_3, v5_1 + 1) else Option.bind (MD_has v1_1 v5_1 v2_1 M3) fun r_5 => if r_5 = 0 then nm (v4_1 + 0) fun (v4_4 : Int32) => ag (v4_4, v5_1 + 1) else nm (v4_1 + 1) fun (v4_5 : Int32) => ag (v4_5, v5_1 + 1)
def MD_degree (v1 : Int32) (v2 : Int32) (v3 : Int32) (M : Mem) : Option (Int32 × Mem) :=
  Option.bind (MD_isKind v1) fun r_1 => jp (fun (M1 : Mem) => bnd2 (MD_no (-1) M1) fun r_2 M2 => some (r_2, M2)) fun (k_1 : Mem → Option (Int32 × Mem)) => if r_1 = 0 then k_1 M else Option.bind (MD_isPerson v2 M) fun r_3 => if r_3 = 0 then k_1 M else Option.bind (MD_findTies (M 33 10) M) fun M3 => LOOP (fun aq sq => MD_degree_L35 v1 v2 v3 M3 (fun (v4_6 : Int32) => some (v4_6, M3)) aq sq.1 sq.2) FU (0, 0)
def MD_opens_L16 (k2 : Nat) (kx : Int32 → Mem → Option (Int32 × Mem)) (ag : (Int32 × Int32 × Mem) → Option (Int32 × Mem)) (v3_1 : Int32) (v4_2 : Int32) (M1 : Mem) : Option (Int32 × Mem) :=
  if v4_2 < 0 then kx v3_1 M1 else if inb v4_2 (aln k2) then nm (wr M1 k2 v4_2 (jrem v3_1 10)) fun (M2 : Mem) => nm (v3_1 / 10) fun (v3_2 : Int32) => ag (v3_2, v4_2 + (-1), M2) else none
def MD_opens_L52 (k2 : Nat) (M3 : Mem) (kx : Int32 → Option (Int32 × Mem)) (ag : (Int32 × Int32) → Option (Int32 × Mem)) (v4_3 : Int32) (v5_1 : Int32) : Option (Int32 × Mem) :=
  if (M3 33 8) ≤ v5_1 then kx v4_3 else if inb v5_1 (aln k2) then if (rd M3 k2 v5_1) ≤ v4_3 then if inb v5_1 (aln k2) then if (rd M3 k2 v5_1) = v4_3 then ag (v4_3 + 1, v5_1 + 1) else ag (v4_3, v5_1 + 1) else none else some ((-1), M3) else none
def MD_opens (v1 : Int32) (k2 : Nat) (M : Mem) : Option (Int32 × Mem) :=
  if 0 ≤ v1 then nm ((M 33 8) - 1) fun (v4_1 : Int32) => LOOP (fun aq sq => MD_opens_L16 k2 (fun (v3_3 : Int32) (M3 : Mem) => if v3_3 = 0 then LOOP (fun aq sq => MD_opens_L52 k2 M3 (fun (v4_4 : Int32) => some (v4_4, M3)) aq sq.1 sq.2) FU (0, 0) else some ((-1), M3)) aq sq.1 sq.2.1 sq.2.2) FU (v1, v4_1, M) else some ((-1), M)
def MD_number_L26 (k1 : Nat) (v4_2 : Int32) (M1 : Mem) (kx : Int32 → Option (Int32 × Mem)) (ag : (Int32 × Int32) → Option (Int32 × Mem)) (v5_1 : Int32) (v6_2 : Int32) : Option (Int32 × Mem) :=
  if v6_2 < 0 then kx v5_1 else if inb v6_2 (aln k1) then if inb v4_2 (aln k1) then if (rd M1 k1 v6_2) = (rd M1 k1 v4_2) then ag (v6_2, v6_2 + (-1)) else ag (v5_1, v6_2 + (-1)) else none else none
def MD_number_L7 (k1 : Nat) (kx : Int32 → Mem → Option (Int32 × Mem)) (ag : (Int32 × Int32 × Int32 × Mem) → Option (Int32 × Mem)) (v2_1 : Int32) (v3_1 : Int32) (v4_1 : Int32) (M1 : Mem) : Option (Int32 × Mem) :=
  if (M1 33 8) ≤ v4_1 then kx v2_1 M1 else nm (v4_1 - 1) fun (v6_1 : Int32) => LOOP (fun aq sq => MD_number_L26 k1 v4_1 M1 (fun (v5_2 : Int32) => jp (fun (v3_3 : Int32) (M2 : Mem) => if inb v4_1 7 then nm ((10 * v2_1) + (rd M2 53 v4_1)) fun (v2_3 : Int32) => ag (v2_3, v3_3, v4_1 + 1, M2) else none) fun (k_1 : Int32 → Mem → Option (Int32 × Mem)) => if v5_2 = v4_1 then if inb v4_1 7 then nm (wr M1 53 v4_1 v3_1) fun (M3 : Mem) => k_1 (v3_1 + 1) M3 else none else if inb v5_2 7 then if inb v4_1 7 then nm (wr M1 53 v4_1 (rd M1 53 v5_2)) fun (M4 : Mem) => k_1 v3_1 M4 else none else none) aq sq.1 sq.2) FU (v4_1, v6_1)
def MD_number (k1 : Nat) (M : Mem) : Option (Int32 × Mem) :=
  LOOP (fun aq sq => MD_number_L7 k1 (fun (v2_4 : Int32) (M5 : Mem) => some (v2_4, M5)) aq sq.1 sq.2.1 sq.2.2.1 sq.2.2.2) FU (0, 0, 0, M)
def MD_parting (v1 : Int32) (M : Mem) : Option (Int32 × Mem) :=
  bnd2 (MD_opens v1 50 M) fun r_1 M1 => if 0 ≤ r_1 then some (r_1, M1) else bnd2 (MD_no (-1) M1) fun r_2 M2 => some (r_2, M2)
def MD_led_L6 (v1_1 : Int32) (v2_1 : Int32) (v3_1 : Int32) (v4_1 : Int32) (M : Mem) (kx : Int32 → Option Int32) (ag : (Int32 × Int32) → Option Int32) (v5_1 : Int32) (v6_1 : Int32) : Option Int32 :=
  if (M 33 8) ≤ v6_1 then kx v5_1 else if inb v6_1 7 then if (rd M 50 v6_1) = v3_1 then if v4_1 = 0 then Option.bind (MD_has v1_1 v2_1 v6_1 M) fun r_1 => if r_1 = 0 then nm (v5_1 + 0) fun (v5_2 : Int32) => ag (v5_2, v6_1 + 1) else nm (v5_1 + 1) fun (v5_3 : Int32) => ag (v5_3, v6_1 + 1) else Option.bind (MD_has v1_1 v6_1 v2_1 M) fun r_2 => if r_2 = 0 then nm (v5_1 + 0) fun (v5_4 : Int32) => ag (v5_4, v6_1 + 1) else nm (v5_1 + 1) fun (v5_5 : Int32) => ag (v5_5, v6_1 + 1) else nm (v5_1 + 0) fun (v5_6 : Int32) => ag (v5_6, v6_1 + 1) else none
def MD_led (v1 : Int32) (v2 : Int32) (v3 : Int32) (v4 : Int32) (M : Mem) : Option Int32 :=
  LOOP (fun aq sq => MD_led_L6 v1 v2 v3 v4 M (fun (v5_7 : Int32) => some v5_7) aq sq.1 sq.2) FU (0, 0)
def MD_seen (v0 : Int32) (v1 : Int32) : Option Int32 :=
  if v1 = 0 then if v0 ≤ 0 then some 0 else some 1 else some v0
def MD_areLed_L12 (v1_2 : Int32) (v2_2 : Int32) (v3_2 : Int32) (v4_2 : Int32) (M : Mem) (kx : Option Int32) (ag : Int32 → Option Int32) (v5_1 : Int32) : Option Int32 :=
  if (M 33 8) ≤ v5_1 then kx else Option.bind (MD_led v4_2 v1_2 v5_1 0 M) fun r_1 => Option.bind (MD_seen r_1 v3_2) fun r_2 => Option.bind (MD_led v4_2 v2_2 v5_1 0 M) fun r_3 => Option.bind (MD_seen r_3 v3_2) fun r_4 => if r_2 = r_4 then Option.bind (MD_led v4_2 v1_2 v5_1 1 M) fun r_5 => Option.bind (MD_seen r_5 v3_2) fun r_6 => Option.bind (MD_led v4_2 v2_2 v5_1 1 M) fun r_7 => Option.bind (MD_seen r_7 v3_2) fun r_8 => if r_6 = r_8 then ag (v5_1 + 1) else some 0 else some 0
def MD_areLed_L3 (v1_1 : Int32) (v2_1 : Int32) (v3_1 : Int32) (M : Mem) (kx : Option Int32) (ag : Int32 → Option Int32) (v4_1 : Int32) : Option Int32 :=
  if 3 ≤ v4_1 then kx else LOOP (fun aq sq => MD_areLed_L12 v1_1 v2_1 v3_1 v4_1 M (ag (v4_1 + 1)) aq sq) FU 0
def MD_areLed (v1 : Int32) (v2 : Int32) (v3 : Int32) (M : Mem) : Option Int32 :=
  LOOP (fun aq sq => MD_areLed_L3 v1 v2 v3 M (some 1) aq sq) FU 0
def MD_areTied_L41 (v1_2 : Int32) (v2_2 : Int32) (v3_2 : Int32) (v4_2 : Int32) (M : Mem) (kx : Option Int32) (ag : Int32 → Option Int32) (v5_1 : Int32) : Option Int32 :=
  if (M 33 8) ≤ v5_1 then kx else if v5_1 = v1_2 then ag (v5_1 + 1) else if v5_1 = v2_2 then ag (v5_1 + 1) else Option.bind (MD_strong v4_2 v1_2 v5_1 M) fun r_5 => Option.bind (MD_seen r_5 v3_2) fun r_6 => Option.bind (MD_strong v4_2 v2_2 v5_1 M) fun r_7 => Option.bind (MD_seen r_7 v3_2) fun r_8 => if r_6 = r_8 then Option.bind (MD_strong v4_2 v5_1 v1_2 M) fun r_9 => Option.bind (MD_seen r_9 v3_2) fun r_10 => Option.bind (MD_strong v4_2 v5_1 v2_2 M) fun r_11 => Option.bind (MD_seen r_11 v3_2) fun r_12 => if r_10 = r_12 then ag (v5_1 + 1) else some 0 else some 0
def MD_areTied_L3 (v1_1 : Int32) (v2_1 : Int32) (v3_1 : Int32) (M : Mem) (kx : Option Int32) (ag : Int32 → Option Int32) (v4_1 : Int32) : Option Int32 :=
  if 3 ≤ v4_1 then kx else Option.bind (MD_strong v4_1 v1_1 v2_1 M) fun r_1 => Option.bind (MD_seen r_1 v3_1) fun r_2 => Option.bind (MD_strong v4_1 v2_1 v1_1 M) fun r_3 => Option.bind (MD_seen r_3 v3_1) fun r_4 => if r_2 = r_4 then LOOP (fun aq sq => MD_areTied_L41 v1_1 v2_1 v3_1 v4_1 M (ag (v4_1 + 1)) aq sq) FU 0 else some 0
def MD_areTied (v1 : Int32) (v2 : Int32) (v3 : Int32) (M : Mem) : Option Int32 :=
  LOOP (fun aq sq => MD_areTied_L3 v1 v2 v3 M (some 1) aq sq) FU 0
def MD_areSo (v1 : Int32) (v2 : Int32) (v3 : Int32) (M : Mem) : Option Int32 :=
  if inb v1 7 then if inb v2 7 then if (rd M 35 v1) = (rd M 35 v2) then if v3 = 0 then some 1 else if 3 ≤ v3 then jp (fun (s_1 : Int32) => Option.bind (MD_areLed v1 v2 s_1 M) fun r_1 => some (bz r_1)) fun (k_1 : Int32 → Option Int32) => if v3 = 4 then k_1 1 else k_1 0 else jp (fun (s_2 : Int32) => Option.bind (MD_areTied v1 v2 s_2 M) fun r_2 => some (bz r_2)) fun (k_2 : Int32 → Option Int32) => if v3 = 2 then k_2 1 else k_2 0 else some 0 else none else none
def MD_judged_L14 (v1_2 : Int32) (v2_2 : Int32) (M : Mem) (kx : Option Int32) (ag : Int32 → Option Int32) (v3_2 : Int32) : Option Int32 :=
  if (M 33 8) ≤ v3_2 then kx else if inb v2_2 7 then if inb v3_2 7 then if (rd M 50 v2_2) = (rd M 50 v3_2) then Option.bind (MD_areSo v2_2 v3_2 v1_2 M) fun r_1 => if r_1 = 0 then some ((10 * v2_2) + v3_2) else ag (v3_2 + 1) else ag (v3_2 + 1) else none else none
def MD_judged_L2 (v1_1 : Int32) (M : Mem) (kx : Option Int32) (ag : Int32 → Option Int32) (v2_1 : Int32) : Option Int32 :=
  if (M 33 8) ≤ v2_1 then kx else nm (v2_1 + 1) fun (v3_1 : Int32) => LOOP (fun aq sq => MD_judged_L14 v1_1 v2_1 M (ag (v2_1 + 1)) aq sq) FU v3_1
def MD_judged (v1 : Int32) (M : Mem) : Option Int32 :=
  LOOP (fun aq sq => MD_judged_L2 v1 M (some (-9)) aq sq) FU 0
def MD_judge (v1 : Int32) (v2 : Int32) (M : Mem) : Option (Int32 × Mem) :=
  bnd2 (MD_opens v1 50 M) fun r_1 M1 => jp (fun (M2 : Mem) => bnd2 (MD_no (-1) M2) fun r_2 M3 => some (r_2, M3)) fun (k_1 : Mem → Option (Int32 × Mem)) => if r_1 < 0 then k_1 M1 else Option.bind (MD_isSameness v2) fun r_3 => if r_3 = 0 then k_1 M1 else Option.bind (MD_findTies (M1 33 10) M1) fun M4 => Option.bind (MD_judged v2 M4) fun r_4 => some (r_4, M4)
def MD_splits_L28 (v1_3 : Int32) (v3_2 : Int32) (kx : Mem → Option (Int32 × Mem)) (ag : (Int32 × Mem) → Option (Int32 × Mem)) (v4_2 : Int32) (M4 : Mem) : Option (Int32 × Mem) :=
  if v4_2 < 0 then kx M4 else if inb v3_2 7 then if inb v4_2 7 then if (rd M4 50 v3_2) = (rd M4 50 v4_2) then Option.bind (MD_areSo v4_2 v3_2 v1_3 M4) fun r_1 => if r_1 = 0 then if inb v3_2 7 then if inb v3_2 7 then nm (wr M4 52 v3_2 (rd M4 52 v3_2)) fun (M5 : Mem) => ag (v4_2 + (-1), M5) else none else none else if inb v4_2 7 then if inb v3_2 7 then nm (wr M4 52 v3_2 (rd M4 52 v4_2)) fun (M6 : Mem) => ag (v4_2 + (-1), M6) else none else none else if inb v3_2 7 then if inb v3_2 7 then nm (wr M4 52 v3_2 (rd M4 52 v3_2)) fun (M7 : Mem) => ag (v4_2 + (-1), M7) else none else none else none else none
def MD_splits_L8 (v1_2 : Int32) (kx : Mem → Option (Int32 × Mem)) (ag : (Int32 × Mem) → Option (Int32 × Mem)) (v3_1 : Int32) (M2 : Mem) : Option (Int32 × Mem) :=
  if (M2 33 8) ≤ v3_1 then kx M2 else if inb v3_1 7 then nm (wr M2 52 v3_1 v3_1) fun (M3 : Mem) => nm (v3_1 - 1) fun (v4_1 : Int32) => LOOP (fun aq sq => MD_splits_L28 v1_2 v3_1 (fun (M8 : Mem) => ag (v3_1 + 1, M8)) aq sq.1 sq.2) FU (v4_1, M3) else none
def MD_splits_L2 (v1_1 : Int32) (kx : Mem → Option (Int32 × Mem)) (ag : (Int32 × Mem) → Option (Int32 × Mem)) (v2_1 : Int32) (M1 : Mem) : Option (Int32 × Mem) :=
  if v2_1 = 0 then kx M1 else LOOP (fun aq sq => MD_splits_L8 v1_1 (fun (M9 : Mem) => bnd2 (MD_number 50 M9) fun r_2 M10 => bnd2 (MD_number 52 M10) fun r_3 M11 => jp (fun (s_1 : Int32) => bnd2 (MD_opens r_3 50 M11) fun r_4 M12 => ag (s_1, M12)) fun (k_1 : Int32 → Option (Int32 × Mem)) => if r_3 = r_2 then k_1 0 else k_1 1) aq sq.1 sq.2) FU (0, M1)
def MD_splits (v1 : Int32) (M : Mem) : Option (Int32 × Mem) :=
  LOOP (fun aq sq => MD_splits_L2 v1 (fun (M13 : Mem) => bnd2 (MD_number 50 M13) fun r_5 M14 => some (r_5, M14)) aq sq.1 sq.2) FU (1, M)
def MD_coarsest (v1 : Int32) (v2 : Int32) (M : Mem) : Option (Int32 × Mem) :=
  bnd2 (MD_opens v1 50 M) fun r_1 M1 => jp (fun (M2 : Mem) => bnd2 (MD_no (-1) M2) fun r_2 M3 => some (r_2, M3)) fun (k_1 : Mem → Option (Int32 × Mem)) => if r_1 < 0 then k_1 M1 else Option.bind (MD_isSameness v2) fun r_3 => if r_3 = 0 then k_1 M1 else Option.bind (MD_findTies (M1 33 10) M1) fun M4 => bnd2 (MD_splits v2 M4) fun r_4 M5 => some (r_4, M5)
def MD_firstNames_L2 (kx : Mem → Option Mem) (ag : (Int32 × Mem) → Option Mem) (v1_1 : Int32) (M1 : Mem) : Option Mem :=
  if 7 ≤ v1_1 then kx M1 else if inb v1_1 7 then nm (wr M1 54 v1_1 v1_1) fun (M2 : Mem) => ag (v1_1 + 1, M2) else none
def MD_firstNames (M : Mem) : Option Mem :=
  LOOP (fun aq sq => MD_firstNames_L2 (fun (M3 : Mem) => some M3) aq sq.1 sq.2) FU (0, M)
def MD_nextNames_L4 (M : Mem) (kx : Int32 → Option (Int32 × Mem)) (ag : Int32 → Option (Int32 × Mem)) (v2_2 : Int32) : Option (Int32 × Mem) :=
  if v2_2 < 0 then kx v2_2 else if inb v2_2 7 then if inb (v2_2 + 1) 7 then if (rd M 54 v2_2) ≤ (rd M 54 (v2_2 + 1)) then kx v2_2 else ag (v2_2 + (-1)) else none else none
def MD_nextNames_L41 (v2_4 : Int32) (M : Mem) (kx : Int32 → Option (Int32 × Mem)) (ag : Int32 → Option (Int32 × Mem)) (v3_2 : Int32) : Option (Int32 × Mem) :=
  if inb v3_2 7 then if inb v2_4 7 then if (rd M 54 v2_4) ≤ (rd M 54 v3_2) then kx v3_2 else ag (v3_2 + (-1)) else none else none
def MD_nextNames_L100 (kx : Mem → Option (Int32 × Mem)) (ag : (Int32 × Int32 × Mem) → Option (Int32 × Mem)) (v5_2 : Int32) (v6_2 : Int32) (M3 : Mem) : Option (Int32 × Mem) :=
  if v6_2 ≤ v5_2 then kx M3 else if inb v5_2 7 then nm (rd M3 54 v5_2) fun (v4_2 : Int32) => if inb v6_2 7 then if inb v5_2 7 then nm (wr M3 54 v5_2 (rd M3 54 v6_2)) fun (M4 : Mem) => if inb v6_2 7 then nm (wr M4 54 v6_2 v4_2) fun (M5 : Mem) => ag (v5_2 + 1, v6_2 + (-1), M5) else none else none else none else none
def MD_nextNames (v1 : Int32) (M : Mem) : Option (Int32 × Mem) :=
  nm (v1 - 2) fun (v2_1 : Int32) => LOOP (fun aq sq => MD_nextNames_L4 M (fun (v2_3 : Int32) => if 0 ≤ v2_3 then nm (v1 - 1) fun (v3_1 : Int32) => LOOP (fun aq sq => MD_nextNames_L41 v2_3 M (fun (v3_3 : Int32) => if inb v2_3 7 then nm (rd M 54 v2_3) fun (v4_1 : Int32) => if inb v3_3 7 then if inb v2_3 7 then nm (wr M 54 v2_3 (rd M 54 v3_3)) fun (M1 : Mem) => if inb v3_3 7 then nm (wr M1 54 v3_3 v4_1) fun (M2 : Mem) => nm (v2_3 + 1) fun (v5_1 : Int32) => nm (v1 - 1) fun (v6_1 : Int32) => LOOP (fun aq sq => MD_nextNames_L100 (fun (M6 : Mem) => some (1, M6)) aq sq.1 sq.2.1 sq.2.2) FU (v5_1, v6_1, M2) else none else none else none else none) aq sq) FU v3_1 else some (0, M)) aq sq) FU v2_1
def MD_isTurn_L44 (v1_3 : Int32) (v2_2 : Int32) (M : Mem) (kx : Option Int32) (ag : Int32 → Option Int32) (v3_1 : Int32) : Option Int32 :=
  if 3 ≤ v3_1 then kx else Option.bind (MD_strong v3_1 v1_3 v2_2 M) fun r_1 => if inb v1_3 7 then if inb v2_2 7 then Option.bind (MD_strong v3_1 (rd M 54 v1_3) (rd M 54 v2_2) M) fun r_2 => if r_1 = r_2 then ag (v3_1 + 1) else some 0 else none else none
def MD_isTurn_L34 (v1_2 : Int32) (M : Mem) (kx : Option Int32) (ag : Int32 → Option Int32) (v2_1 : Int32) : Option Int32 :=
  if (M 33 8) ≤ v2_1 then kx else LOOP (fun aq sq => MD_isTurn_L44 v1_2 v2_1 M (ag (v2_1 + 1)) aq sq) FU 0
def MD_isTurn_L2 (M : Mem) (kx : Option Int32) (ag : Int32 → Option Int32) (v1_1 : Int32) : Option Int32 :=
  if (M 33 8) ≤ v1_1 then kx else if inb v1_1 7 then if inb v1_1 7 then if inb (rd M 54 v1_1) 7 then if (rd M 35 v1_1) = (rd M 35 (rd M 54 v1_1)) then LOOP (fun aq sq => MD_isTurn_L34 v1_1 M (ag (v1_1 + 1)) aq sq) FU 0 else some 0 else none else none else none
def MD_isTurn (M : Mem) : Option Int32 :=
  LOOP (fun aq sq => MD_isTurn_L2 M (some 1) aq sq) FU 0
def MD_findTurns_L10 (kx : Mem → Option (Int32 × Mem)) (ag : (Int32 × Mem) → Option (Int32 × Mem)) (v1_1 : Int32) (M2 : Mem) : Option (Int32 × Mem) :=
  if 49 ≤ v1_1 then kx M2 else if inb v1_1 49 then nm (wr M2 57 v1_1 (bz 0)) fun (M3 : Mem) => ag (v1_1 + 1, M3) else none
def MD_findTurns_L53 (kx : Mem → Option (Int32 × Mem)) (ag : (Int32 × Mem) → Option (Int32 × Mem)) (v3_1 : Int32) (M9 : Mem) : Option (Int32 × Mem) :=
  if (M9 33 8) ≤ v3_1 then kx M9 else if inb v3_1 7 then if inb ((7 * v3_1) + (rd M9 54 v3_1)) 49 then nm (wr M9 57 ((7 * v3_1) + (rd M9 54 v3_1)) (bz 1)) fun (M10 : Mem) => ag (v3_1 + 1, M10) else none else none
def MD_findTurns_L37 (kx : Int32 → Mem → Option (Int32 × Mem)) (ag : (Int32 × Int32 × Mem) → Option (Int32 × Mem)) (v1_2 : Int32) (v2_1 : Int32) (M6 : Mem) : Option (Int32 × Mem) :=
  if v2_1 = 0 then kx v1_2 M6 else Option.bind (MD_isTurn M6) fun r_1 => jp (fun (v1_3 : Int32) (M7 : Mem) => bnd2 (MD_nextNames (M7 33 8) M7) fun r_2 M8 => ag (v1_3, r_2, M8)) fun (k_1 : Int32 → Mem → Option (Int32 × Mem)) => if r_1 = 0 then k_1 v1_2 M6 else LOOP (fun aq sq => MD_findTurns_L53 (fun (M11 : Mem) => k_1 (v1_2 + 1) M11) aq sq.1 sq.2) FU (0, M6)
def MD_findTurns (M : Mem) : Option (Int32 × Mem) :=
  Option.bind (MD_findTies (M 33 10) M) fun M1 => LOOP (fun aq sq => MD_findTurns_L10 (fun (M4 : Mem) => Option.bind (MD_firstNames M4) fun M5 => LOOP (fun aq sq => MD_findTurns_L37 (fun (v1_5 : Int32) (M12 : Mem) => some (v1_5, M12)) aq sq.1 sq.2.1 sq.2.2) FU (0, 1, M5)) aq sq.1 sq.2) FU (0, M1)
def MD_renamings (M : Mem) : Option (Int32 × Mem) :=
  bnd2 (MD_findTurns M) fun r_1 M1 => some (r_1, M1)
def MD_moves (v1 : Int32) (v2 : Int32) (M : Mem) : Option (Int32 × Mem) :=
  Option.bind (MD_isPerson v1 M) fun r_1 => jp (fun (M1 : Mem) => bnd2 (MD_no (-1) M1) fun r_2 M2 => some (r_2, M2)) fun (k_1 : Mem → Option (Int32 × Mem)) => if r_1 = 0 then k_1 M else Option.bind (MD_isPerson v2 M) fun r_3 => if r_3 = 0 then k_1 M else bnd2 (MD_findTurns M) fun r_4 M3 => if inb ((7 * v1) + v2) 49 then if (rd M3 57 ((7 * v1) + v2)) = 0 then some (0, M3) else some (1, M3) else none
def MD_orbits_L26 (v1_2 : Int32) (kx : Mem → Option (Int32 × Mem)) (ag : (Int32 × Mem) → Option (Int32 × Mem)) (v2_2 : Int32) (M4 : Mem) : Option (Int32 × Mem) :=
  if v2_2 < 0 then kx M4 else if inb ((7 * v1_2) + v2_2) 49 then if (rd M4 57 ((7 * v1_2) + v2_2)) = 0 then if inb v1_2 7 then if inb v1_2 7 then nm (wr M4 52 v1_2 (rd M4 52 v1_2)) fun (M5 : Mem) => ag (v2_2 + (-1), M5) else none else none else if inb v1_2 7 then nm (wr M4 52 v1_2 v2_2) fun (M6 : Mem) => ag (v2_2 + (-1), M6) else none else none
def MD_orbits_L7 (kx : Mem → Option (Int32 × Mem)) (ag : (Int32 × Mem) → Option (Int32 × Mem)) (v1_1 : Int32) (M2 : Mem) : Option (Int32 × Mem) :=
  if (M2 33 8) ≤ v1_1 then kx M2 else if inb v1_1 7 then nm (wr M2 52 v1_1 v1_1) fun (M3 : Mem) => nm (v1_1 - 1) fun (v2_1 : Int32) => LOOP (fun aq sq => MD_orbits_L26 v1_1 (fun (M7 : Mem) => ag (v1_1 + 1, M7)) aq sq.1 sq.2) FU (v2_1, M3) else none
def MD_orbits (M : Mem) : Option (Int32 × Mem) :=
  bnd2 (MD_findTurns M) fun r_1 M1 => LOOP (fun aq sq => MD_orbits_L7 (fun (M8 : Mem) => bnd2 (MD_number 52 M8) fun r_2 M9 => some (r_2, M9)) aq sq.1 sq.2) FU (0, M1)
def MD_form_L43 (kx : Int32 → Mem → Option (Int32 × Mem)) (ag : (Int32 × Int32 × Mem) → Option (Int32 × Mem)) (v4_1 : Int32) (v5_1 : Int32) (M4 : Mem) : Option (Int32 × Mem) :=
  if (M4 33 8) ≤ v5_1 then kx v4_1 M4 else if inb v5_1 7 then if inb (rd M4 54 v5_1) 7 then if inb v4_1 154 then nm (wr M4 56 v4_1 (rd M4 35 (rd M4 54 v5_1))) fun (M5 : Mem) => ag (v4_1 + 1, v5_1 + 1, M5) else none else none else none
def MD_form_L104 (v5_4 : Int32) (v6_2 : Int32) (kx : Int32 → Mem → Option (Int32 × Mem)) (ag : (Int32 × Int32 × Mem) → Option (Int32 × Mem)) (v4_5 : Int32) (v7_1 : Int32) (M9 : Mem) : Option (Int32 × Mem) :=
  if (M9 33 8) ≤ v7_1 then kx v4_5 M9 else if inb v6_2 7 then if inb v7_1 7 then Option.bind (MD_strong v5_4 (rd M9 54 v6_2) (rd M9 54 v7_1) M9) fun r_1 => if inb v4_5 154 then nm (wr M9 56 v4_5 r_1) fun (M10 : Mem) => ag (v4_5 + 1, v7_1 + 1, M10) else none else none else none
def MD_form_L92 (v5_3 : Int32) (kx : Int32 → Mem → Option (Int32 × Mem)) (ag : (Int32 × Int32 × Mem) → Option (Int32 × Mem)) (v4_4 : Int32) (v6_1 : Int32) (M8 : Mem) : Option (Int32 × Mem) :=
  if (M8 33 8) ≤ v6_1 then kx v4_4 M8 else LOOP (fun aq sq => MD_form_L104 v5_3 v6_1 (fun (v4_6 : Int32) (M11 : Mem) => ag (v4_6, v6_1 + 1, M11)) aq sq.1 sq.2.1 sq.2.2) FU (v4_4, 0, M8)
def MD_form_L83 (kx : Mem → Option (Int32 × Mem)) (ag : (Int32 × Int32 × Mem) → Option (Int32 × Mem)) (v4_3 : Int32) (v5_2 : Int32) (M7 : Mem) : Option (Int32 × Mem) :=
  if 3 ≤ v5_2 then kx M7 else LOOP (fun aq sq => MD_form_L92 v5_2 (fun (v4_7 : Int32) (M12 : Mem) => ag (v4_7, v5_2 + 1, M12)) aq sq.1 sq.2.1 sq.2.2) FU (v4_3, 0, M7)
def MD_form_L164 (v1_7 : Int32) (v3_6 : Int32) (M13 : Mem) (kx : Int32 → Option (Int32 × Mem)) (ag : Int32 → Option (Int32 × Mem)) (v5_5 : Int32) : Option (Int32 × Mem) :=
  if v3_6 = 0 then if v1_7 ≤ v5_5 then kx v5_5 else if inb v5_5 154 then if inb v5_5 154 then if (rd M13 56 v5_5) = (rd M13 55 v5_5) then ag (v5_5 + 1) else kx v5_5 else none else none else kx v5_5
def MD_form_L227 (v1_8 : Int32) (kx : Mem → Option (Int32 × Mem)) (ag : (Int32 × Mem) → Option (Int32 × Mem)) (v6_3 : Int32) (M17 : Mem) : Option (Int32 × Mem) :=
  if v1_8 ≤ v6_3 then kx M17 else if inb v6_3 154 then if inb v6_3 154 then nm (wr M17 55 v6_3 (rd M17 56 v6_3)) fun (M18 : Mem) => ag (v6_3 + 1, M18) else none else none
def MD_form_L33 (v1_2 : Int32) (kx : Mem → Option (Int32 × Mem)) (ag : (Int32 × Int32 × Mem) → Option (Int32 × Mem)) (v2_1 : Int32) (v3_1 : Int32) (M3 : Mem) : Option (Int32 × Mem) :=
  if v2_1 = 0 then kx M3 else LOOP (fun aq sq => MD_form_L43 (fun (v4_2 : Int32) (M6 : Mem) => LOOP (fun aq sq => MD_form_L83 (fun (M13 : Mem) => LOOP (fun aq sq => MD_form_L164 v1_2 v3_1 M13 (fun (v5_6 : Int32) => jp (fun (M14 : Mem) => bnd2 (MD_nextNames (M14 33 8) M14) fun r_2 M15 => ag (r_2, 0, M15)) fun (k_1 : Mem → Option (Int32 × Mem)) => jp (fun (M16 : Mem) => LOOP (fun aq sq => MD_form_L227 v1_2 (fun (M19 : Mem) => k_1 M19) aq sq.1 sq.2) FU (0, M16)) fun (k_2 : Mem → Option (Int32 × Mem)) => if v3_1 = 0 then if v1_2 ≤ v5_6 then k_1 M13 else if inb v5_6 154 then if inb v5_6 154 then if (rd M13 55 v5_6) ≤ (rd M13 56 v5_6) then k_1 M13 else k_2 M13 else none else none else k_2 M13) aq sq) FU 0) aq sq.1 sq.2.1 sq.2.2) FU (v4_2, 0, M6)) aq sq.1 sq.2.1 sq.2.2) FU (0, 0, M3)
def MD_form_L273 (v1_9 : Int32) (M20 : Mem) (kx : Int64 → Option (Int32 × Mem)) (ag : (Int64 × Int32) → Option (Int32 × Mem)) (v4_8 : Int64) (v6_4 : Int32) : Option (Int32 × Mem) :=
  if v1_9 ≤ v6_4 then kx v4_8 else if inb v6_4 154 then nm (jrml ((10 * v4_8) + ((rd M20 55 v6_4).toInt64)) 1000000007) fun (v4_9 : Int64) => ag (v4_9, v6_4 + 1) else none
def MD_form (M : Mem) : Option (Int32 × Mem) :=
  Option.bind (MD_findTies (M 33 10) M) fun M1 => nm ((M1 33 8) + ((3 * (M1 33 8)) * (M1 33 8))) fun (v1_1 : Int32) => Option.bind (MD_firstNames M1) fun M2 => LOOP (fun aq sq => MD_form_L33 v1_1 (fun (M20 : Mem) => LOOP (fun aq sq => MD_form_L273 v1_1 M20 (fun (v4_10 : Int64) => some (v4_10.toInt32, M20)) aq sq.1 sq.2) FU (0, 0)) aq sq.1 sq.2.1 sq.2.2) FU (1, 1, M2)
def MD_firstParting_L2 (kx : Mem → Option Mem) (ag : (Int32 × Mem) → Option Mem) (v1_1 : Int32) (M1 : Mem) : Option Mem :=
  if (M1 33 8) ≤ v1_1 then kx M1 else if inb v1_1 7 then nm (wr M1 50 v1_1 0) fun (M2 : Mem) => ag (v1_1 + 1, M2) else none
def MD_firstParting (M : Mem) : Option Mem :=
  LOOP (fun aq sq => MD_firstParting_L2 (fun (M3 : Mem) => some M3) aq sq.1 sq.2) FU (0, M)
def MD_nextParting_L15 (v1_3 : Int32) (M : Mem) (kx : Int32 → Option (Int32 × Mem)) (ag : (Int32 × Int32) → Option (Int32 × Mem)) (v2_1 : Int32) (v3_1 : Int32) : Option (Int32 × Mem) :=
  if v1_3 ≤ v3_1 then kx v2_1 else if inb v3_1 7 then if ((rd M 50 v3_1) + 1) ≤ v2_1 then ag (v2_1, v3_1 + 1) else if inb v3_1 7 then nm ((rd M 50 v3_1) + 1) fun (v2_2 : Int32) => ag (v2_2, v3_1 + 1) else none else none
def MD_nextParting_L78 (kx : Mem → Option (Int32 × Mem)) (ag : (Int32 × Mem) → Option (Int32 × Mem)) (v3_3 : Int32) (M2 : Mem) : Option (Int32 × Mem) :=
  if (M2 33 8) ≤ v3_3 then kx M2 else if inb v3_3 7 then nm (wr M2 50 v3_3 0) fun (M3 : Mem) => ag (v3_3 + 1, M3) else none
def MD_nextParting_L7 (M : Mem) (kx : Option (Int32 × Mem)) (ag : Int32 → Option (Int32 × Mem)) (v1_2 : Int32) : Option (Int32 × Mem) :=
  if v1_2 ≤ 0 then kx else LOOP (fun aq sq => MD_nextParting_L15 v1_2 M (fun (v2_3 : Int32) => if inb v1_2 7 then if (rd M 50 v1_2) < v2_3 then if inb v1_2 7 then if inb v1_2 7 then nm (wr M 50 v1_2 ((rd M 50 v1_2) + 1)) fun (M1 : Mem) => nm (v1_2 + 1) fun (v3_2 : Int32) => LOOP (fun aq sq => MD_nextParting_L78 (fun (M4 : Mem) => some (1, M4)) aq sq.1 sq.2) FU (v3_2, M1) else none else none else ag (v1_2 + (-1)) else none) aq sq.1 sq.2) FU (0, 0)
def MD_nextParting (M : Mem) : Option (Int32 × Mem) :=
  nm ((M 33 8) - 1) fun (v1_1 : Int32) => LOOP (fun aq sq => MD_nextParting_L7 M (some (0, M)) aq sq) FU v1_1
def MD_parts_L4 (M : Mem) (kx : Int32 → Option Int32) (ag : (Int32 × Int32) → Option Int32) (v1_1 : Int32) (v2_1 : Int32) : Option Int32 :=
  if (M 33 8) ≤ v2_1 then kx v1_1 else if inb v2_1 7 then if ((rd M 50 v2_1) + 1) ≤ v1_1 then ag (v1_1, v2_1 + 1) else if inb v2_1 7 then nm ((rd M 50 v2_1) + 1) fun (v1_2 : Int32) => ag (v1_2, v2_1 + 1) else none else none
def MD_parts (M : Mem) : Option Int32 :=
  LOOP (fun aq sq => MD_parts_L4 M (fun (v1_3 : Int32) => some v1_3) aq sq.1 sq.2) FU (0, 0)
def MD_next_L39 (v1_1 : Int32) (v2_1 : Int32) (kx : Mem → Option (Int32 × Mem)) (ag : (Int32 × Mem) → Option (Int32 × Mem)) (v3_1 : Int32) (M4 : Mem) : Option (Int32 × Mem) :=
  if v3_1 = 0 then kx M4 else bnd2 (MD_number 50 M4) fun r_3 M5 => jp (bnd2 (MD_nextParting M5) fun r_4 M6 => ag (r_4, M6)) fun (k_1 : Option (Int32 × Mem)) => if r_3 ≤ v2_1 then k_1 else Option.bind (MD_judged v1_1 M5) fun r_5 => if r_5 = (-9) then some (r_3, M5) else k_1
def MD_next (v1 : Int32) (v2 : Int32) (M : Mem) : Option (Int32 × Mem) :=
  Option.bind (MD_isSameness v1) fun r_1 => if r_1 = 0 then bnd2 (MD_no (-1) M) fun r_2 M1 => some (r_2, M1) else if (-1) ≤ v2 then Option.bind (MD_findTies (M 33 10) M) fun M2 => Option.bind (MD_firstParting M2) fun M3 => LOOP (fun aq sq => MD_next_L39 v1 v2 (fun (M7 : Mem) => some ((-9), M7)) aq sq.1 sq.2) FU (1, M3) else bnd2 (MD_no (-4) M) fun r_6 M8 => some (r_6, M8)
def MD_all_L29 (v1_1 : Int32) (kx : Int32 → Mem → Option (Int32 × Mem)) (ag : (Int32 × Int32 × Mem) → Option (Int32 × Mem)) (v2_1 : Int32) (v3_1 : Int32) (M4 : Mem) : Option (Int32 × Mem) :=
  if v3_1 = 0 then kx v2_1 M4 else Option.bind (MD_judged v1_1 M4) fun r_3 => jp (fun (s_1 : Int32) => nm (v2_1 + s_1) fun (v2_2 : Int32) => bnd2 (MD_nextParting M4) fun r_4 M5 => ag (v2_2, r_4, M5)) fun (k_1 : Int32 → Option (Int32 × Mem)) => if r_3 = (-9) then k_1 1 else k_1 0
def MD_all (v1 : Int32) (M : Mem) : Option (Int32 × Mem) :=
  Option.bind (MD_isSameness v1) fun r_1 => if r_1 = 0 then bnd2 (MD_no (-1) M) fun r_2 M1 => some (r_2, M1) else Option.bind (MD_findTies (M 33 10) M) fun M2 => Option.bind (MD_firstParting M2) fun M3 => LOOP (fun aq sq => MD_all_L29 v1 (fun (v2_3 : Int32) (M6 : Mem) => some (v2_3, M6)) aq sq.1 sq.2.1 sq.2.2) FU (0, 1, M3)
def MD_join_L32 (kx : Mem → Option (Int32 × Mem)) (ag : (Int32 × Mem) → Option (Int32 × Mem)) (v3_1 : Int32) (M5 : Mem) : Option (Int32 × Mem) :=
  if (M5 33 8) ≤ v3_1 then kx M5 else if inb v3_1 7 then nm (wr M5 52 v3_1 v3_1) fun (M6 : Mem) => ag (v3_1 + 1, M6) else none
def MD_join_L78 (v4_2 : Int32) (kx : Mem → Option (Int32 × Mem)) (ag : (Int32 × Mem) → Option (Int32 × Mem)) (v5_1 : Int32) (M10 : Mem) : Option (Int32 × Mem) :=
  if (M10 33 8) ≤ v5_1 then kx M10 else if inb v4_2 7 then if inb v5_1 7 then jp (fun (v5_2 : Int32) => if inb v5_2 7 then if inb v4_2 7 then if (rd M10 52 v4_2) ≤ (rd M10 52 v5_2) then ag (v5_2 + 1, M10) else if inb v5_2 7 then if inb v4_2 7 then nm (wr M10 52 v4_2 (rd M10 52 v5_2)) fun (M11 : Mem) => ag (v5_2 + 1, M11) else none else none else none else none) fun (k_2 : Int32 → Option (Int32 × Mem)) => if (rd M10 50 v4_2) = (rd M10 50 v5_1) then k_2 v5_1 else if inb v4_2 7 then if inb v5_1 7 then if (rd M10 51 v4_2) = (rd M10 51 v5_1) then k_2 v5_1 else ag (v5_1 + 1, M10) else none else none else none else none
def MD_join_L66 (kx : Mem → Option (Int32 × Mem)) (ag : (Int32 × Mem) → Option (Int32 × Mem)) (v4_1 : Int32) (M9 : Mem) : Option (Int32 × Mem) :=
  if (M9 33 8) ≤ v4_1 then kx M9 else LOOP (fun aq sq => MD_join_L78 v4_1 (fun (M12 : Mem) => ag (v4_1 + 1, M12)) aq sq.1 sq.2) FU (0, M9)
def MD_join_L55 (kx : Mem → Option (Int32 × Mem)) (ag : (Int32 × Mem) → Option (Int32 × Mem)) (v3_2 : Int32) (M8 : Mem) : Option (Int32 × Mem) :=
  if (M8 33 8) ≤ v3_2 then kx M8 else LOOP (fun aq sq => MD_join_L66 (fun (M13 : Mem) => ag (v3_2 + 1, M13)) aq sq.1 sq.2) FU (0, M8)
def MD_join (v1 : Int32) (v2 : Int32) (M : Mem) : Option (Int32 × Mem) :=
  bnd2 (MD_opens v1 50 M) fun r_1 M1 => jp (fun (M2 : Mem) => bnd2 (MD_no (-1) M2) fun r_2 M3 => some (r_2, M3)) fun (k_1 : Mem → Option (Int32 × Mem)) => if r_1 < 0 then k_1 M1 else bnd2 (MD_opens v2 51 M1) fun r_3 M4 => if 0 ≤ r_3 then LOOP (fun aq sq => MD_join_L32 (fun (M7 : Mem) => LOOP (fun aq sq => MD_join_L55 (fun (M14 : Mem) => bnd2 (MD_number 52 M14) fun r_4 M15 => some (r_4, M15)) aq sq.1 sq.2) FU (0, M7)) aq sq.1 sq.2) FU (0, M4) else k_1 M4
def MD_meet_L32 (kx : Mem → Option (Int32 × Mem)) (ag : (Int32 × Mem) → Option (Int32 × Mem)) (v3_1 : Int32) (M5 : Mem) : Option (Int32 × Mem) :=
  if (M5 33 8) ≤ v3_1 then kx M5 else if inb v3_1 7 then if inb v3_1 7 then if inb v3_1 7 then nm (wr M5 52 v3_1 ((10 * (rd M5 50 v3_1)) + (rd M5 51 v3_1))) fun (M6 : Mem) => ag (v3_1 + 1, M6) else none else none else none
def MD_meet (v1 : Int32) (v2 : Int32) (M : Mem) : Option (Int32 × Mem) :=
  bnd2 (MD_opens v1 50 M) fun r_1 M1 => jp (fun (M2 : Mem) => bnd2 (MD_no (-1) M2) fun r_2 M3 => some (r_2, M3)) fun (k_1 : Mem → Option (Int32 × Mem)) => if r_1 < 0 then k_1 M1 else bnd2 (MD_opens v2 51 M1) fun r_3 M4 => if 0 ≤ r_3 then LOOP (fun aq sq => MD_meet_L32 (fun (M7 : Mem) => bnd2 (MD_number 52 M7) fun r_4 M8 => some (r_4, M8)) aq sq.1 sq.2) FU (0, M4) else k_1 M4
def MD_picture_L111 (v3_2 : Int32) (v4_2 : Int32) (v10_2 : Int32) (M4 : Mem) (kx : Int32 → Int32 → Option (Int32 × Mem)) (ag : (Int32 × Int32 × Int32) → Option (Int32 × Mem)) (v8_2 : Int32) (v11_1 : Int32) (v12_1 : Int32) : Option (Int32 × Mem) :=
  if (M4 33 8) ≤ v12_1 then kx v8_2 v11_1 else if v12_1 = v10_2 then ag (v8_2, v11_1, v12_1 + 1) else if inb v12_1 7 then if (rd M4 50 v12_1) = v3_2 then Option.bind (MD_has v4_2 v10_2 v12_1 M4) fun r_6 => if r_6 = 0 then nm (v11_1 + 0) fun (v11_2 : Int32) => ag (v8_2 + 1, v11_2, v12_1 + 1) else nm (v11_1 + 1) fun (v11_3 : Int32) => ag (v8_2 + 1, v11_3, v12_1 + 1) else ag (v8_2, v11_1, v12_1 + 1) else none
def MD_picture_L82 (v2_1 : Int32) (v3_1 : Int32) (v4_1 : Int32) (M4 : Mem) (kx : Int32 → Int32 → Int32 → Int32 → Option (Int32 × Mem)) (ag : (Int32 × Int32 × Int32 × Int32 × Int32) → Option (Int32 × Mem)) (v6_1 : Int32) (v7_1 : Int32) (v8_1 : Int32) (v9_1 : Int32) (v10_1 : Int32) : Option (Int32 × Mem) :=
  if (M4 33 8) ≤ v10_1 then kx v6_1 v7_1 v8_1 v9_1 else if inb v10_1 7 then if (rd M4 50 v10_1) = v2_1 then LOOP (fun aq sq => MD_picture_L111 v3_1 v4_1 v10_1 M4 (fun (v8_3 : Int32) (v11_4 : Int32) => nm (v9_1 + v11_4) fun (v9_3 : Int32) => jp (fun (s_1 : Int32) => if v11_4 ≤ v7_1 then ag (s_1, v7_1, v8_3, v9_3, v10_1 + 1) else ag (s_1, v11_4, v8_3, v9_3, v10_1 + 1)) fun (k_2 : Int32 → Option (Int32 × Mem)) => if v6_1 ≤ v11_4 then k_2 v6_1 else k_2 v11_4) aq sq.1 sq.2.1 sq.2.2) FU (v8_1, 0, 0) else ag (v6_1, v7_1, v8_1, v9_1, v10_1 + 1) else none
def MD_picture (v1 : Int32) (v2 : Int32) (v3 : Int32) (v4 : Int32) (M : Mem) : Option (Int32 × Mem) :=
  bnd2 (MD_opens v1 50 M) fun r_1 M1 => jp (fun (M2 : Mem) => bnd2 (MD_no (-1) M2) fun r_2 M3 => some (r_2, M3)) fun (k_1 : Mem → Option (Int32 × Mem)) => if r_1 < 0 then k_1 M1 else Option.bind (MD_isIn v2.toInt64 0 ((r_1 - 1).toInt64)) fun r_3 => if r_3 = 0 then k_1 M1 else Option.bind (MD_isIn v3.toInt64 0 ((r_1 - 1).toInt64)) fun r_4 => if r_4 = 0 then k_1 M1 else Option.bind (MD_isKind v4) fun r_5 => if r_5 = 0 then k_1 M1 else Option.bind (MD_findTies (M1 33 10) M1) fun M4 => LOOP (fun aq sq => MD_picture_L82 v2 v3 v4 M4 (fun (v6_3 : Int32) (v7_3 : Int32) (v8_4 : Int32) (v9_4 : Int32) => if v9_4 = 0 then some (0, M4) else if v9_4 = v8_4 then some (1, M4) else if v6_3 = v7_3 then some (2, M4) else if v6_3 ≤ 0 then some (4, M4) else some (3, M4)) aq sq.1 sq.2.1 sq.2.2.1 sq.2.2.2.1 sq.2.2.2.2) FU (100, 0, 0, 0, 0)
def MD_wrongOf_L52 (v2_5 : Int32) (v3_4 : Int32) (v4_3 : Int32) (v7_2 : Int32) (M : Mem) (kx : Int32 → Int32 → Option Int32) (ag : (Int32 × Int32 × Int32) → Option Int32) (v5_2 : Int32) (v6_2 : Int32) (v8_1 : Int32) : Option Int32 :=
  if (M 33 8) ≤ v8_1 then kx v5_2 v6_2 else if inb v7_2 7 then if (rd M 50 v7_2) = v2_5 then if v8_1 = v7_2 then ag (v5_2, v6_2, v8_1 + 1) else if inb v8_1 7 then if (rd M 50 v8_1) = v3_4 then Option.bind (MD_has v4_3 v7_2 v8_1 M) fun r_1 => if r_1 = 0 then ag (v5_2, v6_2 + 1, v8_1 + 1) else ag (v5_2 + 1, v6_2, v8_1 + 1) else ag (v5_2, v6_2, v8_1 + 1) else none else kx v5_2 v6_2 else none
def MD_wrongOf_L40 (v2_4 : Int32) (v3_3 : Int32) (v4_2 : Int32) (M : Mem) (kx : Int32 → Int32 → Option Int32) (ag : (Int32 × Int32 × Int32) → Option Int32) (v5_1 : Int32) (v6_1 : Int32) (v7_1 : Int32) : Option Int32 :=
  if (M 33 8) ≤ v7_1 then kx v5_1 v6_1 else LOOP (fun aq sq => MD_wrongOf_L52 v2_4 v3_3 v4_2 v7_1 M (fun (v5_3 : Int32) (v6_3 : Int32) => ag (v5_3, v6_3, v7_1 + 1)) aq sq.1 sq.2.1 sq.2.2) FU (v5_1, v6_1, 0)
def MD_wrongOf_L25 (v2_3 : Int32) (v3_2 : Int32) (M : Mem) (kx : Int32 → Option Int32) (ag : (Int32 × Int32) → Option Int32) (v1_3 : Int32) (v4_1 : Int32) : Option Int32 :=
  if 3 ≤ v4_1 then kx v1_3 else LOOP (fun aq sq => MD_wrongOf_L40 v2_3 v3_2 v4_1 M (fun (v5_4 : Int32) (v6_4 : Int32) => if v6_4 ≤ v5_4 then nm (v1_3 + v6_4) fun (v1_6 : Int32) => ag (v1_6, v4_1 + 1) else nm (v1_3 + v5_4) fun (v1_7 : Int32) => ag (v1_7, v4_1 + 1)) aq sq.1 sq.2.1 sq.2.2) FU (0, 0, 0)
def MD_wrongOf_L14 (v2_2 : Int32) (M : Mem) (kx : Int32 → Option Int32) (ag : (Int32 × Int32) → Option Int32) (v1_2 : Int32) (v3_1 : Int32) : Option Int32 :=
  if (M 33 8) ≤ v3_1 then kx v1_2 else LOOP (fun aq sq => MD_wrongOf_L25 v2_2 v3_1 M (fun (v1_8 : Int32) => ag (v1_8, v3_1 + 1)) aq sq.1 sq.2) FU (v1_2, 0)
def MD_wrongOf_L4 (M : Mem) (kx : Int32 → Option Int32) (ag : (Int32 × Int32) → Option Int32) (v1_1 : Int32) (v2_1 : Int32) : Option Int32 :=
  if (M 33 8) ≤ v2_1 then kx v1_1 else LOOP (fun aq sq => MD_wrongOf_L14 v2_1 M (fun (v1_9 : Int32) => ag (v1_9, v2_1 + 1)) aq sq.1 sq.2) FU (v1_1, 0)
def MD_wrongOf (M : Mem) : Option Int32 :=
  LOOP (fun aq sq => MD_wrongOf_L4 M (fun (v1_10 : Int32) => some v1_10) aq sq.1 sq.2) FU (0, 0)
def MD_wrong (v1 : Int32) (M : Mem) : Option (Int32 × Mem) :=
  bnd2 (MD_opens v1 50 M) fun r_1 M1 => if 0 ≤ r_1 then Option.bind (MD_findTies (M1 33 10) M1) fun M2 => Option.bind (MD_wrongOf M2) fun r_2 => some (r_2, M2) else bnd2 (MD_no (-1) M1) fun r_3 M3 => some (r_3, M3)
def MD_least_L66 (v1_1 : Int32) (kx : Int32 → Int32 → Int32 → Mem → Option (Int32 × Mem)) (ag : (Int32 × Int32 × Int32 × Int32 × Mem) → Option (Int32 × Mem)) (v4_1 : Int32) (v5_1 : Int32) (v6_1 : Int32) (v7_1 : Int32) (M3 : Mem) : Option (Int32 × Mem) :=
  if v7_1 = 0 then kx v4_1 v5_1 v6_1 M3 else Option.bind (MD_parts M3) fun r_2 => jp (fun (v4_2 : Int32) (v5_2 : Int32) (v6_2 : Int32) (M4 : Mem) => bnd2 (MD_nextParting M4) fun r_3 M5 => ag (v4_2, v5_2, v6_2, r_3, M5)) fun (k_2 : Int32 → Int32 → Int32 → Mem → Option (Int32 × Mem)) => if r_2 = v1_1 then Option.bind (MD_wrongOf M3) fun r_4 => jp (jp (fun (s_1 : Int32) => bnd2 (MD_number 50 M3) fun r_5 M6 => k_2 r_5 r_4 s_1 M6) fun (k_4 : Int32 → Option (Int32 × Mem)) => if v4_1 = (-9) then k_4 (-1) else k_4 v5_1) fun (k_3 : Option (Int32 × Mem)) => if v4_1 = (-9) then k_3 else if v5_1 ≤ r_4 then if v6_1 < 0 then k_2 v4_1 v5_1 r_4 M3 else if v6_1 ≤ r_4 then k_2 v4_1 v5_1 v6_1 M3 else k_2 v4_1 v5_1 r_4 M3 else k_3 else k_2 v4_1 v5_1 v6_1 M3
def MD_least (v1 : Int32) (v2 : Int32) (M : Mem) : Option (Int32 × Mem) :=
  Option.bind (MD_out v1.toInt64 1 ((M 33 8).toInt64)) fun r_1 => jp (fun (v3_1 : Int32) => if v3_1 = 0 then Option.bind (MD_findTies (M 33 10) M) fun M1 => Option.bind (MD_firstParting M1) fun M2 => LOOP (fun aq sq => MD_least_L66 v1 (fun (v4_3 : Int32) (v5_3 : Int32) (v6_3 : Int32) (M7 : Mem) => if v2 = 0 then some (v4_3, M7) else if v2 = 1 then some (v5_3, M7) else if 0 ≤ v6_3 then some (v6_3 - v5_3, M7) else some ((-9), M7)) aq sq.1 sq.2.1 sq.2.2.1 sq.2.2.2.1 sq.2.2.2.2) FU ((-9), 0, (-1), 1, M2) else bnd2 (MD_no v3_1 M) fun r_6 M8 => some (r_6, M8)) fun (k_1 : Int32 → Option (Int32 × Mem)) => if r_1 = 0 then Option.bind (MD_isIn v2.toInt64 0 2) fun r_7 => if r_7 = 0 then k_1 (-2) else k_1 r_1 else k_1 r_1
def MD_spoils_L106 (v6_3 : Int32) (v7_2 : Int32) (kx : Int32 → Int32 → Mem → Option (Int32 × Mem)) (ag : (Int32 × Int32 × Int32 × Mem) → Option (Int32 × Mem)) (v4_3 : Int32) (v5_3 : Int32) (v8_1 : Int32) (M7 : Mem) : Option (Int32 × Mem) :=
  if 3 ≤ v8_1 then kx v4_3 v5_3 M7 else if v7_2 = v6_3 then kx v4_3 v5_3 M7 else nm (((49 * v8_1) + (7 * v6_3)) + v7_2) fun (v9_1 : Int32) => if inb v9_1 147 then nm (rd M7 49 v9_1) fun (v10_1 : Int32) => jp (fun (s_1 : Int32) => if inb v9_1 147 then nm (wr M7 49 v9_1 s_1) fun (M8 : Mem) => Option.bind (MD_wrongOf M8) fun r_6 => if inb v9_1 147 then nm (wr M8 49 v9_1 v10_1) fun (M9 : Mem) => jp (fun (v8_2 : Int32) => nm (((100 * v6_3) + (10 * v7_2)) + v8_2) fun (v4_4 : Int32) => ag (v4_4, r_6, v8_2 + 1, M9)) fun (k_2 : Int32 → Option (Int32 × Mem)) => if v4_3 = (-9) then k_2 v8_1 else if r_6 < v5_3 then k_2 v8_1 else ag (v4_3, v5_3, v8_1 + 1, M9) else none else none) fun (k_1 : Int32 → Option (Int32 × Mem)) => if v10_1 ≤ 0 then k_1 1 else k_1 0 else none
def MD_spoils_L94 (v6_2 : Int32) (kx : Int32 → Int32 → Mem → Option (Int32 × Mem)) (ag : (Int32 × Int32 × Int32 × Mem) → Option (Int32 × Mem)) (v4_2 : Int32) (v5_2 : Int32) (v7_1 : Int32) (M6 : Mem) : Option (Int32 × Mem) :=
  if (M6 33 8) ≤ v7_1 then kx v4_2 v5_2 M6 else LOOP (fun aq sq => MD_spoils_L106 v6_2 v7_1 (fun (v4_5 : Int32) (v5_4 : Int32) (M10 : Mem) => ag (v4_5, v5_4, v7_1 + 1, M10)) aq sq.1 sq.2.1 sq.2.2.1 sq.2.2.2) FU (v4_2, v5_2, 0, M6)
def MD_spoils_L82 (kx : Int32 → Int32 → Mem → Option (Int32 × Mem)) (ag : (Int32 × Int32 × Int32 × Mem) → Option (Int32 × Mem)) (v4_1 : Int32) (v5_1 : Int32) (v6_1 : Int32) (M5 : Mem) : Option (Int32 × Mem) :=
  if (M5 33 8) ≤ v6_1 then kx v4_1 v5_1 M5 else LOOP (fun aq sq => MD_spoils_L94 v6_1 (fun (v4_6 : Int32) (v5_5 : Int32) (M11 : Mem) => ag (v4_6, v5_5, v6_1 + 1, M11)) aq sq.1 sq.2.1 sq.2.2.1 sq.2.2.2) FU (v4_1, v5_1, 0, M5)
def MD_spoils (v1 : Int32) (v2 : Int32) (M : Mem) : Option (Int32 × Mem) :=
  bnd2 (MD_opens v1 50 M) fun r_1 M1 => if 0 ≤ r_1 then Option.bind (MD_isIn v2.toInt64 0 1) fun r_2 => if r_2 = 0 then bnd2 (MD_less (-2) M1) fun r_3 M2 => some (r_3, M2) else if (M1 33 8) = 1 then if v2 = 0 then some ((-9), M1) else bnd2 (MD_less (-3) M1) fun r_4 M3 => some (r_4, M3) else Option.bind (MD_findTies (M1 33 10) M1) fun M4 => Option.bind (MD_wrongOf M4) fun r_5 => LOOP (fun aq sq => MD_spoils_L82 (fun (v4_7 : Int32) (v5_6 : Int32) (M12 : Mem) => if v2 = 0 then some (v4_7, M12) else some (r_5 - v5_6, M12)) aq sq.1 sq.2.1 sq.2.2.1 sq.2.2.2) FU ((-9), 0, 0, M4) else bnd2 (MD_less (-1) M1) fun r_7 M13 => some (r_7, M13)
def MD_newcomer (v1 : Int32) (v2 : Int32) (v3 : Int32) (M : Mem) : Option (Int32 × Mem) :=
  Option.bind (MD_isKind v1) fun r_1 => jp (fun (M1 : Mem) => bnd2 (MD_no (-1) M1) fun r_2 M2 => some (r_2, M2)) fun (k_1 : Mem → Option (Int32 × Mem)) => if r_1 = 0 then k_1 M else Option.bind (MD_isPerson v2 M) fun r_3 => if r_3 = 0 then k_1 M else if (M 33 33) = 6 then bnd2 (MD_no (-6) M) fun r_4 M3 => some (r_4, M3) else if inb (M 33 33) 6 then nm (wr M 58 (M 33 33) v1) fun (M4 : Mem) => if inb (M4 33 33) 6 then nm (wr M4 59 (M4 33 33) v2) fun (M5 : Mem) => if inb (M5 33 33) 6 then nm (wr M5 60 (M5 33 33) (bz v3)) fun (M6 : Mem) => nm (st2 M6 33 33 ((M6 33 33) + 1)) fun (M7 : Mem) => some (M7 33 33, M7) else none else none else none
def MD_isFit_L13 (v1_2 : Int32) (v2_2 : Int32) (v3_2 : Int32) (M : Mem) (kx : Option Int32) (ag : Int32 → Option Int32) (v4_1 : Int32) : Option Int32 :=
  if (M 33 8) ≤ v4_1 then kx else if inb v3_2 7 then if (rd M 50 v3_2) = v1_2 then if v4_1 = v3_2 then ag (v4_1 + 1) else if inb v4_1 7 then if inb v2_2 6 then if inb (rd M 59 v2_2) 7 then if (rd M 50 v4_1) = (rd M 50 (rd M 59 v2_2)) then if inb v2_2 6 then if (rd M 60 v2_2) = 0 then if inb v2_2 6 then Option.bind (MD_has (rd M 58 v2_2) v4_1 v3_2 M) fun r_1 => if r_1 = 0 then ag (v4_1 + 1) else some 1 else none else if inb v2_2 6 then Option.bind (MD_has (rd M 58 v2_2) v3_2 v4_1 M) fun r_2 => if r_2 = 0 then ag (v4_1 + 1) else some 1 else none else none else ag (v4_1 + 1) else none else none else none else kx else none
def MD_isFit_L2 (v1_1 : Int32) (v2_1 : Int32) (M : Mem) (kx : Option Int32) (ag : Int32 → Option Int32) (v3_1 : Int32) : Option Int32 :=
  if (M 33 8) ≤ v3_1 then kx else LOOP (fun aq sq => MD_isFit_L13 v1_1 v2_1 v3_1 M (ag (v3_1 + 1)) aq sq) FU 0
def MD_isFit (v1 : Int32) (v2 : Int32) (M : Mem) : Option Int32 :=
  LOOP (fun aq sq => MD_isFit_L2 v1 v2 M (some 0) aq sq) FU 0
def MD_fits_L45 (v4_2 : Int32) (M2 : Mem) (kx : Int32 → Option (Int32 × Mem)) (ag : (Int32 × Int32) → Option (Int32 × Mem)) (v5_1 : Int32) (v6_1 : Int32) : Option (Int32 × Mem) :=
  if (M2 33 33) ≤ v6_1 then kx v5_1 else if v5_1 = 0 then ag (0, v6_1 + 1) else Option.bind (MD_isFit v4_2 v6_1 M2) fun r_2 => if r_2 = 0 then ag (0, v6_1 + 1) else ag (1, v6_1 + 1)
def MD_fits_L33 (v2_1 : Int32) (M2 : Mem) (kx : Int32 → Option (Int32 × Mem)) (ag : (Int32 × Int32) → Option (Int32 × Mem)) (v3_1 : Int32) (v4_1 : Int32) : Option (Int32 × Mem) :=
  if v2_1 ≤ v4_1 then kx v3_1 else LOOP (fun aq sq => MD_fits_L45 v4_1 M2 (fun (v5_2 : Int32) => if v5_2 = 0 then nm (v3_1 ||| 0) fun (v3_3 : Int32) => ag (v3_3, v4_1 + 1) else nm (v3_1 ||| (1 <<< (v4_1 &&& 31))) fun (v3_4 : Int32) => ag (v3_4, v4_1 + 1)) aq sq.1 sq.2) FU (1, 0)
def MD_fits (v1 : Int32) (M : Mem) : Option (Int32 × Mem) :=
  bnd2 (MD_opens v1 50 M) fun r_1 M1 => if 0 ≤ r_1 then Option.bind (MD_findTies (M1 33 10) M1) fun M2 => LOOP (fun aq sq => MD_fits_L33 r_1 M2 (fun (v3_5 : Int32) => some (v3_5, M2)) aq sq.1 sq.2) FU (0, 0) else bnd2 (MD_no (-1) M1) fun r_3 M3 => some (r_3, M3)
def MD_gone (M : Mem) : Option (Int32 × Mem) :=
  nm (M 33 33) fun (v1_1 : Int32) => nm (st2 M 33 33 0) fun (M1 : Mem) => some (v1_1, M1)
def MD_coarsestOn (v1 : Int32) (v2 : Int32) (M : Mem) : Option (Int32 × Mem) :=
  Option.bind (MD_findTies v1 M) fun M1 => Option.bind (MD_firstParting M1) fun M2 => bnd2 (MD_splits v2 M2) fun r_1 M3 => some (r_1, M3)
def MD_shift_L117 (M7 : Mem) (kx : Int32 → Option (Int32 × Mem)) (ag : (Int32 × Int32) → Option (Int32 × Mem)) (v9_1 : Int32) (v10_1 : Int32) : Option (Int32 × Mem) :=
  if (M7 33 8) ≤ v10_1 then kx v9_1 else if inb v10_1 7 then if inb (rd M7 50 v10_1) 7 then if inb v10_1 7 then if (rd M7 54 (rd M7 50 v10_1)) = (rd M7 51 v10_1) then nm (v9_1 + 1) fun (v9_2 : Int32) => ag (v9_2, v10_1 + 1) else nm (v9_1 + 0) fun (v9_3 : Int32) => ag (v9_3, v10_1 + 1) else none else none else none
def MD_shift_L106 (kx : Int32 → Mem → Option (Int32 × Mem)) (ag : (Int32 × Int32 × Mem) → Option (Int32 × Mem)) (v7_1 : Int32) (v8_1 : Int32) (M7 : Mem) : Option (Int32 × Mem) :=
  if v8_1 = 0 then kx v7_1 M7 else LOOP (fun aq sq => MD_shift_L117 M7 (fun (v9_4 : Int32) => jp (fun (s_2 : Int32) => bnd2 (MD_nextNames (M7 33 8) M7) fun r_7 M8 => ag (s_2, r_7, M8)) fun (k_2 : Int32 → Option (Int32 × Mem)) => if v9_4 ≤ v7_1 then k_2 v7_1 else k_2 v9_4) aq sq.1 sq.2) FU (0, 0)
def MD_shift (v1 : Int32) (v2 : Int32) (v3 : Int32) (M : Mem) : Option (Int32 × Mem) :=
  Option.bind (MD_isSameness v3) fun r_1 => if r_1 = 0 then bnd2 (MD_no (-1) M) fun r_2 M1 => some (r_2, M1) else jp (fun (s_1 : Int32) => if s_1 = 0 then bnd2 (MD_coarsestOn v1 v3 M) fun r_3 M2 => bnd2 (MD_coarsestOn v2 v3 M2) fun r_4 M3 => bnd2 (MD_opens r_3 50 M3) fun r_5 M4 => bnd2 (MD_opens r_4 51 M4) fun r_6 M5 => Option.bind (MD_firstNames M5) fun M6 => LOOP (fun aq sq => MD_shift_L106 (fun (v7_3 : Int32) (M9 : Mem) => some ((M9 33 8) - v7_3, M9)) aq sq.1 sq.2.1 sq.2.2) FU (0, 1, M6) else bnd2 (MD_no s_1 M) fun r_8 M10 => some (r_8, M10)) fun (k_1 : Int32 → Option (Int32 × Mem)) => if v1 < 0 then k_1 (-4) else if 0 ≤ v2 then if 100 < v1 then k_1 (-6) else if v2 ≤ 100 then k_1 0 else k_1 (-6) else k_1 (-4)
def MD_stays_L44 (v1_1 : Int32) (v2_1 : Int32) (v4_1 : Int32) (kx : Int32 → Mem → Option (Int32 × Mem)) (ag : (Int32 × Mem) → Option (Int32 × Mem)) (v5_1 : Int32) (M3 : Mem) : Option (Int32 × Mem) :=
  if 100 < (v1_1 + v5_1) then kx v5_1 M3 else bnd2 (MD_coarsestOn (v1_1 + v5_1) v2_1 M3) fun r_5 M4 => if r_5 = v4_1 then ag (v5_1 + 1, M4) else kx v5_1 M4
def MD_stays (v1 : Int32) (v2 : Int32) (M : Mem) : Option (Int32 × Mem) :=
  Option.bind (MD_isSameness v2) fun r_1 => if r_1 = 0 then bnd2 (MD_no (-1) M) fun r_2 M1 => some (r_2, M1) else Option.bind (MD_out v1.toInt64 0 100) fun r_3 => if r_3 = 0 then bnd2 (MD_coarsestOn v1 v2 M) fun r_4 M2 => LOOP (fun aq sq => MD_stays_L44 v1 v2 r_4 (fun (v5_2 : Int32) (M5 : Mem) => some (v5_2, M5)) aq sq.1 sq.2) FU (1, M2) else bnd2 (MD_no r_3 M) fun r_6 M6 => some (r_6, M6)
def MD_count_L84 (M1 : Mem) (kx : Int32 → Option (Int32 × Mem)) (ag : (Int32 × Int32) → Option (Int32 × Mem)) (v2_1 : Int32) (v3_1 : Int32) : Option (Int32 × Mem) :=
  if 147 ≤ v3_1 then kx v2_1 else if inb v3_1 147 then if (rd M1 49 v3_1) ≤ 0 then nm (v2_1 + 0) fun (v2_2 : Int32) => ag (v2_2, v3_1 + 1) else nm (v2_1 + 1) fun (v2_3 : Int32) => ag (v2_3, v3_1 + 1) else none
def MD_count (v1 : Int32) (M : Mem) : Option (Int32 × Mem) :=
  Option.bind (MD_isIn v1.toInt64 11 16) fun r_1 => if r_1 = 0 then if v1 = 0 then some (M 33 8, M) else if v1 = 1 then some (M 33 9, M) else if v1 = 2 then Option.bind (MD_findTies (M 33 10) M) fun M1 => LOOP (fun aq sq => MD_count_L84 M1 (fun (v2_4 : Int32) => some (v2_4, M1)) aq sq.1 sq.2) FU (0, 0) else if v1 = 3 then some (M 33 10, M) else if v1 = 4 then some (M 33 12, M) else if v1 = 5 then some (M 33 33, M) else some ((-9), M) else if inb (v1 - 10) 7 then some (rd M 34 (v1 - 10), M) else none
end
section
/-! printed by wip/whole/gen.py: words, methods, calls -/
section CALLS
variable {β : Type} {X : Cx} {ad : Nat → Nat} {mi mj : Mi} {φ : β → Option Value × Mem} {pc n index : Nat} {L : List (Nat × Value)} {st stk : List Value} {M : Mem} {as : (Nat → Nat) → List Value} {T : u_T} {N ci k : Nat} {fs : List (Option Nat)} {host : String}
theorem G_callV_I {o' : Option (Int32)} {f : Int32 → Option β} (hM : MC mj (φI M) as M o') (hc : CalV mj n) (hr : RoomOk mi mj) (hl : Cond.methodLink (my mi).cls index (my mj) ∈ TB) (hcl : ClOk ci (my mj).cls T N) (hk : k < 61) (ho : ob k = .inl (ci, fs)) (As : List Value) (has : as ad = .ref (ad k) :: As) (hn : As.length = n) (hst : stk = As.reverse ++ .ref (ad k) :: st) (hcat : (st.map fun v => v.category).sum ≤ 8) (hd : decode (mcc mi) pc = .ok (.invokevirtual index, 3)) (K : ∀ r : Int32, G X ad mi φ (pc + 3) L (.int r :: st) M (f r)) : G X ad mi φ pc L stk M (Option.bind o' f) := G_callV hM hc hr hl hcl hk ho As has hn hst hcat hd K
theorem G_callV_L {o' : Option (Int64)} {f : Int64 → Option β} (hM : MC mj (φL M) as M o') (hc : CalV mj n) (hr : RoomOk mi mj) (hl : Cond.methodLink (my mi).cls index (my mj) ∈ TB) (hcl : ClOk ci (my mj).cls T N) (hk : k < 61) (ho : ob k = .inl (ci, fs)) (As : List Value) (has : as ad = .ref (ad k) :: As) (hn : As.length = n) (hst : stk = As.reverse ++ .ref (ad k) :: st) (hcat : (st.map fun v => v.category).sum ≤ 8) (hd : decode (mcc mi) pc = .ok (.invokevirtual index, 3)) (K : ∀ r : Int64, G X ad mi φ (pc + 3) L (.long r :: st) M (f r)) : G X ad mi φ pc L stk M (Option.bind o' f) := G_callV hM hc hr hl hcl hk ho As has hn hst hcat hd K
theorem G_callV_V {o' : Option (Mem)} {f : Mem → Option β} (hM : MC mj (φV) as M o') (hc : CalV mj n) (hr : RoomOk mi mj) (hl : Cond.methodLink (my mi).cls index (my mj) ∈ TB) (hcl : ClOk ci (my mj).cls T N) (hk : k < 61) (ho : ob k = .inl (ci, fs)) (As : List Value) (has : as ad = .ref (ad k) :: As) (hn : As.length = n) (hst : stk = As.reverse ++ .ref (ad k) :: st) (hcat : (st.map fun v => v.category).sum ≤ 8) (hd : decode (mcc mi) pc = .ok (.invokevirtual index, 3)) (K : ∀ M' : Mem, G X ad mi φ (pc + 3) L st M' (f M')) : G X ad mi φ pc L stk M (Option.bind o' f) := G_callV hM hc hr hl hcl hk ho As has hn hst hcat hd K
theorem G_callV_IM {o' : Option (Int32 × Mem)} {f : Int32 → Mem → Option β} (hM : MC mj (φIM) as M o') (hc : CalV mj n) (hr : RoomOk mi mj) (hl : Cond.methodLink (my mi).cls index (my mj) ∈ TB) (hcl : ClOk ci (my mj).cls T N) (hk : k < 61) (ho : ob k = .inl (ci, fs)) (As : List Value) (has : as ad = .ref (ad k) :: As) (hn : As.length = n) (hst : stk = As.reverse ++ .ref (ad k) :: st) (hcat : (st.map fun v => v.category).sum ≤ 8) (hd : decode (mcc mi) pc = .ok (.invokevirtual index, 3)) (K : ∀ (r : Int32) (M' : Mem), G X ad mi φ (pc + 3) L (.int r :: st) M' (f r M')) : G X ad mi φ pc L stk M (bnd2 o' f) := G_callV hM hc hr hl hcl hk ho As has hn hst hcat hd (fun r => K r.1 r.2)
theorem G_callVN_I {o' : Option (Int32)} {f : Int32 → Option β} (hM : MC mj (φI M) as M o') (hc : CalV mj n) (hr : RoomOk mi mj) (hl : Cond.methodLinkNest (my mi).cls index (my mj) host ∈ NW) (hcl : ClOk ci (my mj).cls T N) (hk : k < 61) (ho : ob k = .inl (ci, fs)) (As : List Value) (has : as ad = .ref (ad k) :: As) (hn : As.length = n) (hst : stk = As.reverse ++ .ref (ad k) :: st) (hcat : (st.map fun v => v.category).sum ≤ 8) (hd : decode (mcc mi) pc = .ok (.invokevirtual index, 3)) (K : ∀ r : Int32, G X ad mi φ (pc + 3) L (.int r :: st) M (f r)) : G X ad mi φ pc L stk M (Option.bind o' f) := G_callVN hM hc hr hl hcl hk ho As has hn hst hcat hd K
theorem G_callVN_L {o' : Option (Int64)} {f : Int64 → Option β} (hM : MC mj (φL M) as M o') (hc : CalV mj n) (hr : RoomOk mi mj) (hl : Cond.methodLinkNest (my mi).cls index (my mj) host ∈ NW) (hcl : ClOk ci (my mj).cls T N) (hk : k < 61) (ho : ob k = .inl (ci, fs)) (As : List Value) (has : as ad = .ref (ad k) :: As) (hn : As.length = n) (hst : stk = As.reverse ++ .ref (ad k) :: st) (hcat : (st.map fun v => v.category).sum ≤ 8) (hd : decode (mcc mi) pc = .ok (.invokevirtual index, 3)) (K : ∀ r : Int64, G X ad mi φ (pc + 3) L (.long r :: st) M (f r)) : G X ad mi φ pc L stk M (Option.bind o' f) := G_callVN hM hc hr hl hcl hk ho As has hn hst hcat hd K
theorem G_callVN_V {o' : Option (Mem)} {f : Mem → Option β} (hM : MC mj (φV) as M o') (hc : CalV mj n) (hr : RoomOk mi mj) (hl : Cond.methodLinkNest (my mi).cls index (my mj) host ∈ NW) (hcl : ClOk ci (my mj).cls T N) (hk : k < 61) (ho : ob k = .inl (ci, fs)) (As : List Value) (has : as ad = .ref (ad k) :: As) (hn : As.length = n) (hst : stk = As.reverse ++ .ref (ad k) :: st) (hcat : (st.map fun v => v.category).sum ≤ 8) (hd : decode (mcc mi) pc = .ok (.invokevirtual index, 3)) (K : ∀ M' : Mem, G X ad mi φ (pc + 3) L st M' (f M')) : G X ad mi φ pc L stk M (Option.bind o' f) := G_callVN hM hc hr hl hcl hk ho As has hn hst hcat hd K
theorem G_callVN_IM {o' : Option (Int32 × Mem)} {f : Int32 → Mem → Option β} (hM : MC mj (φIM) as M o') (hc : CalV mj n) (hr : RoomOk mi mj) (hl : Cond.methodLinkNest (my mi).cls index (my mj) host ∈ NW) (hcl : ClOk ci (my mj).cls T N) (hk : k < 61) (ho : ob k = .inl (ci, fs)) (As : List Value) (has : as ad = .ref (ad k) :: As) (hn : As.length = n) (hst : stk = As.reverse ++ .ref (ad k) :: st) (hcat : (st.map fun v => v.category).sum ≤ 8) (hd : decode (mcc mi) pc = .ok (.invokevirtual index, 3)) (K : ∀ (r : Int32) (M' : Mem), G X ad mi φ (pc + 3) L (.int r :: st) M' (f r M')) : G X ad mi φ pc L stk M (bnd2 o' f) := G_callVN hM hc hr hl hcl hk ho As has hn hst hcat hd (fun r => K r.1 r.2)
theorem G_callS_I {o' : Option (Int32)} {f : Int32 → Option β} (hM : MC mj (φI M) as M o') (hc : CalS mj n) (hr : RoomOk mi mj) (hl : Cond.methodLink (my mi).cls index (my mj) ∈ TB) (hn : (as ad).length = n) (hst : stk = (as ad).reverse ++ st) (hcat : (st.map fun v => v.category).sum ≤ 8) (hd : decode (mcc mi) pc = .ok (.invokestatic index, 3)) (K : ∀ r : Int32, G X ad mi φ (pc + 3) L (.int r :: st) M (f r)) : G X ad mi φ pc L stk M (Option.bind o' f) := G_callS hM hc hr hl hn hst hcat hd K
theorem G_callS_L {o' : Option (Int64)} {f : Int64 → Option β} (hM : MC mj (φL M) as M o') (hc : CalS mj n) (hr : RoomOk mi mj) (hl : Cond.methodLink (my mi).cls index (my mj) ∈ TB) (hn : (as ad).length = n) (hst : stk = (as ad).reverse ++ st) (hcat : (st.map fun v => v.category).sum ≤ 8) (hd : decode (mcc mi) pc = .ok (.invokestatic index, 3)) (K : ∀ r : Int64, G X ad mi φ (pc + 3) L (.long r :: st) M (f r)) : G X ad mi φ pc L stk M (Option.bind o' f) := G_callS hM hc hr hl hn hst hcat hd K
theorem G_callS_V {o' : Option (Mem)} {f : Mem → Option β} (hM : MC mj (φV) as M o') (hc : CalS mj n) (hr : RoomOk mi mj) (hl : Cond.methodLink (my mi).cls index (my mj) ∈ TB) (hn : (as ad).length = n) (hst : stk = (as ad).reverse ++ st) (hcat : (st.map fun v => v.category).sum ≤ 8) (hd : decode (mcc mi) pc = .ok (.invokestatic index, 3)) (K : ∀ M' : Mem, G X ad mi φ (pc + 3) L st M' (f M')) : G X ad mi φ pc L stk M (Option.bind o' f) := G_callS hM hc hr hl hn hst hcat hd K
theorem G_callS_IM {o' : Option (Int32 × Mem)} {f : Int32 → Mem → Option β} (hM : MC mj (φIM) as M o') (hc : CalS mj n) (hr : RoomOk mi mj) (hl : Cond.methodLink (my mi).cls index (my mj) ∈ TB) (hn : (as ad).length = n) (hst : stk = (as ad).reverse ++ st) (hcat : (st.map fun v => v.category).sum ≤ 8) (hd : decode (mcc mi) pc = .ok (.invokestatic index, 3)) (K : ∀ (r : Int32) (M' : Mem), G X ad mi φ (pc + 3) L (.int r :: st) M' (f r M')) : G X ad mi φ pc L stk M (bnd2 o' f) := G_callS hM hc hr hl hn hst hcat hd (fun r => K r.1 r.2)
theorem G_callSN_I {o' : Option (Int32)} {f : Int32 → Option β} (hM : MC mj (φI M) as M o') (hc : CalS mj n) (hr : RoomOk mi mj) (hl : Cond.methodLinkNest (my mi).cls index (my mj) host ∈ NW) (hn : (as ad).length = n) (hst : stk = (as ad).reverse ++ st) (hcat : (st.map fun v => v.category).sum ≤ 8) (hd : decode (mcc mi) pc = .ok (.invokestatic index, 3)) (K : ∀ r : Int32, G X ad mi φ (pc + 3) L (.int r :: st) M (f r)) : G X ad mi φ pc L stk M (Option.bind o' f) := G_callSN hM hc hr hl hn hst hcat hd K
theorem G_callSN_L {o' : Option (Int64)} {f : Int64 → Option β} (hM : MC mj (φL M) as M o') (hc : CalS mj n) (hr : RoomOk mi mj) (hl : Cond.methodLinkNest (my mi).cls index (my mj) host ∈ NW) (hn : (as ad).length = n) (hst : stk = (as ad).reverse ++ st) (hcat : (st.map fun v => v.category).sum ≤ 8) (hd : decode (mcc mi) pc = .ok (.invokestatic index, 3)) (K : ∀ r : Int64, G X ad mi φ (pc + 3) L (.long r :: st) M (f r)) : G X ad mi φ pc L stk M (Option.bind o' f) := G_callSN hM hc hr hl hn hst hcat hd K
theorem G_callSN_V {o' : Option (Mem)} {f : Mem → Option β} (hM : MC mj (φV) as M o') (hc : CalS mj n) (hr : RoomOk mi mj) (hl : Cond.methodLinkNest (my mi).cls index (my mj) host ∈ NW) (hn : (as ad).length = n) (hst : stk = (as ad).reverse ++ st) (hcat : (st.map fun v => v.category).sum ≤ 8) (hd : decode (mcc mi) pc = .ok (.invokestatic index, 3)) (K : ∀ M' : Mem, G X ad mi φ (pc + 3) L st M' (f M')) : G X ad mi φ pc L stk M (Option.bind o' f) := G_callSN hM hc hr hl hn hst hcat hd K
theorem G_callSN_IM {o' : Option (Int32 × Mem)} {f : Int32 → Mem → Option β} (hM : MC mj (φIM) as M o') (hc : CalS mj n) (hr : RoomOk mi mj) (hl : Cond.methodLinkNest (my mi).cls index (my mj) host ∈ NW) (hn : (as ad).length = n) (hst : stk = (as ad).reverse ++ st) (hcat : (st.map fun v => v.category).sum ≤ 8) (hd : decode (mcc mi) pc = .ok (.invokestatic index, 3)) (K : ∀ (r : Int32) (M' : Mem), G X ad mi φ (pc + 3) L (.int r :: st) M' (f r M')) : G X ad mi φ pc L stk M (bnd2 o' f) := G_callSN hM hc hr hl hn hst hcat hd (fun r => K r.1 r.2)
end CALLS
theorem inTBX0 : ∀ w ∈ u_ws RX0 TX0 2, w ∈ TB := by decide +kernel
theorem hclX0 : ClOk 0 RX0 TX0 2 := ⟨rfl, inTBX0, nmX0, tyX0, tyX0_ok⟩
theorem inTBX1 : ∀ w ∈ u_ws RX1 TX1 2, w ∈ TB := by decide +kernel
theorem hclX1 : ClOk 1 RX1 TX1 2 := ⟨rfl, inTBX1, nmX1, tyX1, tyX1_ok⟩
theorem inTBX2 : ∀ w ∈ u_ws RX2 TX2 4, w ∈ TB := by decide +kernel
theorem hclX2 : ClOk 2 RX2 TX2 4 := ⟨rfl, inTBX2, nmX2, tyX2, tyX2_ok⟩
theorem inTBX3 : ∀ w ∈ u_ws RX3 TX3 3, w ∈ TB := by decide +kernel
theorem hclX3 : ClOk 3 RX3 TX3 3 := ⟨rfl, inTBX3, nmX3, tyX3, tyX3_ok⟩
theorem inTBX4 : ∀ w ∈ u_ws RX4 TX4 1, w ∈ TB := by decide +kernel
theorem hclX4 : ClOk 4 RX4 TX4 1 := ⟨rfl, inTBX4, nmX4, tyX4, tyX4_ok⟩
theorem inTBX5 : ∀ w ∈ u_ws RX5 TX5 5, w ∈ TB := by decide +kernel
theorem hclX5 : ClOk 5 RX5 TX5 5 := ⟨rfl, inTBX5, nmX5, tyX5, tyX5_ok⟩
theorem inTBX6 : ∀ w ∈ u_ws RX6 TX6 2, w ∈ TB := by decide +kernel
theorem hclX6 : ClOk 6 RX6 TX6 2 := ⟨rfl, inTBX6, nmX6, tyX6, tyX6_ok⟩
theorem inTBX7 : ∀ w ∈ u_ws RX7 TX7 3, w ∈ TB := by decide +kernel
theorem hclX7 : ClOk 7 RX7 TX7 3 := ⟨rfl, inTBX7, nmX7, tyX7, tyX7_ok⟩
theorem inTBX8 : ∀ w ∈ u_ws RX8 TX8 5, w ∈ TB := by decide +kernel
theorem hclX8 : ClOk 8 RX8 TX8 5 := ⟨rfl, inTBX8, nmX8, tyX8, tyX8_ok⟩
theorem inTBX9 : ∀ w ∈ u_ws RX9 TX9 13, w ∈ TB := by decide +kernel
theorem hclX9 : ClOk 9 RX9 TX9 13 := ⟨rfl, inTBX9, nmX9, tyX9, tyX9_ok⟩
theorem inTBX10 : ∀ w ∈ u_ws RX10 TX10 34, w ∈ TB := by decide +kernel
theorem hclX10 : ClOk 10 RX10 TX10 34 := ⟨rfl, inTBX10, nmX10, tyX10, tyX10_ok⟩
theorem isA_2 : isA 2 := ⟨by decide, rfl⟩
theorem isA_3 : isA 3 := ⟨by decide, rfl⟩
theorem isA_5 : isA 5 := ⟨by decide, rfl⟩
theorem isA_7 : isA 7 := ⟨by decide, rfl⟩
theorem isA_11 : isA 11 := ⟨by decide, rfl⟩
theorem isA_12 : isA 12 := ⟨by decide, rfl⟩
theorem isA_13 : isA 13 := ⟨by decide, rfl⟩
theorem isA_15 : isA 15 := ⟨by decide, rfl⟩
theorem isA_17 : isA 17 := ⟨by decide, rfl⟩
theorem isA_18 : isA 18 := ⟨by decide, rfl⟩
theorem isA_19 : isA 19 := ⟨by decide, rfl⟩
theorem isA_21 : isA 21 := ⟨by decide, rfl⟩
theorem isA_22 : isA 22 := ⟨by decide, rfl⟩
theorem isA_24 : isA 24 := ⟨by decide, rfl⟩
theorem isA_25 : isA 25 := ⟨by decide, rfl⟩
theorem isA_27 : isA 27 := ⟨by decide, rfl⟩
theorem isA_32 : isA 32 := ⟨by decide, rfl⟩
theorem isA_50 : isA 50 := ⟨by decide, rfl⟩
theorem isA_51 : isA 51 := ⟨by decide, rfl⟩
theorem isA_52 : isA 52 := ⟨by decide, rfl⟩
theorem isP_26 : isP 26 := ⟨by decide, rfl, rfl⟩
theorem isP_28 : isP 28 := ⟨by decide, rfl, rfl⟩
theorem isP_30 : isP 30 := ⟨by decide, rfl, rfl⟩
theorem isT_4 : isT 4 := ⟨by decide, rfl, rfl⟩
theorem isT_8 : isT 8 := ⟨by decide, rfl, rfl⟩
theorem wd_0 : Cond.selects RX7 yX7_settle yX7_settle ∈ TB := TB_in (List.mem_of_getElem? (i := 0) (by decide +kernel)) rfl
theorem wd_1 : Cond.selects RX9 yX9_refuse yX9_refuse ∈ TB := TB_in (List.mem_of_getElem? (i := 1) (by decide +kernel)) rfl
theorem wd_2 : Cond.selects RX6 yX6_drain yX6_drain ∈ TB := TB_in (List.mem_of_getElem? (i := 2) (by decide +kernel)) rfl
theorem wd_3 : Cond.selects RX7 yX7_lives yX7_lives ∈ TB := TB_in (List.mem_of_getElem? (i := 3) (by decide +kernel)) rfl
theorem wd_4 : Cond.selects RX5 yX5_append yX5_append ∈ TB := TB_in (List.mem_of_getElem? (i := 4) (by decide +kernel)) rfl
theorem wd_5 : Cond.selects RX5 yX5_readAll yX5_readAll ∈ TB := TB_in (List.mem_of_getElem? (i := 5) (by decide +kernel)) rfl
theorem wd_6 : Cond.selects RX5 yX5_readTie yX5_readTie ∈ TB := TB_in (List.mem_of_getElem? (i := 6) (by decide +kernel)) rfl
theorem wd_7 : Cond.selects RX6 yX6_draft yX6_draft ∈ TB := TB_in (List.mem_of_getElem? (i := 7) (by decide +kernel)) rfl
theorem wd_8 : Cond.selects RX5 yX5_readPerson yX5_readPerson ∈ TB := TB_in (List.mem_of_getElem? (i := 8) (by decide +kernel)) rfl
theorem wd_9 : Cond.selects RX5 yX5_readInto yX5_readInto ∈ TB := TB_in (List.mem_of_getElem? (i := 9) (by decide +kernel)) rfl
theorem wd_10 : Cond.selects RX5 yX5_here yX5_here ∈ TB := TB_in (List.mem_of_getElem? (i := 10) (by decide +kernel)) rfl
theorem wd_11 : Cond.selects RX5 yX5_skip yX5_skip ∈ TB := TB_in (List.mem_of_getElem? (i := 11) (by decide +kernel)) rfl
theorem wd_12 : Cond.selects RX5 yX5_drafted yX5_drafted ∈ TB := TB_in (List.mem_of_getElem? (i := 12) (by decide +kernel)) rfl
theorem wd_13 : Cond.selects RX6 yX6_field yX6_field ∈ TB := TB_in (List.mem_of_getElem? (i := 13) (by decide +kernel)) rfl
theorem wd_14 : Cond.selects RX5 yX5_readStrength yX5_readStrength ∈ TB := TB_in (List.mem_of_getElem? (i := 14) (by decide +kernel)) rfl
theorem wd_15 : Cond.selects RX5 yX5_readYears yX5_readYears ∈ TB := TB_in (List.mem_of_getElem? (i := 15) (by decide +kernel)) rfl
theorem wd_16 : Cond.selects RX5 yX5_readYear yX5_readYear ∈ TB := TB_in (List.mem_of_getElem? (i := 16) (by decide +kernel)) rfl
theorem wd_17 : Cond.selects RX6 yX6_endDraft yX6_endDraft ∈ TB := TB_in (List.mem_of_getElem? (i := 17) (by decide +kernel)) rfl
theorem wd_18 : Cond.selects RX6 yX6_takeAll yX6_takeAll ∈ TB := TB_in (List.mem_of_getElem? (i := 18) (by decide +kernel)) rfl
theorem wd_19 : Cond.selects RX6 yX6_drop yX6_drop ∈ TB := TB_in (List.mem_of_getElem? (i := 19) (by decide +kernel)) rfl
theorem wd_20 : Cond.selects RX9 yX9_lookAt yX9_lookAt ∈ TB := TB_in (List.mem_of_getElem? (i := 20) (by decide +kernel)) rfl
theorem wd_21 : Cond.selects RX6 yX6_draw yX6_draw ∈ TB := TB_in (List.mem_of_getElem? (i := 21) (by decide +kernel)) rfl
theorem wd_22 : Cond.selects RX7 yX7_strength yX7_strength ∈ TB := TB_in (List.mem_of_getElem? (i := 22) (by decide +kernel)) rfl
theorem wd_23 : Cond.selects RX7 yX7_tiesOf yX7_tiesOf ∈ TB := TB_in (List.mem_of_getElem? (i := 23) (by decide +kernel)) rfl
theorem wd_24 : Cond.selects RX7 yX7_tied yX7_tied ∈ TB := TB_in (List.mem_of_getElem? (i := 24) (by decide +kernel)) rfl
theorem wd_25 : Cond.selects RX3 yX3_readNumber yX3_readNumber ∈ TB := TB_in (List.mem_of_getElem? (i := 25) (by decide +kernel)) rfl
theorem wd_26 : Cond.selects RX3 yX3_of yX3_of ∈ TB := TB_in (List.mem_of_getElem? (i := 26) (by decide +kernel)) rfl
theorem wd_27 : Cond.selects RX4 yX4_firstUnlike yX4_firstUnlike ∈ TB := TB_in (List.mem_of_getElem? (i := 27) (by decide +kernel)) rfl
theorem wd_28 : Cond.selects RX4 yX4_look yX4_look ∈ TB := TB_in (List.mem_of_getElem? (i := 28) (by decide +kernel)) rfl
theorem wd_29 : Cond.selects RX4 yX4_note yX4_note ∈ TB := TB_in (List.mem_of_getElem? (i := 29) (by decide +kernel)) rfl
theorem wd_30 : Cond.selects RX3 yX3_together yX3_together ∈ TB := TB_in (List.mem_of_getElem? (i := 30) (by decide +kernel)) rfl
theorem wd_31 : Cond.selects RX4 yX4_alike yX4_alike ∈ TB := TB_in (List.mem_of_getElem? (i := 31) (by decide +kernel)) rfl
theorem wd_32 : Cond.selects RX7 yX7_sameMark yX7_sameMark ∈ TB := TB_in (List.mem_of_getElem? (i := 32) (by decide +kernel)) rfl
theorem wd_33 : Cond.selects RX4 yX4_sameView yX4_sameView ∈ TB := TB_in (List.mem_of_getElem? (i := 33) (by decide +kernel)) rfl
theorem wd_34 : Cond.selects RX4 yX4_refine yX4_refine ∈ TB := TB_in (List.mem_of_getElem? (i := 34) (by decide +kernel)) rfl
theorem wd_35 : Cond.selects RX4 yX4_split yX4_split ∈ TB := TB_in (List.mem_of_getElem? (i := 35) (by decide +kernel)) rfl
theorem wd_36 : Cond.selects RX3 yX3_begin yX3_begin ∈ TB := TB_in (List.mem_of_getElem? (i := 36) (by decide +kernel)) rfl
theorem wd_37 : Cond.selects RX3 yX3_place yX3_place ∈ TB := TB_in (List.mem_of_getElem? (i := 37) (by decide +kernel)) rfl
theorem wd_38 : Cond.selects RX3 yX3_copy yX3_copy ∈ TB := TB_in (List.mem_of_getElem? (i := 38) (by decide +kernel)) rfl
theorem wd_39 : Cond.selects RX3 yX3_number yX3_number ∈ TB := TB_in (List.mem_of_getElem? (i := 39) (by decide +kernel)) rfl
theorem wd_40 : Cond.selects RX8 yX8_howMany yX8_howMany ∈ TB := TB_in (List.mem_of_getElem? (i := 40) (by decide +kernel)) rfl
theorem wd_41 : Cond.selects RX8 yX8_brings yX8_brings ∈ TB := TB_in (List.mem_of_getElem? (i := 41) (by decide +kernel)) rfl
theorem wd_42 : Cond.selects RX8 yX8_begin yX8_begin ∈ TB := TB_in (List.mem_of_getElem? (i := 42) (by decide +kernel)) rfl
theorem wd_43 : Cond.selects RX8 yX8_nextKeeping yX8_nextKeeping ∈ TB := TB_in (List.mem_of_getElem? (i := 43) (by decide +kernel)) rfl
theorem wd_44 : Cond.selects RX8 yX8_lift yX8_lift ∈ TB := TB_in (List.mem_of_getElem? (i := 44) (by decide +kernel)) rfl
theorem wd_45 : Cond.selects RX8 yX8_keepsAhead yX8_keepsAhead ∈ TB := TB_in (List.mem_of_getElem? (i := 45) (by decide +kernel)) rfl
theorem wd_46 : Cond.selects RX8 yX8_step yX8_step ∈ TB := TB_in (List.mem_of_getElem? (i := 46) (by decide +kernel)) rfl
theorem wd_47 : Cond.selects RX8 yX8_partByOrbit yX8_partByOrbit ∈ TB := TB_in (List.mem_of_getElem? (i := 47) (by decide +kernel)) rfl
theorem wd_48 : Cond.selects RX8 yX8_leastRow yX8_leastRow ∈ TB := TB_in (List.mem_of_getElem? (i := 48) (by decide +kernel)) rfl
theorem wd_49 : Cond.selects RX8 yX8_findTwins yX8_findTwins ∈ TB := TB_in (List.mem_of_getElem? (i := 49) (by decide +kernel)) rfl
theorem wd_50 : Cond.selects RX7 yX7_tiesOfKind yX7_tiesOfKind ∈ TB := TB_in (List.mem_of_getElem? (i := 50) (by decide +kernel)) rfl
theorem wd_51 : Cond.selects RX8 yX8_nextInRow yX8_nextInRow ∈ TB := TB_in (List.mem_of_getElem? (i := 51) (by decide +kernel)) rfl
theorem wd_52 : Cond.selects RX8 yX8_hasLeastMark yX8_hasLeastMark ∈ TB := TB_in (List.mem_of_getElem? (i := 52) (by decide +kernel)) rfl
theorem wd_53 : Cond.selects RX8 yX8_behindBest yX8_behindBest ∈ TB := TB_in (List.mem_of_getElem? (i := 53) (by decide +kernel)) rfl
theorem wd_54 : Cond.selects RX8 yX8_lessThanBest yX8_lessThanBest ∈ TB := TB_in (List.mem_of_getElem? (i := 54) (by decide +kernel)) rfl
theorem wd_55 : Cond.selects RX8 yX8_keepBest yX8_keepBest ∈ TB := TB_in (List.mem_of_getElem? (i := 55) (by decide +kernel)) rfl
theorem wd_56 : Cond.selects RX8 yX8_bestAsNumber yX8_bestAsNumber ∈ TB := TB_in (List.mem_of_getElem? (i := 56) (by decide +kernel)) rfl
theorem wd_57 : Cond.selects RX3 yX3_allInOne yX3_allInOne ∈ TB := TB_in (List.mem_of_getElem? (i := 57) (by decide +kernel)) rfl
theorem wd_58 : Cond.selects RX3 yX3_forward yX3_forward ∈ TB := TB_in (List.mem_of_getElem? (i := 58) (by decide +kernel)) rfl
theorem wd_59 : Cond.selects RX3 yX3_topAhead yX3_topAhead ∈ TB := TB_in (List.mem_of_getElem? (i := 59) (by decide +kernel)) rfl
theorem wd_60 : Cond.selects RX3 yX3_mergeBy yX3_mergeBy ∈ TB := TB_in (List.mem_of_getElem? (i := 60) (by decide +kernel)) rfl
theorem wd_61 : Cond.selects RX3 yX3_rename yX3_rename ∈ TB := TB_in (List.mem_of_getElem? (i := 61) (by decide +kernel)) rfl
theorem wd_62 : Cond.selects RX3 yX3_copyRenumbered yX3_copyRenumbered ∈ TB := TB_in (List.mem_of_getElem? (i := 62) (by decide +kernel)) rfl
theorem wd_63 : Cond.selects RX3 yX3_cross yX3_cross ∈ TB := TB_in (List.mem_of_getElem? (i := 63) (by decide +kernel)) rfl
theorem wd_64 : Cond.selects RX3 yX3_has yX3_has ∈ TB := TB_in (List.mem_of_getElem? (i := 64) (by decide +kernel)) rfl
theorem wd_65 : Cond.selects RX0 yX0_image yX0_image ∈ TB := TB_in (List.mem_of_getElem? (i := 65) (by decide +kernel)) rfl
theorem wd_66 : Cond.selects RX3 yX3_sizeOf yX3_sizeOf ∈ TB := TB_in (List.mem_of_getElem? (i := 66) (by decide +kernel)) rfl
theorem wd_67 : Cond.selects RX0 yX0_tiesTo yX0_tiesTo ∈ TB := TB_in (List.mem_of_getElem? (i := 67) (by decide +kernel)) rfl
theorem wd_68 : Cond.selects RX0 yX0_misfits yX0_misfits ∈ TB := TB_in (List.mem_of_getElem? (i := 68) (by decide +kernel)) rfl
theorem wd_69 : Cond.selects RX0 yX0_tallyTies yX0_tallyTies ∈ TB := TB_in (List.mem_of_getElem? (i := 69) (by decide +kernel)) rfl
theorem wd_70 : Cond.selects RX0 yX0_misfit yX0_misfit ∈ TB := TB_in (List.mem_of_getElem? (i := 70) (by decide +kernel)) rfl
theorem wd_71 : Cond.selects RX0 yX0_bestWith yX0_bestWith ∈ TB := TB_in (List.mem_of_getElem? (i := 71) (by decide +kernel)) rfl
theorem wd_72 : Cond.selects RX0 yX0_worstTie yX0_worstTie ∈ TB := TB_in (List.mem_of_getElem? (i := 72) (by decide +kernel)) rfl
theorem wd_73 : Cond.selects RX0 yX0_gainOf yX0_gainOf ∈ TB := TB_in (List.mem_of_getElem? (i := 73) (by decide +kernel)) rfl
theorem wd_74 : Cond.selects RX2 yX2_append yX2_append ∈ TB := TB_in (List.mem_of_getElem? (i := 74) (by decide +kernel)) rfl
theorem wd_75 : Cond.selects RX2 yX2_suitingParts yX2_suitingParts ∈ TB := TB_in (List.mem_of_getElem? (i := 75) (by decide +kernel)) rfl
theorem wd_76 : Cond.selects RX2 yX2_hasSuchTie yX2_hasSuchTie ∈ TB := TB_in (List.mem_of_getElem? (i := 76) (by decide +kernel)) rfl
theorem wd_77 : Cond.selects RX9 yX9_partOfYear yX9_partOfYear ∈ TB := TB_in (List.mem_of_getElem? (i := 77) (by decide +kernel)) rfl
theorem wd_78 : Cond.selects RX1 yX1_keepers yX1_keepers ∈ TB := TB_in (List.mem_of_getElem? (i := 78) (by decide +kernel)) rfl
theorem wd_79 : Cond.selects RX1 yX1_bestFor yX1_bestFor ∈ TB := TB_in (List.mem_of_getElem? (i := 79) (by decide +kernel)) rfl
theorem wd_80 : Cond.selects RX6 yX6_nextChange yX6_nextChange ∈ TB := TB_in (List.mem_of_getElem? (i := 80) (by decide +kernel)) rfl
theorem wd_81 : Cond.selects RX7 yX7_tiesInAll yX7_tiesInAll ∈ TB := TB_in (List.mem_of_getElem? (i := 81) (by decide +kernel)) rfl
theorem wd_82 : Cond.selects RX10 yX10_no yX10_no ∈ TB := TB_in (List.mem_of_getElem? (i := 82) (by decide +kernel)) rfl
theorem wd_83 : Cond.selects RX10 yX10_isPerson yX10_isPerson ∈ TB := TB_in (List.mem_of_getElem? (i := 83) (by decide +kernel)) rfl
theorem wd_84 : Cond.selects RX10 yX10_reads yX10_reads ∈ TB := TB_in (List.mem_of_getElem? (i := 84) (by decide +kernel)) rfl
theorem wd_85 : Cond.selects RX10 yX10_oneTie yX10_oneTie ∈ TB := TB_in (List.mem_of_getElem? (i := 85) (by decide +kernel)) rfl
theorem wd_86 : Cond.selects RX10 yX10_takesIn yX10_takesIn ∈ TB := TB_in (List.mem_of_getElem? (i := 86) (by decide +kernel)) rfl
theorem wd_87 : Cond.selects RX10 yX10_sign yX10_sign ∈ TB := TB_in (List.mem_of_getElem? (i := 87) (by decide +kernel)) rfl
theorem wd_88 : Cond.selects RX10 yX10_takes yX10_takes ∈ TB := TB_in (List.mem_of_getElem? (i := 88) (by decide +kernel)) rfl
theorem wd_89 : Cond.selects RX10 yX10_years yX10_years ∈ TB := TB_in (List.mem_of_getElem? (i := 89) (by decide +kernel)) rfl
theorem wd_90 : Cond.selects RX10 yX10_findTies yX10_findTies ∈ TB := TB_in (List.mem_of_getElem? (i := 90) (by decide +kernel)) rfl
theorem wd_91 : Cond.selects RX10 yX10_strong yX10_strong ∈ TB := TB_in (List.mem_of_getElem? (i := 91) (by decide +kernel)) rfl
theorem wd_92 : Cond.selects RX10 yX10_has yX10_has ∈ TB := TB_in (List.mem_of_getElem? (i := 92) (by decide +kernel)) rfl
theorem wd_93 : Cond.selects RX10 yX10_opens yX10_opens ∈ TB := TB_in (List.mem_of_getElem? (i := 93) (by decide +kernel)) rfl
theorem wd_94 : Cond.selects RX10 yX10_judged yX10_judged ∈ TB := TB_in (List.mem_of_getElem? (i := 94) (by decide +kernel)) rfl
theorem wd_95 : Cond.selects RX10 yX10_areSo yX10_areSo ∈ TB := TB_in (List.mem_of_getElem? (i := 95) (by decide +kernel)) rfl
theorem wd_96 : Cond.selects RX10 yX10_areTied yX10_areTied ∈ TB := TB_in (List.mem_of_getElem? (i := 96) (by decide +kernel)) rfl
theorem wd_97 : Cond.selects RX10 yX10_areLed yX10_areLed ∈ TB := TB_in (List.mem_of_getElem? (i := 97) (by decide +kernel)) rfl
theorem wd_98 : Cond.selects RX10 yX10_led yX10_led ∈ TB := TB_in (List.mem_of_getElem? (i := 98) (by decide +kernel)) rfl
theorem wd_99 : Cond.selects RX10 yX10_splits yX10_splits ∈ TB := TB_in (List.mem_of_getElem? (i := 99) (by decide +kernel)) rfl
theorem wd_100 : Cond.selects RX10 yX10_number yX10_number ∈ TB := TB_in (List.mem_of_getElem? (i := 100) (by decide +kernel)) rfl
theorem wd_101 : Cond.selects RX10 yX10_findTurns yX10_findTurns ∈ TB := TB_in (List.mem_of_getElem? (i := 101) (by decide +kernel)) rfl
theorem wd_102 : Cond.selects RX10 yX10_firstNames yX10_firstNames ∈ TB := TB_in (List.mem_of_getElem? (i := 102) (by decide +kernel)) rfl
theorem wd_103 : Cond.selects RX10 yX10_isTurn yX10_isTurn ∈ TB := TB_in (List.mem_of_getElem? (i := 103) (by decide +kernel)) rfl
theorem wd_104 : Cond.selects RX10 yX10_nextNames yX10_nextNames ∈ TB := TB_in (List.mem_of_getElem? (i := 104) (by decide +kernel)) rfl
theorem wd_105 : Cond.selects RX10 yX10_firstParting yX10_firstParting ∈ TB := TB_in (List.mem_of_getElem? (i := 105) (by decide +kernel)) rfl
theorem wd_106 : Cond.selects RX10 yX10_nextParting yX10_nextParting ∈ TB := TB_in (List.mem_of_getElem? (i := 106) (by decide +kernel)) rfl
theorem wd_107 : Cond.selects RX10 yX10_wrongOf yX10_wrongOf ∈ TB := TB_in (List.mem_of_getElem? (i := 107) (by decide +kernel)) rfl
theorem wd_108 : Cond.selects RX10 yX10_parts yX10_parts ∈ TB := TB_in (List.mem_of_getElem? (i := 108) (by decide +kernel)) rfl
theorem wd_109 : Cond.selects RX10 yX10_less yX10_less ∈ TB := TB_in (List.mem_of_getElem? (i := 109) (by decide +kernel)) rfl
theorem wd_110 : Cond.selects RX10 yX10_isFit yX10_isFit ∈ TB := TB_in (List.mem_of_getElem? (i := 110) (by decide +kernel)) rfl
theorem wd_111 : Cond.selects RX10 yX10_coarsestOn yX10_coarsestOn ∈ TB := TB_in (List.mem_of_getElem? (i := 111) (by decide +kernel)) rfl
theorem wd_113 : Cond.initialized RX9 ∈ TB := TB_in (List.mem_of_getElem? (i := 113) (by decide +kernel)) rfl
theorem wd_114 : Cond.initialized RX7 ∈ TB := TB_in (List.mem_of_getElem? (i := 114) (by decide +kernel)) rfl
theorem wd_115 : Cond.initialized RX6 ∈ TB := TB_in (List.mem_of_getElem? (i := 115) (by decide +kernel)) rfl
theorem wd_116 : Cond.initialized RX5 ∈ TB := TB_in (List.mem_of_getElem? (i := 116) (by decide +kernel)) rfl
theorem wd_117 : Cond.initialized RX2 ∈ TB := TB_in (List.mem_of_getElem? (i := 117) (by decide +kernel)) rfl
theorem wd_118 : Cond.initialized RX4 ∈ TB := TB_in (List.mem_of_getElem? (i := 118) (by decide +kernel)) rfl
theorem wd_119 : Cond.initialized RX8 ∈ TB := TB_in (List.mem_of_getElem? (i := 119) (by decide +kernel)) rfl
theorem wd_120 : Cond.initialized RX0 ∈ TB := TB_in (List.mem_of_getElem? (i := 120) (by decide +kernel)) rfl
theorem wd_121 : Cond.initialized RX1 ∈ TB := TB_in (List.mem_of_getElem? (i := 121) (by decide +kernel)) rfl
theorem wd_122 : Cond.initialized RX3 ∈ TB := TB_in (List.mem_of_getElem? (i := 122) (by decide +kernel)) rfl
theorem wd_123 : Cond.initialized RX10 ∈ TB := TB_in (List.mem_of_getElem? (i := 123) (by decide +kernel)) rfl
theorem wd_124 : Cond.initialized RJ9 ∈ TB := TB_in (List.mem_of_getElem? (i := 124) (by decide +kernel)) rfl
theorem wd_139 : Cond.fieldLink RX7 9 RX7 "marks" "[I" ∈ TB := TB_in (List.mem_of_getElem? (i := 139) (by decide +kernel)) rfl
theorem wn_140 : Cond.fieldLinkNest RX9 102 RX7 "marks" "[I" RX9 ∈ NW := NW_in (List.mem_of_getElem? (i := 140) (by decide +kernel)) rfl
theorem wn_141 : Cond.fieldLinkNest RX8 126 RX7 "marks" "[I" RX9 ∈ NW := NW_in (List.mem_of_getElem? (i := 141) (by decide +kernel)) rfl
theorem wd_142 : Cond.fieldLink RX7 15 RX7 "strengths" "[I" ∈ TB := TB_in (List.mem_of_getElem? (i := 142) (by decide +kernel)) rfl
theorem wn_143 : Cond.fieldLinkNest RX6 38 RX7 "strengths" "[I" RX9 ∈ NW := NW_in (List.mem_of_getElem? (i := 143) (by decide +kernel)) rfl
theorem wd_144 : Cond.fieldLink RX7 18 RX7 "size" "I" ∈ TB := TB_in (List.mem_of_getElem? (i := 144) (by decide +kernel)) rfl
theorem wn_145 : Cond.fieldLinkNest RX8 21 RX7 "size" "I" RX9 ∈ NW := NW_in (List.mem_of_getElem? (i := 145) (by decide +kernel)) rfl
theorem wn_146 : Cond.fieldLinkNest RX4 19 RX7 "size" "I" RX9 ∈ NW := NW_in (List.mem_of_getElem? (i := 146) (by decide +kernel)) rfl
theorem wn_147 : Cond.fieldLinkNest RX9 90 RX7 "size" "I" RX9 ∈ NW := NW_in (List.mem_of_getElem? (i := 147) (by decide +kernel)) rfl
theorem wn_148 : Cond.fieldLinkNest RX0 36 RX7 "size" "I" RX9 ∈ NW := NW_in (List.mem_of_getElem? (i := 148) (by decide +kernel)) rfl
theorem wn_149 : Cond.fieldLinkNest RX2 46 RX7 "size" "I" RX9 ∈ NW := NW_in (List.mem_of_getElem? (i := 149) (by decide +kernel)) rfl
theorem wd_164 : Cond.fieldLink RX6 11 RX6 "rows" "[I" ∈ TB := TB_in (List.mem_of_getElem? (i := 164) (by decide +kernel)) rfl
theorem wd_165 : Cond.fieldLink RX6 15 RX6 "size" "I" ∈ TB := TB_in (List.mem_of_getElem? (i := 165) (by decide +kernel)) rfl
theorem wn_166 : Cond.fieldLinkNest RX9 126 RX6 "size" "I" RX9 ∈ NW := NW_in (List.mem_of_getElem? (i := 166) (by decide +kernel)) rfl
theorem wn_167 : Cond.fieldLinkNest RX5 79 RX6 "size" "I" RX9 ∈ NW := NW_in (List.mem_of_getElem? (i := 167) (by decide +kernel)) rfl
theorem wd_181 : Cond.fieldLink RX5 9 RX5 "bytes" "[I" ∈ TB := TB_in (List.mem_of_getElem? (i := 181) (by decide +kernel)) rfl
theorem wd_182 : Cond.fieldLink RX5 18 RX5 "heard" "LSameParts$Told;" ∈ TB := TB_in (List.mem_of_getElem? (i := 182) (by decide +kernel)) rfl
theorem wn_183 : Cond.fieldLinkNest RX9 127 RX5 "heard" "LSameParts$Told;" RX9 ∈ NW := NW_in (List.mem_of_getElem? (i := 183) (by decide +kernel)) rfl
theorem wd_184 : Cond.fieldLink RX5 22 RX5 "size" "I" ∈ TB := TB_in (List.mem_of_getElem? (i := 184) (by decide +kernel)) rfl
theorem wn_185 : Cond.fieldLinkNest RX9 116 RX5 "size" "I" RX9 ∈ NW := NW_in (List.mem_of_getElem? (i := 185) (by decide +kernel)) rfl
theorem wd_186 : Cond.fieldLink RX5 33 RX5 "place" "I" ∈ TB := TB_in (List.mem_of_getElem? (i := 186) (by decide +kernel)) rfl
theorem wn_187 : Cond.fieldLinkNest RX9 123 RX5 "place" "I" RX9 ∈ NW := NW_in (List.mem_of_getElem? (i := 187) (by decide +kernel)) rfl
theorem wd_188 : Cond.fieldLink RX5 30 RX5 "persons" "I" ∈ TB := TB_in (List.mem_of_getElem? (i := 188) (by decide +kernel)) rfl
theorem wd_206 : Cond.fieldLink RX2 9 RX2 "kinds" "[I" ∈ TB := TB_in (List.mem_of_getElem? (i := 206) (by decide +kernel)) rfl
theorem wd_207 : Cond.fieldLink RX2 15 RX2 "persons" "[I" ∈ TB := TB_in (List.mem_of_getElem? (i := 207) (by decide +kernel)) rfl
theorem wd_208 : Cond.fieldLink RX2 18 RX2 "outgoing" "[I" ∈ TB := TB_in (List.mem_of_getElem? (i := 208) (by decide +kernel)) rfl
theorem wd_209 : Cond.fieldLink RX2 21 RX2 "size" "I" ∈ TB := TB_in (List.mem_of_getElem? (i := 209) (by decide +kernel)) rfl
theorem wn_210 : Cond.fieldLinkNest RX9 97 RX2 "size" "I" RX9 ∈ NW := NW_in (List.mem_of_getElem? (i := 210) (by decide +kernel)) rfl
theorem wd_226 : Cond.fieldLink RX4 11 RX4 "views" "[I" ∈ TB := TB_in (List.mem_of_getElem? (i := 226) (by decide +kernel)) rfl
theorem wd_236 : Cond.fieldLink RX8 9 RX8 "image" "[I" ∈ TB := TB_in (List.mem_of_getElem? (i := 236) (by decide +kernel)) rfl
theorem wd_237 : Cond.fieldLink RX8 15 RX8 "best" "[I" ∈ TB := TB_in (List.mem_of_getElem? (i := 237) (by decide +kernel)) rfl
theorem wd_238 : Cond.fieldLink RX8 18 RX8 "twinsAhead" "[I" ∈ TB := TB_in (List.mem_of_getElem? (i := 238) (by decide +kernel)) rfl
theorem wd_239 : Cond.fieldLink RX8 48 RX8 "depth" "I" ∈ TB := TB_in (List.mem_of_getElem? (i := 239) (by decide +kernel)) rfl
theorem wd_240 : Cond.fieldLink RX8 58 RX8 "used" "I" ∈ TB := TB_in (List.mem_of_getElem? (i := 240) (by decide +kernel)) rfl
theorem wd_258 : Cond.fieldLink RX0 9 RX0 "tally" "[I" ∈ TB := TB_in (List.mem_of_getElem? (i := 258) (by decide +kernel)) rfl
theorem wd_259 : Cond.fieldLink RX0 15 RX0 "sizes" "[I" ∈ TB := TB_in (List.mem_of_getElem? (i := 259) (by decide +kernel)) rfl
theorem wd_271 : Cond.fieldLink RX1 9 RX1 "shared" "[I" ∈ TB := TB_in (List.mem_of_getElem? (i := 271) (by decide +kernel)) rfl
theorem wd_272 : Cond.fieldLink RX1 15 RX1 "most" "[I" ∈ TB := TB_in (List.mem_of_getElem? (i := 272) (by decide +kernel)) rfl
theorem wd_284 : Cond.fieldLink RX3 9 RX3 "part" "[I" ∈ TB := TB_in (List.mem_of_getElem? (i := 284) (by decide +kernel)) rfl
theorem wd_285 : Cond.fieldLink RX3 15 RX3 "persons" "I" ∈ TB := TB_in (List.mem_of_getElem? (i := 285) (by decide +kernel)) rfl
theorem wn_286 : Cond.fieldLinkNest RX1 22 RX3 "persons" "I" RX9 ∈ NW := NW_in (List.mem_of_getElem? (i := 286) (by decide +kernel)) rfl
theorem wd_287 : Cond.fieldLink RX3 19 RX3 "parts" "I" ∈ TB := TB_in (List.mem_of_getElem? (i := 287) (by decide +kernel)) rfl
theorem wn_288 : Cond.fieldLinkNest RX0 22 RX3 "parts" "I" RX9 ∈ NW := NW_in (List.mem_of_getElem? (i := 288) (by decide +kernel)) rfl
theorem wn_289 : Cond.fieldLinkNest RX1 36 RX3 "parts" "I" RX9 ∈ NW := NW_in (List.mem_of_getElem? (i := 289) (by decide +kernel)) rfl
theorem wn_290 : Cond.fieldLinkNest RX2 29 RX3 "parts" "I" RX9 ∈ NW := NW_in (List.mem_of_getElem? (i := 290) (by decide +kernel)) rfl
theorem wn_291 : Cond.fieldLinkNest RX4 39 RX3 "parts" "I" RX9 ∈ NW := NW_in (List.mem_of_getElem? (i := 291) (by decide +kernel)) rfl
theorem wn_292 : Cond.fieldLinkNest RX9 155 RX3 "parts" "I" RX9 ∈ NW := NW_in (List.mem_of_getElem? (i := 292) (by decide +kernel)) rfl
theorem wn_300 : Cond.methodLinkNest RX9 82 yX7_settle RX9 ∈ NW := NW_in (List.mem_of_getElem? (i := 300) (by decide +kernel)) rfl
theorem wd_302 : Cond.instanceMethod yX7_settle ∈ TB := TB_in (List.mem_of_getElem? (i := 302) (by decide +kernel)) rfl
theorem wd_303 : Cond.code yX7_settle cX7_settle 2 none ∈ TB := TB_in (List.mem_of_getElem? (i := 303) (by decide +kernel)) rfl
theorem wn_304 : Cond.methodLinkNest RX7 22 yX9_wipe RX9 ∈ NW := NW_in (List.mem_of_getElem? (i := 304) (by decide +kernel)) rfl
theorem wd_305 : Cond.static yX9_wipe ∈ TB := TB_in (List.mem_of_getElem? (i := 305) (by decide +kernel)) rfl
theorem wd_306 : Cond.code yX9_wipe cX9_wipe 2 none ∈ TB := TB_in (List.mem_of_getElem? (i := 306) (by decide +kernel)) rfl
theorem wd_307 : Cond.fieldLink RX9 12 RX9 "town" "LSameParts$Town;" ∈ TB := TB_in (List.mem_of_getElem? (i := 307) (by decide +kernel)) rfl
theorem wd_308 : Cond.fieldLink RX9 19 RX9 "told" "LSameParts$Told;" ∈ TB := TB_in (List.mem_of_getElem? (i := 308) (by decide +kernel)) rfl
theorem wd_309 : Cond.fieldLink RX9 26 RX9 "tape" "LSameParts$Tape;" ∈ TB := TB_in (List.mem_of_getElem? (i := 309) (by decide +kernel)) rfl
theorem wd_310 : Cond.fieldLink RX9 33 RX9 "guest" "LSameParts$Newcomer;" ∈ TB := TB_in (List.mem_of_getElem? (i := 310) (by decide +kernel)) rfl
theorem wd_311 : Cond.fieldLink RX9 40 RX9 "sameness" "LSameParts$Sameness;" ∈ TB := TB_in (List.mem_of_getElem? (i := 311) (by decide +kernel)) rfl
theorem wd_312 : Cond.fieldLink RX9 47 RX9 "turns" "LSameParts$Turns;" ∈ TB := TB_in (List.mem_of_getElem? (i := 312) (by decide +kernel)) rfl
theorem wd_313 : Cond.fieldLink RX9 54 RX9 "blocks" "LSameParts$Blocks;" ∈ TB := TB_in (List.mem_of_getElem? (i := 313) (by decide +kernel)) rfl
theorem wd_314 : Cond.fieldLink RX9 61 RX9 "matching" "LSameParts$Matching;" ∈ TB := TB_in (List.mem_of_getElem? (i := 314) (by decide +kernel)) rfl
theorem wd_315 : Cond.fieldLink RX9 68 RX9 "first" "LSameParts$Parting;" ∈ TB := TB_in (List.mem_of_getElem? (i := 315) (by decide +kernel)) rfl
theorem wd_316 : Cond.fieldLink RX9 72 RX9 "second" "LSameParts$Parting;" ∈ TB := TB_in (List.mem_of_getElem? (i := 316) (by decide +kernel)) rfl
theorem wd_317 : Cond.fieldLink RX9 75 RX9 "result" "LSameParts$Parting;" ∈ TB := TB_in (List.mem_of_getElem? (i := 317) (by decide +kernel)) rfl
theorem wd_318 : Cond.fieldLink RX9 78 RX9 "refusals" "[I" ∈ TB := TB_in (List.mem_of_getElem? (i := 318) (by decide +kernel)) rfl
theorem wd_319 : Cond.fieldLink RX9 113 RX9 "now" "I" ∈ TB := TB_in (List.mem_of_getElem? (i := 319) (by decide +kernel)) rfl
theorem wd_348 : Cond.instanceMethod yX9_persons ∈ TB := TB_in (List.mem_of_getElem? (i := 348) (by decide +kernel)) rfl
theorem wd_349 : Cond.selects RX9 yX9_persons yX9_persons ∈ TB := TB_in (List.mem_of_getElem? (i := 349) (by decide +kernel)) rfl
theorem wd_350 : Cond.code yX9_persons cX9_persons 3 (some .int) ∈ TB := TB_in (List.mem_of_getElem? (i := 350) (by decide +kernel)) rfl
theorem wd_351 : Cond.methodLink RX9 86 yX9_refuse ∈ TB := TB_in (List.mem_of_getElem? (i := 351) (by decide +kernel)) rfl
theorem wd_353 : Cond.instanceMethod yX9_refuse ∈ TB := TB_in (List.mem_of_getElem? (i := 353) (by decide +kernel)) rfl
theorem wd_354 : Cond.code yX9_refuse cX9_refuse 2 (some .int) ∈ TB := TB_in (List.mem_of_getElem? (i := 354) (by decide +kernel)) rfl
theorem wd_355 : Cond.methodLink RX9 105 yX9_at ∈ TB := TB_in (List.mem_of_getElem? (i := 355) (by decide +kernel)) rfl
theorem wd_356 : Cond.static yX9_at ∈ TB := TB_in (List.mem_of_getElem? (i := 356) (by decide +kernel)) rfl
theorem wd_357 : Cond.code yX9_at cX9_at 2 (some .int) ∈ TB := TB_in (List.mem_of_getElem? (i := 357) (by decide +kernel)) rfl
theorem wd_358 : Cond.methodLink RX9 109 yX9_put ∈ TB := TB_in (List.mem_of_getElem? (i := 358) (by decide +kernel)) rfl
theorem wd_359 : Cond.static yX9_put ∈ TB := TB_in (List.mem_of_getElem? (i := 359) (by decide +kernel)) rfl
theorem wd_360 : Cond.code yX9_put cX9_put 3 none ∈ TB := TB_in (List.mem_of_getElem? (i := 360) (by decide +kernel)) rfl
theorem wn_361 : Cond.methodLinkNest RX9 94 yX6_drain RX9 ∈ NW := NW_in (List.mem_of_getElem? (i := 361) (by decide +kernel)) rfl
theorem wd_363 : Cond.instanceMethod yX6_drain ∈ TB := TB_in (List.mem_of_getElem? (i := 363) (by decide +kernel)) rfl
theorem wd_364 : Cond.code yX6_drain cX6_drain 1 none ∈ TB := TB_in (List.mem_of_getElem? (i := 364) (by decide +kernel)) rfl
theorem wd_366 : Cond.instanceMethod yX9_mark ∈ TB := TB_in (List.mem_of_getElem? (i := 366) (by decide +kernel)) rfl
theorem wd_367 : Cond.selects RX9 yX9_mark yX9_mark ∈ TB := TB_in (List.mem_of_getElem? (i := 367) (by decide +kernel)) rfl
theorem wd_368 : Cond.code yX9_mark cX9_mark 4 (some .int) ∈ TB := TB_in (List.mem_of_getElem? (i := 368) (by decide +kernel)) rfl
theorem wn_369 : Cond.methodLinkNest RX9 98 yX7_lives RX9 ∈ NW := NW_in (List.mem_of_getElem? (i := 369) (by decide +kernel)) rfl
theorem wd_371 : Cond.instanceMethod yX7_lives ∈ TB := TB_in (List.mem_of_getElem? (i := 371) (by decide +kernel)) rfl
theorem wd_372 : Cond.code yX7_lives cX7_lives 2 (some .boolean) ∈ TB := TB_in (List.mem_of_getElem? (i := 372) (by decide +kernel)) rfl
theorem wd_374 : Cond.instanceMethod yX9_year ∈ TB := TB_in (List.mem_of_getElem? (i := 374) (by decide +kernel)) rfl
theorem wd_375 : Cond.selects RX9 yX9_year yX9_year ∈ TB := TB_in (List.mem_of_getElem? (i := 375) (by decide +kernel)) rfl
theorem wd_376 : Cond.code yX9_year cX9_year 3 (some .int) ∈ TB := TB_in (List.mem_of_getElem? (i := 376) (by decide +kernel)) rfl
theorem wd_378 : Cond.instanceMethod yX9_feed ∈ TB := TB_in (List.mem_of_getElem? (i := 378) (by decide +kernel)) rfl
theorem wd_379 : Cond.selects RX9 yX9_feed yX9_feed ∈ TB := TB_in (List.mem_of_getElem? (i := 379) (by decide +kernel)) rfl
theorem wd_380 : Cond.code yX9_feed cX9_feed 5 (some .int) ∈ TB := TB_in (List.mem_of_getElem? (i := 380) (by decide +kernel)) rfl
theorem wn_381 : Cond.methodLinkNest RX9 117 yX5_append RX9 ∈ NW := NW_in (List.mem_of_getElem? (i := 381) (by decide +kernel)) rfl
theorem wd_383 : Cond.instanceMethod yX5_append ∈ TB := TB_in (List.mem_of_getElem? (i := 383) (by decide +kernel)) rfl
theorem wd_384 : Cond.code yX5_append cX5_append 2 none ∈ TB := TB_in (List.mem_of_getElem? (i := 384) (by decide +kernel)) rfl
theorem wn_385 : Cond.methodLinkNest RX5 26 yX9_put RX9 ∈ NW := NW_in (List.mem_of_getElem? (i := 385) (by decide +kernel)) rfl
theorem wd_387 : Cond.instanceMethod yX9_ties ∈ TB := TB_in (List.mem_of_getElem? (i := 387) (by decide +kernel)) rfl
theorem wd_388 : Cond.selects RX9 yX9_ties yX9_ties ∈ TB := TB_in (List.mem_of_getElem? (i := 388) (by decide +kernel)) rfl
theorem wd_389 : Cond.code yX9_ties cX9_ties 2 (some .int) ∈ TB := TB_in (List.mem_of_getElem? (i := 389) (by decide +kernel)) rfl
theorem wn_390 : Cond.methodLinkNest RX9 120 yX5_readAll RX9 ∈ NW := NW_in (List.mem_of_getElem? (i := 390) (by decide +kernel)) rfl
theorem wd_392 : Cond.instanceMethod yX5_readAll ∈ TB := TB_in (List.mem_of_getElem? (i := 392) (by decide +kernel)) rfl
theorem wd_393 : Cond.code yX5_readAll cX5_readAll 4 (some .boolean) ∈ TB := TB_in (List.mem_of_getElem? (i := 393) (by decide +kernel)) rfl
theorem wn_394 : Cond.methodLinkNest RX5 36 yX6_drain RX9 ∈ NW := NW_in (List.mem_of_getElem? (i := 394) (by decide +kernel)) rfl
theorem wd_395 : Cond.methodLink RX5 39 yX5_readTie ∈ TB := TB_in (List.mem_of_getElem? (i := 395) (by decide +kernel)) rfl
theorem wd_397 : Cond.instanceMethod yX5_readTie ∈ TB := TB_in (List.mem_of_getElem? (i := 397) (by decide +kernel)) rfl
theorem wd_398 : Cond.code yX5_readTie cX5_readTie 1 (some .boolean) ∈ TB := TB_in (List.mem_of_getElem? (i := 398) (by decide +kernel)) rfl
theorem wn_399 : Cond.methodLinkNest RX5 50 yX6_draft RX9 ∈ NW := NW_in (List.mem_of_getElem? (i := 399) (by decide +kernel)) rfl
theorem wd_401 : Cond.instanceMethod yX6_draft ∈ TB := TB_in (List.mem_of_getElem? (i := 401) (by decide +kernel)) rfl
theorem wd_402 : Cond.code yX6_draft cX6_draft 3 none ∈ TB := TB_in (List.mem_of_getElem? (i := 402) (by decide +kernel)) rfl
theorem wn_403 : Cond.methodLinkNest RX6 23 yX9_put RX9 ∈ NW := NW_in (List.mem_of_getElem? (i := 403) (by decide +kernel)) rfl
theorem wd_404 : Cond.methodLink RX5 54 yX5_readPerson ∈ TB := TB_in (List.mem_of_getElem? (i := 404) (by decide +kernel)) rfl
theorem wd_406 : Cond.instanceMethod yX5_readPerson ∈ TB := TB_in (List.mem_of_getElem? (i := 406) (by decide +kernel)) rfl
theorem wd_407 : Cond.code yX5_readPerson cX5_readPerson 2 (some .boolean) ∈ TB := TB_in (List.mem_of_getElem? (i := 407) (by decide +kernel)) rfl
theorem wd_408 : Cond.methodLink RX5 65 yX5_readInto ∈ TB := TB_in (List.mem_of_getElem? (i := 408) (by decide +kernel)) rfl
theorem wd_410 : Cond.instanceMethod yX5_readInto ∈ TB := TB_in (List.mem_of_getElem? (i := 410) (by decide +kernel)) rfl
theorem wd_411 : Cond.code yX5_readInto cX5_readInto 6 (some .boolean) ∈ TB := TB_in (List.mem_of_getElem? (i := 411) (by decide +kernel)) rfl
theorem wd_412 : Cond.methodLink RX5 57 yX5_here ∈ TB := TB_in (List.mem_of_getElem? (i := 412) (by decide +kernel)) rfl
theorem wd_414 : Cond.instanceMethod yX5_here ∈ TB := TB_in (List.mem_of_getElem? (i := 414) (by decide +kernel)) rfl
theorem wd_415 : Cond.code yX5_here cX5_here 1 (some .int) ∈ TB := TB_in (List.mem_of_getElem? (i := 415) (by decide +kernel)) rfl
theorem wn_416 : Cond.methodLinkNest RX5 84 yX9_at RX9 ∈ NW := NW_in (List.mem_of_getElem? (i := 416) (by decide +kernel)) rfl
theorem wd_417 : Cond.methodLink RX5 46 yX5_skip ∈ TB := TB_in (List.mem_of_getElem? (i := 417) (by decide +kernel)) rfl
theorem wd_419 : Cond.instanceMethod yX5_skip ∈ TB := TB_in (List.mem_of_getElem? (i := 419) (by decide +kernel)) rfl
theorem wd_420 : Cond.code yX5_skip cX5_skip 2 (some .boolean) ∈ TB := TB_in (List.mem_of_getElem? (i := 420) (by decide +kernel)) rfl
theorem wd_421 : Cond.methodLink RX5 61 yX5_drafted ∈ TB := TB_in (List.mem_of_getElem? (i := 421) (by decide +kernel)) rfl
theorem wd_423 : Cond.instanceMethod yX5_drafted ∈ TB := TB_in (List.mem_of_getElem? (i := 423) (by decide +kernel)) rfl
theorem wd_424 : Cond.code yX5_drafted cX5_drafted 2 (some .int) ∈ TB := TB_in (List.mem_of_getElem? (i := 424) (by decide +kernel)) rfl
theorem wn_425 : Cond.methodLinkNest RX5 80 yX6_field RX9 ∈ NW := NW_in (List.mem_of_getElem? (i := 425) (by decide +kernel)) rfl
theorem wd_427 : Cond.instanceMethod yX6_field ∈ TB := TB_in (List.mem_of_getElem? (i := 427) (by decide +kernel)) rfl
theorem wd_428 : Cond.code yX6_field cX6_field 3 (some .int) ∈ TB := TB_in (List.mem_of_getElem? (i := 428) (by decide +kernel)) rfl
theorem wn_429 : Cond.methodLinkNest RX6 19 yX9_at RX9 ∈ NW := NW_in (List.mem_of_getElem? (i := 429) (by decide +kernel)) rfl
theorem wd_430 : Cond.methodLink RX5 69 yX5_readStrength ∈ TB := TB_in (List.mem_of_getElem? (i := 430) (by decide +kernel)) rfl
theorem wd_432 : Cond.instanceMethod yX5_readStrength ∈ TB := TB_in (List.mem_of_getElem? (i := 432) (by decide +kernel)) rfl
theorem wd_433 : Cond.code yX5_readStrength cX5_readStrength 1 (some .boolean) ∈ TB := TB_in (List.mem_of_getElem? (i := 433) (by decide +kernel)) rfl
theorem wd_434 : Cond.methodLink RX5 72 yX5_readYears ∈ TB := TB_in (List.mem_of_getElem? (i := 434) (by decide +kernel)) rfl
theorem wd_436 : Cond.instanceMethod yX5_readYears ∈ TB := TB_in (List.mem_of_getElem? (i := 436) (by decide +kernel)) rfl
theorem wd_437 : Cond.code yX5_readYears cX5_readYears 1 (some .boolean) ∈ TB := TB_in (List.mem_of_getElem? (i := 437) (by decide +kernel)) rfl
theorem wd_438 : Cond.methodLink RX5 75 yX5_readYear ∈ TB := TB_in (List.mem_of_getElem? (i := 438) (by decide +kernel)) rfl
theorem wd_440 : Cond.instanceMethod yX5_readYear ∈ TB := TB_in (List.mem_of_getElem? (i := 440) (by decide +kernel)) rfl
theorem wd_441 : Cond.code yX5_readYear cX5_readYear 5 (some .boolean) ∈ TB := TB_in (List.mem_of_getElem? (i := 441) (by decide +kernel)) rfl
theorem wn_442 : Cond.methodLinkNest RX5 43 yX6_endDraft RX9 ∈ NW := NW_in (List.mem_of_getElem? (i := 442) (by decide +kernel)) rfl
theorem wd_444 : Cond.instanceMethod yX6_endDraft ∈ TB := TB_in (List.mem_of_getElem? (i := 444) (by decide +kernel)) rfl
theorem wd_445 : Cond.code yX6_endDraft cX6_endDraft 1 none ∈ TB := TB_in (List.mem_of_getElem? (i := 445) (by decide +kernel)) rfl
theorem wn_446 : Cond.methodLinkNest RX9 130 yX6_takeAll RX9 ∈ NW := NW_in (List.mem_of_getElem? (i := 446) (by decide +kernel)) rfl
theorem wd_448 : Cond.instanceMethod yX6_takeAll ∈ TB := TB_in (List.mem_of_getElem? (i := 448) (by decide +kernel)) rfl
theorem wd_449 : Cond.code yX6_takeAll cX6_takeAll 4 none ∈ TB := TB_in (List.mem_of_getElem? (i := 449) (by decide +kernel)) rfl
theorem wd_450 : Cond.methodLink RX6 27 yX6_field ∈ TB := TB_in (List.mem_of_getElem? (i := 450) (by decide +kernel)) rfl
theorem wd_451 : Cond.methodLink RX6 31 yX6_draft ∈ TB := TB_in (List.mem_of_getElem? (i := 451) (by decide +kernel)) rfl
theorem wd_452 : Cond.methodLink RX6 35 yX6_endDraft ∈ TB := TB_in (List.mem_of_getElem? (i := 452) (by decide +kernel)) rfl
theorem wd_454 : Cond.instanceMethod yX9_untie ∈ TB := TB_in (List.mem_of_getElem? (i := 454) (by decide +kernel)) rfl
theorem wd_455 : Cond.selects RX9 yX9_untie yX9_untie ∈ TB := TB_in (List.mem_of_getElem? (i := 455) (by decide +kernel)) rfl
theorem wd_456 : Cond.code yX9_untie cX9_untie 2 (some .int) ∈ TB := TB_in (List.mem_of_getElem? (i := 456) (by decide +kernel)) rfl
theorem wn_457 : Cond.methodLinkNest RX9 134 yX6_drop RX9 ∈ NW := NW_in (List.mem_of_getElem? (i := 457) (by decide +kernel)) rfl
theorem wd_459 : Cond.instanceMethod yX6_drop ∈ TB := TB_in (List.mem_of_getElem? (i := 459) (by decide +kernel)) rfl
theorem wd_460 : Cond.code yX6_drop cX6_drop 3 none ∈ TB := TB_in (List.mem_of_getElem? (i := 460) (by decide +kernel)) rfl
theorem wd_462 : Cond.instanceMethod yX9_tie ∈ TB := TB_in (List.mem_of_getElem? (i := 462) (by decide +kernel)) rfl
theorem wd_463 : Cond.selects RX9 yX9_tie yX9_tie ∈ TB := TB_in (List.mem_of_getElem? (i := 463) (by decide +kernel)) rfl
theorem wd_464 : Cond.code yX9_tie cX9_tie 4 (some .int) ∈ TB := TB_in (List.mem_of_getElem? (i := 464) (by decide +kernel)) rfl
theorem wd_465 : Cond.methodLink RX9 137 yX9_isKind ∈ TB := TB_in (List.mem_of_getElem? (i := 465) (by decide +kernel)) rfl
theorem wd_466 : Cond.static yX9_isKind ∈ TB := TB_in (List.mem_of_getElem? (i := 466) (by decide +kernel)) rfl
theorem wd_467 : Cond.code yX9_isKind cX9_isKind 1 (some .boolean) ∈ TB := TB_in (List.mem_of_getElem? (i := 467) (by decide +kernel)) rfl
theorem wd_468 : Cond.methodLink RX9 140 yX9_lookAt ∈ TB := TB_in (List.mem_of_getElem? (i := 468) (by decide +kernel)) rfl
theorem wd_470 : Cond.instanceMethod yX9_lookAt ∈ TB := TB_in (List.mem_of_getElem? (i := 470) (by decide +kernel)) rfl
theorem wd_471 : Cond.code yX9_lookAt cX9_lookAt 2 none ∈ TB := TB_in (List.mem_of_getElem? (i := 471) (by decide +kernel)) rfl
theorem wn_472 : Cond.methodLinkNest RX9 246 yX6_draw RX9 ∈ NW := NW_in (List.mem_of_getElem? (i := 472) (by decide +kernel)) rfl
theorem wd_474 : Cond.instanceMethod yX6_draw ∈ TB := TB_in (List.mem_of_getElem? (i := 474) (by decide +kernel)) rfl
theorem wd_475 : Cond.code yX6_draw cX6_draw 5 none ∈ TB := TB_in (List.mem_of_getElem? (i := 475) (by decide +kernel)) rfl
theorem wn_476 : Cond.methodLinkNest RX6 43 yX9_wipe RX9 ∈ NW := NW_in (List.mem_of_getElem? (i := 476) (by decide +kernel)) rfl
theorem wn_477 : Cond.methodLinkNest RX6 47 yX9_cell RX9 ∈ NW := NW_in (List.mem_of_getElem? (i := 477) (by decide +kernel)) rfl
theorem wd_478 : Cond.static yX9_cell ∈ TB := TB_in (List.mem_of_getElem? (i := 478) (by decide +kernel)) rfl
theorem wd_479 : Cond.code yX9_cell cX9_cell 3 (some .int) ∈ TB := TB_in (List.mem_of_getElem? (i := 479) (by decide +kernel)) rfl
theorem wn_480 : Cond.methodLinkNest RX9 143 yX7_strength RX9 ∈ NW := NW_in (List.mem_of_getElem? (i := 480) (by decide +kernel)) rfl
theorem wd_482 : Cond.instanceMethod yX7_strength ∈ TB := TB_in (List.mem_of_getElem? (i := 482) (by decide +kernel)) rfl
theorem wd_483 : Cond.code yX7_strength cX7_strength 5 (some .int) ∈ TB := TB_in (List.mem_of_getElem? (i := 483) (by decide +kernel)) rfl
theorem wd_485 : Cond.instanceMethod yX9_degree ∈ TB := TB_in (List.mem_of_getElem? (i := 485) (by decide +kernel)) rfl
theorem wd_486 : Cond.selects RX9 yX9_degree yX9_degree ∈ TB := TB_in (List.mem_of_getElem? (i := 486) (by decide +kernel)) rfl
theorem wd_487 : Cond.code yX9_degree cX9_degree 4 (some .int) ∈ TB := TB_in (List.mem_of_getElem? (i := 487) (by decide +kernel)) rfl
theorem wn_488 : Cond.methodLinkNest RX9 147 yX7_tiesOf RX9 ∈ NW := NW_in (List.mem_of_getElem? (i := 488) (by decide +kernel)) rfl
theorem wd_490 : Cond.instanceMethod yX7_tiesOf ∈ TB := TB_in (List.mem_of_getElem? (i := 490) (by decide +kernel)) rfl
theorem wd_491 : Cond.code yX7_tiesOf cX7_tiesOf 6 (some .int) ∈ TB := TB_in (List.mem_of_getElem? (i := 491) (by decide +kernel)) rfl
theorem wd_492 : Cond.methodLink RX7 34 yX7_tied ∈ TB := TB_in (List.mem_of_getElem? (i := 492) (by decide +kernel)) rfl
theorem wd_494 : Cond.instanceMethod yX7_tied ∈ TB := TB_in (List.mem_of_getElem? (i := 494) (by decide +kernel)) rfl
theorem wd_495 : Cond.code yX7_tied cX7_tied 4 (some .boolean) ∈ TB := TB_in (List.mem_of_getElem? (i := 495) (by decide +kernel)) rfl
theorem wd_496 : Cond.methodLink RX7 26 yX7_strength ∈ TB := TB_in (List.mem_of_getElem? (i := 496) (by decide +kernel)) rfl
theorem wd_498 : Cond.instanceMethod yX9_parting ∈ TB := TB_in (List.mem_of_getElem? (i := 498) (by decide +kernel)) rfl
theorem wd_499 : Cond.selects RX9 yX9_parting yX9_parting ∈ TB := TB_in (List.mem_of_getElem? (i := 499) (by decide +kernel)) rfl
theorem wd_500 : Cond.code yX9_parting cX9_parting 2 (some .int) ∈ TB := TB_in (List.mem_of_getElem? (i := 500) (by decide +kernel)) rfl
theorem wn_501 : Cond.methodLinkNest RX9 151 yX3_readNumber RX9 ∈ NW := NW_in (List.mem_of_getElem? (i := 501) (by decide +kernel)) rfl
theorem wd_503 : Cond.instanceMethod yX3_readNumber ∈ TB := TB_in (List.mem_of_getElem? (i := 503) (by decide +kernel)) rfl
theorem wd_504 : Cond.code yX3_readNumber cX3_readNumber 5 (some .boolean) ∈ TB := TB_in (List.mem_of_getElem? (i := 504) (by decide +kernel)) rfl
theorem wn_505 : Cond.methodLinkNest RX3 22 yX9_put RX9 ∈ NW := NW_in (List.mem_of_getElem? (i := 505) (by decide +kernel)) rfl
theorem wd_506 : Cond.methodLink RX3 26 yX3_of ∈ TB := TB_in (List.mem_of_getElem? (i := 506) (by decide +kernel)) rfl
theorem wd_508 : Cond.instanceMethod yX3_of ∈ TB := TB_in (List.mem_of_getElem? (i := 508) (by decide +kernel)) rfl
theorem wd_509 : Cond.code yX3_of cX3_of 2 (some .int) ∈ TB := TB_in (List.mem_of_getElem? (i := 509) (by decide +kernel)) rfl
theorem wn_510 : Cond.methodLinkNest RX3 36 yX9_at RX9 ∈ NW := NW_in (List.mem_of_getElem? (i := 510) (by decide +kernel)) rfl
theorem wd_511 : Cond.methodLink RX3 30 yJ9_max_7cf53 ∈ TB := TB_in (List.mem_of_getElem? (i := 511) (by decide +kernel)) rfl
theorem wd_512 : Cond.static yJ9_max_7cf53 ∈ TB := TB_in (List.mem_of_getElem? (i := 512) (by decide +kernel)) rfl
theorem wd_513 : Cond.code yJ9_max_7cf53 cJ9_max_7cf53 2 (some .int) ∈ TB := TB_in (List.mem_of_getElem? (i := 513) (by decide +kernel)) rfl
theorem wd_515 : Cond.instanceMethod yX9_judge ∈ TB := TB_in (List.mem_of_getElem? (i := 515) (by decide +kernel)) rfl
theorem wd_516 : Cond.selects RX9 yX9_judge yX9_judge ∈ TB := TB_in (List.mem_of_getElem? (i := 516) (by decide +kernel)) rfl
theorem wd_517 : Cond.code yX9_judge cX9_judge 3 (some .int) ∈ TB := TB_in (List.mem_of_getElem? (i := 517) (by decide +kernel)) rfl
theorem wd_518 : Cond.methodLink RX9 158 yX9_isSameness ∈ TB := TB_in (List.mem_of_getElem? (i := 518) (by decide +kernel)) rfl
theorem wd_519 : Cond.static yX9_isSameness ∈ TB := TB_in (List.mem_of_getElem? (i := 519) (by decide +kernel)) rfl
theorem wd_520 : Cond.code yX9_isSameness cX9_isSameness 1 (some .boolean) ∈ TB := TB_in (List.mem_of_getElem? (i := 520) (by decide +kernel)) rfl
theorem wn_521 : Cond.methodLinkNest RX9 161 yX4_firstUnlike RX9 ∈ NW := NW_in (List.mem_of_getElem? (i := 521) (by decide +kernel)) rfl
theorem wd_523 : Cond.instanceMethod yX4_firstUnlike ∈ TB := TB_in (List.mem_of_getElem? (i := 523) (by decide +kernel)) rfl
theorem wd_524 : Cond.code yX4_firstUnlike cX4_firstUnlike 6 (some .int) ∈ TB := TB_in (List.mem_of_getElem? (i := 524) (by decide +kernel)) rfl
theorem wd_525 : Cond.methodLink RX4 15 yX4_look ∈ TB := TB_in (List.mem_of_getElem? (i := 525) (by decide +kernel)) rfl
theorem wd_527 : Cond.instanceMethod yX4_look ∈ TB := TB_in (List.mem_of_getElem? (i := 527) (by decide +kernel)) rfl
theorem wd_528 : Cond.code yX4_look cX4_look 7 none ∈ TB := TB_in (List.mem_of_getElem? (i := 528) (by decide +kernel)) rfl
theorem wn_529 : Cond.methodLinkNest RX4 68 yX9_wipe RX9 ∈ NW := NW_in (List.mem_of_getElem? (i := 529) (by decide +kernel)) rfl
theorem wn_530 : Cond.methodLinkNest RX4 72 yX7_tied RX9 ∈ NW := NW_in (List.mem_of_getElem? (i := 530) (by decide +kernel)) rfl
theorem wn_531 : Cond.methodLinkNest RX4 76 yX3_of RX9 ∈ NW := NW_in (List.mem_of_getElem? (i := 531) (by decide +kernel)) rfl
theorem wd_532 : Cond.methodLink RX4 80 yX4_note ∈ TB := TB_in (List.mem_of_getElem? (i := 532) (by decide +kernel)) rfl
theorem wd_534 : Cond.instanceMethod yX4_note ∈ TB := TB_in (List.mem_of_getElem? (i := 534) (by decide +kernel)) rfl
theorem wd_535 : Cond.code yX4_note cX4_note 5 none ∈ TB := TB_in (List.mem_of_getElem? (i := 535) (by decide +kernel)) rfl
theorem wn_536 : Cond.methodLinkNest RX4 64 yX9_at RX9 ∈ NW := NW_in (List.mem_of_getElem? (i := 536) (by decide +kernel)) rfl
theorem wn_537 : Cond.methodLinkNest RX4 84 yX9_put RX9 ∈ NW := NW_in (List.mem_of_getElem? (i := 537) (by decide +kernel)) rfl
theorem wn_538 : Cond.methodLinkNest RX4 25 yX3_together RX9 ∈ NW := NW_in (List.mem_of_getElem? (i := 538) (by decide +kernel)) rfl
theorem wd_540 : Cond.instanceMethod yX3_together ∈ TB := TB_in (List.mem_of_getElem? (i := 540) (by decide +kernel)) rfl
theorem wd_541 : Cond.code yX3_together cX3_together 3 (some .boolean) ∈ TB := TB_in (List.mem_of_getElem? (i := 541) (by decide +kernel)) rfl
theorem wd_542 : Cond.methodLink RX4 31 yX4_alike ∈ TB := TB_in (List.mem_of_getElem? (i := 542) (by decide +kernel)) rfl
theorem wd_544 : Cond.instanceMethod yX4_alike ∈ TB := TB_in (List.mem_of_getElem? (i := 544) (by decide +kernel)) rfl
theorem wd_545 : Cond.code yX4_alike cX4_alike 5 (some .boolean) ∈ TB := TB_in (List.mem_of_getElem? (i := 545) (by decide +kernel)) rfl
theorem wn_546 : Cond.methodLinkNest RX4 54 yX7_sameMark RX9 ∈ NW := NW_in (List.mem_of_getElem? (i := 546) (by decide +kernel)) rfl
theorem wd_548 : Cond.instanceMethod yX7_sameMark ∈ TB := TB_in (List.mem_of_getElem? (i := 548) (by decide +kernel)) rfl
theorem wd_549 : Cond.code yX7_sameMark cX7_sameMark 3 (some .boolean) ∈ TB := TB_in (List.mem_of_getElem? (i := 549) (by decide +kernel)) rfl
theorem wn_550 : Cond.methodLinkNest RX7 30 yX9_at RX9 ∈ NW := NW_in (List.mem_of_getElem? (i := 550) (by decide +kernel)) rfl
theorem wd_551 : Cond.methodLink RX4 57 yX4_swappable ∈ TB := TB_in (List.mem_of_getElem? (i := 551) (by decide +kernel)) rfl
theorem wd_552 : Cond.static yX4_swappable ∈ TB := TB_in (List.mem_of_getElem? (i := 552) (by decide +kernel)) rfl
theorem wd_553 : Cond.code yX4_swappable cX4_swappable 7 (some .boolean) ∈ TB := TB_in (List.mem_of_getElem? (i := 553) (by decide +kernel)) rfl
theorem wn_554 : Cond.methodLinkNest RX4 88 yX7_strength RX9 ∈ NW := NW_in (List.mem_of_getElem? (i := 554) (by decide +kernel)) rfl
theorem wd_555 : Cond.methodLink RX4 92 yX4_match ∈ TB := TB_in (List.mem_of_getElem? (i := 555) (by decide +kernel)) rfl
theorem wd_556 : Cond.static yX4_match ∈ TB := TB_in (List.mem_of_getElem? (i := 556) (by decide +kernel)) rfl
theorem wd_557 : Cond.code yX4_match cX4_match 3 (some .boolean) ∈ TB := TB_in (List.mem_of_getElem? (i := 557) (by decide +kernel)) rfl
theorem wd_558 : Cond.methodLink RX4 61 yX4_sameView ∈ TB := TB_in (List.mem_of_getElem? (i := 558) (by decide +kernel)) rfl
theorem wd_560 : Cond.instanceMethod yX4_sameView ∈ TB := TB_in (List.mem_of_getElem? (i := 560) (by decide +kernel)) rfl
theorem wd_561 : Cond.code yX4_sameView cX4_sameView 4 (some .boolean) ∈ TB := TB_in (List.mem_of_getElem? (i := 561) (by decide +kernel)) rfl
theorem wd_563 : Cond.instanceMethod yX9_coarsest ∈ TB := TB_in (List.mem_of_getElem? (i := 563) (by decide +kernel)) rfl
theorem wd_564 : Cond.selects RX9 yX9_coarsest yX9_coarsest ∈ TB := TB_in (List.mem_of_getElem? (i := 564) (by decide +kernel)) rfl
theorem wd_565 : Cond.code yX9_coarsest cX9_coarsest 3 (some .int) ∈ TB := TB_in (List.mem_of_getElem? (i := 565) (by decide +kernel)) rfl
theorem wn_566 : Cond.methodLinkNest RX9 165 yX4_refine RX9 ∈ NW := NW_in (List.mem_of_getElem? (i := 566) (by decide +kernel)) rfl
theorem wd_568 : Cond.instanceMethod yX4_refine ∈ TB := TB_in (List.mem_of_getElem? (i := 568) (by decide +kernel)) rfl
theorem wd_569 : Cond.code yX4_refine cX4_refine 6 none ∈ TB := TB_in (List.mem_of_getElem? (i := 569) (by decide +kernel)) rfl
theorem wd_570 : Cond.methodLink RX4 35 yX4_split ∈ TB := TB_in (List.mem_of_getElem? (i := 570) (by decide +kernel)) rfl
theorem wd_572 : Cond.instanceMethod yX4_split ∈ TB := TB_in (List.mem_of_getElem? (i := 572) (by decide +kernel)) rfl
theorem wd_573 : Cond.code yX4_split cX4_split 8 none ∈ TB := TB_in (List.mem_of_getElem? (i := 573) (by decide +kernel)) rfl
theorem wn_574 : Cond.methodLinkNest RX4 46 yX3_begin RX9 ∈ NW := NW_in (List.mem_of_getElem? (i := 574) (by decide +kernel)) rfl
theorem wd_576 : Cond.instanceMethod yX3_begin ∈ TB := TB_in (List.mem_of_getElem? (i := 576) (by decide +kernel)) rfl
theorem wd_577 : Cond.code yX3_begin cX3_begin 2 none ∈ TB := TB_in (List.mem_of_getElem? (i := 577) (by decide +kernel)) rfl
theorem wn_578 : Cond.methodLinkNest RX4 50 yX3_place RX9 ∈ NW := NW_in (List.mem_of_getElem? (i := 578) (by decide +kernel)) rfl
theorem wd_580 : Cond.instanceMethod yX3_place ∈ TB := TB_in (List.mem_of_getElem? (i := 580) (by decide +kernel)) rfl
theorem wd_581 : Cond.code yX3_place cX3_place 3 none ∈ TB := TB_in (List.mem_of_getElem? (i := 581) (by decide +kernel)) rfl
theorem wn_582 : Cond.methodLinkNest RX4 42 yX3_copy RX9 ∈ NW := NW_in (List.mem_of_getElem? (i := 582) (by decide +kernel)) rfl
theorem wd_584 : Cond.instanceMethod yX3_copy ∈ TB := TB_in (List.mem_of_getElem? (i := 584) (by decide +kernel)) rfl
theorem wd_585 : Cond.code yX3_copy cX3_copy 3 none ∈ TB := TB_in (List.mem_of_getElem? (i := 585) (by decide +kernel)) rfl
theorem wn_586 : Cond.methodLinkNest RX9 169 yX3_number RX9 ∈ NW := NW_in (List.mem_of_getElem? (i := 586) (by decide +kernel)) rfl
theorem wd_588 : Cond.instanceMethod yX3_number ∈ TB := TB_in (List.mem_of_getElem? (i := 588) (by decide +kernel)) rfl
theorem wd_589 : Cond.code yX3_number cX3_number 3 (some .int) ∈ TB := TB_in (List.mem_of_getElem? (i := 589) (by decide +kernel)) rfl
theorem wd_591 : Cond.instanceMethod yX9_renamings ∈ TB := TB_in (List.mem_of_getElem? (i := 591) (by decide +kernel)) rfl
theorem wd_592 : Cond.selects RX9 yX9_renamings yX9_renamings ∈ TB := TB_in (List.mem_of_getElem? (i := 592) (by decide +kernel)) rfl
theorem wd_593 : Cond.code yX9_renamings cX9_renamings 1 (some .int) ∈ TB := TB_in (List.mem_of_getElem? (i := 593) (by decide +kernel)) rfl
theorem wn_594 : Cond.methodLinkNest RX9 173 yX8_howMany RX9 ∈ NW := NW_in (List.mem_of_getElem? (i := 594) (by decide +kernel)) rfl
theorem wd_596 : Cond.instanceMethod yX8_howMany ∈ TB := TB_in (List.mem_of_getElem? (i := 596) (by decide +kernel)) rfl
theorem wd_597 : Cond.code yX8_howMany cX8_howMany 6 (some .int) ∈ TB := TB_in (List.mem_of_getElem? (i := 597) (by decide +kernel)) rfl
theorem wd_598 : Cond.methodLink RX8 27 yX8_brings ∈ TB := TB_in (List.mem_of_getElem? (i := 598) (by decide +kernel)) rfl
theorem wd_600 : Cond.instanceMethod yX8_brings ∈ TB := TB_in (List.mem_of_getElem? (i := 600) (by decide +kernel)) rfl
theorem wd_601 : Cond.code yX8_brings cX8_brings 6 (some .boolean) ∈ TB := TB_in (List.mem_of_getElem? (i := 601) (by decide +kernel)) rfl
theorem wn_602 : Cond.methodLinkNest RX8 41 yX7_sameMark RX9 ∈ NW := NW_in (List.mem_of_getElem? (i := 602) (by decide +kernel)) rfl
theorem wd_603 : Cond.methodLink RX8 45 yX8_begin ∈ TB := TB_in (List.mem_of_getElem? (i := 603) (by decide +kernel)) rfl
theorem wd_605 : Cond.instanceMethod yX8_begin ∈ TB := TB_in (List.mem_of_getElem? (i := 605) (by decide +kernel)) rfl
theorem wd_606 : Cond.code yX8_begin cX8_begin 1 none ∈ TB := TB_in (List.mem_of_getElem? (i := 606) (by decide +kernel)) rfl
theorem wn_607 : Cond.methodLinkNest RX8 61 yX9_put RX9 ∈ NW := NW_in (List.mem_of_getElem? (i := 607) (by decide +kernel)) rfl
theorem wd_608 : Cond.constant RX8 47 (1000000) ∈ TB := TB_in (List.mem_of_getElem? (i := 608) (by decide +kernel)) rfl
theorem wd_609 : Cond.methodLink RX8 51 yX8_nextKeeping ∈ TB := TB_in (List.mem_of_getElem? (i := 609) (by decide +kernel)) rfl
theorem wd_611 : Cond.instanceMethod yX8_nextKeeping ∈ TB := TB_in (List.mem_of_getElem? (i := 611) (by decide +kernel)) rfl
theorem wd_612 : Cond.code yX8_nextKeeping cX8_nextKeeping 7 (some .int) ∈ TB := TB_in (List.mem_of_getElem? (i := 612) (by decide +kernel)) rfl
theorem wd_613 : Cond.methodLink RX8 69 yX8_lift ∈ TB := TB_in (List.mem_of_getElem? (i := 613) (by decide +kernel)) rfl
theorem wd_615 : Cond.instanceMethod yX8_lift ∈ TB := TB_in (List.mem_of_getElem? (i := 615) (by decide +kernel)) rfl
theorem wd_616 : Cond.code yX8_lift cX8_lift 2 (some .int) ∈ TB := TB_in (List.mem_of_getElem? (i := 616) (by decide +kernel)) rfl
theorem wn_617 : Cond.methodLinkNest RX8 65 yX9_at RX9 ∈ NW := NW_in (List.mem_of_getElem? (i := 617) (by decide +kernel)) rfl
theorem wn_618 : Cond.methodLinkNest RX8 73 yX9_holds RX9 ∈ NW := NW_in (List.mem_of_getElem? (i := 618) (by decide +kernel)) rfl
theorem wd_619 : Cond.static yX9_holds ∈ TB := TB_in (List.mem_of_getElem? (i := 619) (by decide +kernel)) rfl
theorem wd_620 : Cond.code yX9_holds cX9_holds 2 (some .boolean) ∈ TB := TB_in (List.mem_of_getElem? (i := 620) (by decide +kernel)) rfl
theorem wd_621 : Cond.methodLink RX8 76 yX8_keepsAhead ∈ TB := TB_in (List.mem_of_getElem? (i := 621) (by decide +kernel)) rfl
theorem wd_623 : Cond.instanceMethod yX8_keepsAhead ∈ TB := TB_in (List.mem_of_getElem? (i := 623) (by decide +kernel)) rfl
theorem wd_624 : Cond.code yX8_keepsAhead cX8_keepsAhead 4 (some .boolean) ∈ TB := TB_in (List.mem_of_getElem? (i := 624) (by decide +kernel)) rfl
theorem wd_625 : Cond.methodLink RX8 80 yX8_keeps ∈ TB := TB_in (List.mem_of_getElem? (i := 625) (by decide +kernel)) rfl
theorem wd_626 : Cond.static yX8_keeps ∈ TB := TB_in (List.mem_of_getElem? (i := 626) (by decide +kernel)) rfl
theorem wd_627 : Cond.code yX8_keeps cX8_keeps 6 (some .boolean) ∈ TB := TB_in (List.mem_of_getElem? (i := 627) (by decide +kernel)) rfl
theorem wn_628 : Cond.methodLinkNest RX8 84 yX7_strength RX9 ∈ NW := NW_in (List.mem_of_getElem? (i := 628) (by decide +kernel)) rfl
theorem wd_629 : Cond.methodLink RX8 55 yX8_step ∈ TB := TB_in (List.mem_of_getElem? (i := 629) (by decide +kernel)) rfl
theorem wd_631 : Cond.instanceMethod yX8_step ∈ TB := TB_in (List.mem_of_getElem? (i := 631) (by decide +kernel)) rfl
theorem wd_632 : Cond.code yX8_step cX8_step 2 none ∈ TB := TB_in (List.mem_of_getElem? (i := 632) (by decide +kernel)) rfl
theorem wd_634 : Cond.instanceMethod yX9_moves ∈ TB := TB_in (List.mem_of_getElem? (i := 634) (by decide +kernel)) rfl
theorem wd_635 : Cond.selects RX9 yX9_moves yX9_moves ∈ TB := TB_in (List.mem_of_getElem? (i := 635) (by decide +kernel)) rfl
theorem wd_636 : Cond.code yX9_moves cX9_moves 3 (some .int) ∈ TB := TB_in (List.mem_of_getElem? (i := 636) (by decide +kernel)) rfl
theorem wn_637 : Cond.methodLinkNest RX9 177 yX8_brings RX9 ∈ NW := NW_in (List.mem_of_getElem? (i := 637) (by decide +kernel)) rfl
theorem wd_639 : Cond.instanceMethod yX9_orbits ∈ TB := TB_in (List.mem_of_getElem? (i := 639) (by decide +kernel)) rfl
theorem wd_640 : Cond.selects RX9 yX9_orbits yX9_orbits ∈ TB := TB_in (List.mem_of_getElem? (i := 640) (by decide +kernel)) rfl
theorem wd_641 : Cond.code yX9_orbits cX9_orbits 1 (some .int) ∈ TB := TB_in (List.mem_of_getElem? (i := 641) (by decide +kernel)) rfl
theorem wn_642 : Cond.methodLinkNest RX9 181 yX8_partByOrbit RX9 ∈ NW := NW_in (List.mem_of_getElem? (i := 642) (by decide +kernel)) rfl
theorem wd_644 : Cond.instanceMethod yX8_partByOrbit ∈ TB := TB_in (List.mem_of_getElem? (i := 644) (by decide +kernel)) rfl
theorem wd_645 : Cond.code yX8_partByOrbit cX8_partByOrbit 6 none ∈ TB := TB_in (List.mem_of_getElem? (i := 645) (by decide +kernel)) rfl
theorem wn_646 : Cond.methodLinkNest RX8 31 yX3_begin RX9 ∈ NW := NW_in (List.mem_of_getElem? (i := 646) (by decide +kernel)) rfl
theorem wn_647 : Cond.methodLinkNest RX8 37 yX3_place RX9 ∈ NW := NW_in (List.mem_of_getElem? (i := 647) (by decide +kernel)) rfl
theorem wd_649 : Cond.instanceMethod yX9_form ∈ TB := TB_in (List.mem_of_getElem? (i := 649) (by decide +kernel)) rfl
theorem wd_650 : Cond.selects RX9 yX9_form yX9_form ∈ TB := TB_in (List.mem_of_getElem? (i := 650) (by decide +kernel)) rfl
theorem wd_651 : Cond.code yX9_form cX9_form 1 (some .int) ∈ TB := TB_in (List.mem_of_getElem? (i := 651) (by decide +kernel)) rfl
theorem wn_652 : Cond.methodLinkNest RX9 185 yX8_leastRow RX9 ∈ NW := NW_in (List.mem_of_getElem? (i := 652) (by decide +kernel)) rfl
theorem wd_654 : Cond.instanceMethod yX8_leastRow ∈ TB := TB_in (List.mem_of_getElem? (i := 654) (by decide +kernel)) rfl
theorem wd_655 : Cond.code yX8_leastRow cX8_leastRow 5 (some .int) ∈ TB := TB_in (List.mem_of_getElem? (i := 655) (by decide +kernel)) rfl
theorem wd_656 : Cond.methodLink RX8 88 yX8_findTwins ∈ TB := TB_in (List.mem_of_getElem? (i := 656) (by decide +kernel)) rfl
theorem wd_658 : Cond.instanceMethod yX8_findTwins ∈ TB := TB_in (List.mem_of_getElem? (i := 658) (by decide +kernel)) rfl
theorem wd_659 : Cond.code yX8_findTwins cX8_findTwins 5 none ∈ TB := TB_in (List.mem_of_getElem? (i := 659) (by decide +kernel)) rfl
theorem wn_660 : Cond.methodLinkNest RX8 109 yX4_swappable RX9 ∈ NW := NW_in (List.mem_of_getElem? (i := 660) (by decide +kernel)) rfl
theorem wd_661 : Cond.methodLink RX8 92 yX8_firstKind ∈ TB := TB_in (List.mem_of_getElem? (i := 661) (by decide +kernel)) rfl
theorem wd_662 : Cond.static yX8_firstKind ∈ TB := TB_in (List.mem_of_getElem? (i := 662) (by decide +kernel)) rfl
theorem wd_663 : Cond.code yX8_firstKind cX8_firstKind 2 (some .int) ∈ TB := TB_in (List.mem_of_getElem? (i := 663) (by decide +kernel)) rfl
theorem wn_664 : Cond.methodLinkNest RX8 115 yX7_tiesOfKind RX9 ∈ NW := NW_in (List.mem_of_getElem? (i := 664) (by decide +kernel)) rfl
theorem wd_666 : Cond.instanceMethod yX7_tiesOfKind ∈ TB := TB_in (List.mem_of_getElem? (i := 666) (by decide +kernel)) rfl
theorem wd_667 : Cond.code yX7_tiesOfKind cX7_tiesOfKind 4 (some .int) ∈ TB := TB_in (List.mem_of_getElem? (i := 667) (by decide +kernel)) rfl
theorem wd_668 : Cond.methodLink RX7 38 yX7_tiesOf ∈ TB := TB_in (List.mem_of_getElem? (i := 668) (by decide +kernel)) rfl
theorem wd_669 : Cond.methodLink RX8 96 yX8_nextInRow ∈ TB := TB_in (List.mem_of_getElem? (i := 669) (by decide +kernel)) rfl
theorem wd_671 : Cond.instanceMethod yX8_nextInRow ∈ TB := TB_in (List.mem_of_getElem? (i := 671) (by decide +kernel)) rfl
theorem wd_672 : Cond.code yX8_nextInRow cX8_nextInRow 6 (some .int) ∈ TB := TB_in (List.mem_of_getElem? (i := 672) (by decide +kernel)) rfl
theorem wd_673 : Cond.methodLink RX8 119 yX8_hasLeastMark ∈ TB := TB_in (List.mem_of_getElem? (i := 673) (by decide +kernel)) rfl
theorem wd_675 : Cond.instanceMethod yX8_hasLeastMark ∈ TB := TB_in (List.mem_of_getElem? (i := 675) (by decide +kernel)) rfl
theorem wd_676 : Cond.code yX8_hasLeastMark cX8_hasLeastMark 4 (some .boolean) ∈ TB := TB_in (List.mem_of_getElem? (i := 676) (by decide +kernel)) rfl
theorem wd_677 : Cond.methodLink RX8 122 yX8_behindBest ∈ TB := TB_in (List.mem_of_getElem? (i := 677) (by decide +kernel)) rfl
theorem wd_679 : Cond.instanceMethod yX8_behindBest ∈ TB := TB_in (List.mem_of_getElem? (i := 679) (by decide +kernel)) rfl
theorem wd_680 : Cond.code yX8_behindBest cX8_behindBest 7 (some .boolean) ∈ TB := TB_in (List.mem_of_getElem? (i := 680) (by decide +kernel)) rfl
theorem wd_681 : Cond.methodLink RX8 100 yX8_lessThanBest ∈ TB := TB_in (List.mem_of_getElem? (i := 681) (by decide +kernel)) rfl
theorem wd_683 : Cond.instanceMethod yX8_lessThanBest ∈ TB := TB_in (List.mem_of_getElem? (i := 683) (by decide +kernel)) rfl
theorem wd_684 : Cond.code yX8_lessThanBest cX8_lessThanBest 8 (some .boolean) ∈ TB := TB_in (List.mem_of_getElem? (i := 684) (by decide +kernel)) rfl
theorem wd_685 : Cond.methodLink RX8 103 yX8_keepBest ∈ TB := TB_in (List.mem_of_getElem? (i := 685) (by decide +kernel)) rfl
theorem wd_687 : Cond.instanceMethod yX8_keepBest ∈ TB := TB_in (List.mem_of_getElem? (i := 687) (by decide +kernel)) rfl
theorem wd_688 : Cond.code yX8_keepBest cX8_keepBest 3 none ∈ TB := TB_in (List.mem_of_getElem? (i := 688) (by decide +kernel)) rfl
theorem wd_689 : Cond.methodLink RX8 106 yX8_bestAsNumber ∈ TB := TB_in (List.mem_of_getElem? (i := 689) (by decide +kernel)) rfl
theorem wd_691 : Cond.instanceMethod yX8_bestAsNumber ∈ TB := TB_in (List.mem_of_getElem? (i := 691) (by decide +kernel)) rfl
theorem wd_692 : Cond.code yX8_bestAsNumber cX8_bestAsNumber 7 (some .int) ∈ TB := TB_in (List.mem_of_getElem? (i := 692) (by decide +kernel)) rfl
theorem wd_693 : Cond.methodLink RX8 129 yX8_behind ∈ TB := TB_in (List.mem_of_getElem? (i := 693) (by decide +kernel)) rfl
theorem wd_694 : Cond.static yX8_behind ∈ TB := TB_in (List.mem_of_getElem? (i := 694) (by decide +kernel)) rfl
theorem wd_695 : Cond.code yX8_behind cX8_behind 3 (some .long) ∈ TB := TB_in (List.mem_of_getElem? (i := 695) (by decide +kernel)) rfl
theorem wd_696 : Cond.constantLong RX8 133 (10) ∈ TB := TB_in (List.mem_of_getElem? (i := 696) (by decide +kernel)) rfl
theorem wd_697 : Cond.constantLong RX8 135 (1000000007) ∈ TB := TB_in (List.mem_of_getElem? (i := 697) (by decide +kernel)) rfl
theorem wd_699 : Cond.instanceMethod yX9_next ∈ TB := TB_in (List.mem_of_getElem? (i := 699) (by decide +kernel)) rfl
theorem wd_700 : Cond.selects RX9 yX9_next yX9_next ∈ TB := TB_in (List.mem_of_getElem? (i := 700) (by decide +kernel)) rfl
theorem wd_701 : Cond.code yX9_next cX9_next 6 (some .int) ∈ TB := TB_in (List.mem_of_getElem? (i := 701) (by decide +kernel)) rfl
theorem wn_702 : Cond.methodLinkNest RX9 188 yX3_allInOne RX9 ∈ NW := NW_in (List.mem_of_getElem? (i := 702) (by decide +kernel)) rfl
theorem wd_704 : Cond.instanceMethod yX3_allInOne ∈ TB := TB_in (List.mem_of_getElem? (i := 704) (by decide +kernel)) rfl
theorem wd_705 : Cond.code yX3_allInOne cX3_allInOne 2 none ∈ TB := TB_in (List.mem_of_getElem? (i := 705) (by decide +kernel)) rfl
theorem wn_706 : Cond.methodLinkNest RX3 40 yX9_wipe RX9 ∈ NW := NW_in (List.mem_of_getElem? (i := 706) (by decide +kernel)) rfl
theorem wn_707 : Cond.methodLinkNest RX9 191 yX3_forward RX9 ∈ NW := NW_in (List.mem_of_getElem? (i := 707) (by decide +kernel)) rfl
theorem wd_709 : Cond.instanceMethod yX3_forward ∈ TB := TB_in (List.mem_of_getElem? (i := 709) (by decide +kernel)) rfl
theorem wd_710 : Cond.code yX3_forward cX3_forward 3 (some .boolean) ∈ TB := TB_in (List.mem_of_getElem? (i := 710) (by decide +kernel)) rfl
theorem wd_711 : Cond.methodLink RX3 44 yX3_topAhead ∈ TB := TB_in (List.mem_of_getElem? (i := 711) (by decide +kernel)) rfl
theorem wd_713 : Cond.instanceMethod yX3_topAhead ∈ TB := TB_in (List.mem_of_getElem? (i := 713) (by decide +kernel)) rfl
theorem wd_714 : Cond.code yX3_topAhead cX3_topAhead 4 (some .int) ∈ TB := TB_in (List.mem_of_getElem? (i := 714) (by decide +kernel)) rfl
theorem wn_715 : Cond.methodLinkNest RX3 47 yX9_addTo RX9 ∈ NW := NW_in (List.mem_of_getElem? (i := 715) (by decide +kernel)) rfl
theorem wd_716 : Cond.static yX9_addTo ∈ TB := TB_in (List.mem_of_getElem? (i := 716) (by decide +kernel)) rfl
theorem wd_717 : Cond.code yX9_addTo cX9_addTo 3 none ∈ TB := TB_in (List.mem_of_getElem? (i := 717) (by decide +kernel)) rfl
theorem wd_719 : Cond.instanceMethod yX9_all ∈ TB := TB_in (List.mem_of_getElem? (i := 719) (by decide +kernel)) rfl
theorem wd_720 : Cond.selects RX9 yX9_all yX9_all ∈ TB := TB_in (List.mem_of_getElem? (i := 720) (by decide +kernel)) rfl
theorem wd_721 : Cond.code yX9_all cX9_all 5 (some .int) ∈ TB := TB_in (List.mem_of_getElem? (i := 721) (by decide +kernel)) rfl
theorem wd_723 : Cond.instanceMethod yX9_join ∈ TB := TB_in (List.mem_of_getElem? (i := 723) (by decide +kernel)) rfl
theorem wd_724 : Cond.selects RX9 yX9_join yX9_join ∈ TB := TB_in (List.mem_of_getElem? (i := 724) (by decide +kernel)) rfl
theorem wd_725 : Cond.code yX9_join cX9_join 3 (some .int) ∈ TB := TB_in (List.mem_of_getElem? (i := 725) (by decide +kernel)) rfl
theorem wn_726 : Cond.methodLinkNest RX9 195 yX3_mergeBy RX9 ∈ NW := NW_in (List.mem_of_getElem? (i := 726) (by decide +kernel)) rfl
theorem wd_728 : Cond.instanceMethod yX3_mergeBy ∈ TB := TB_in (List.mem_of_getElem? (i := 728) (by decide +kernel)) rfl
theorem wd_729 : Cond.code yX3_mergeBy cX3_mergeBy 4 none ∈ TB := TB_in (List.mem_of_getElem? (i := 729) (by decide +kernel)) rfl
theorem wd_730 : Cond.methodLink RX3 50 yX3_together ∈ TB := TB_in (List.mem_of_getElem? (i := 730) (by decide +kernel)) rfl
theorem wd_731 : Cond.methodLink RX3 54 yX3_rename ∈ TB := TB_in (List.mem_of_getElem? (i := 731) (by decide +kernel)) rfl
theorem wd_733 : Cond.instanceMethod yX3_rename ∈ TB := TB_in (List.mem_of_getElem? (i := 733) (by decide +kernel)) rfl
theorem wd_734 : Cond.code yX3_rename cX3_rename 4 none ∈ TB := TB_in (List.mem_of_getElem? (i := 734) (by decide +kernel)) rfl
theorem wn_735 : Cond.methodLinkNest RX9 199 yX3_copyRenumbered RX9 ∈ NW := NW_in (List.mem_of_getElem? (i := 735) (by decide +kernel)) rfl
theorem wd_737 : Cond.instanceMethod yX3_copyRenumbered ∈ TB := TB_in (List.mem_of_getElem? (i := 737) (by decide +kernel)) rfl
theorem wd_738 : Cond.code yX3_copyRenumbered cX3_copyRenumbered 2 none ∈ TB := TB_in (List.mem_of_getElem? (i := 738) (by decide +kernel)) rfl
theorem wd_739 : Cond.methodLink RX3 58 yX3_cross ∈ TB := TB_in (List.mem_of_getElem? (i := 739) (by decide +kernel)) rfl
theorem wd_741 : Cond.instanceMethod yX3_cross ∈ TB := TB_in (List.mem_of_getElem? (i := 741) (by decide +kernel)) rfl
theorem wd_742 : Cond.code yX3_cross cX3_cross 6 none ∈ TB := TB_in (List.mem_of_getElem? (i := 742) (by decide +kernel)) rfl
theorem wd_743 : Cond.methodLink RX3 62 yX3_begin ∈ TB := TB_in (List.mem_of_getElem? (i := 743) (by decide +kernel)) rfl
theorem wd_744 : Cond.methodLink RX3 66 yX3_place ∈ TB := TB_in (List.mem_of_getElem? (i := 744) (by decide +kernel)) rfl
theorem wd_746 : Cond.instanceMethod yX9_meet ∈ TB := TB_in (List.mem_of_getElem? (i := 746) (by decide +kernel)) rfl
theorem wd_747 : Cond.selects RX9 yX9_meet yX9_meet ∈ TB := TB_in (List.mem_of_getElem? (i := 747) (by decide +kernel)) rfl
theorem wd_748 : Cond.code yX9_meet cX9_meet 3 (some .int) ∈ TB := TB_in (List.mem_of_getElem? (i := 748) (by decide +kernel)) rfl
theorem wn_749 : Cond.methodLinkNest RX9 202 yX3_cross RX9 ∈ NW := NW_in (List.mem_of_getElem? (i := 749) (by decide +kernel)) rfl
theorem wd_751 : Cond.instanceMethod yX9_picture ∈ TB := TB_in (List.mem_of_getElem? (i := 751) (by decide +kernel)) rfl
theorem wd_752 : Cond.selects RX9 yX9_picture yX9_picture ∈ TB := TB_in (List.mem_of_getElem? (i := 752) (by decide +kernel)) rfl
theorem wd_753 : Cond.code yX9_picture cX9_picture 5 (some .int) ∈ TB := TB_in (List.mem_of_getElem? (i := 753) (by decide +kernel)) rfl
theorem wn_754 : Cond.methodLinkNest RX9 206 yX3_has RX9 ∈ NW := NW_in (List.mem_of_getElem? (i := 754) (by decide +kernel)) rfl
theorem wd_756 : Cond.instanceMethod yX3_has ∈ TB := TB_in (List.mem_of_getElem? (i := 756) (by decide +kernel)) rfl
theorem wd_757 : Cond.code yX3_has cX3_has 2 (some .boolean) ∈ TB := TB_in (List.mem_of_getElem? (i := 757) (by decide +kernel)) rfl
theorem wn_758 : Cond.methodLinkNest RX9 209 yX0_image RX9 ∈ NW := NW_in (List.mem_of_getElem? (i := 758) (by decide +kernel)) rfl
theorem wd_760 : Cond.instanceMethod yX0_image ∈ TB := TB_in (List.mem_of_getElem? (i := 760) (by decide +kernel)) rfl
theorem wd_761 : Cond.code yX0_image cX0_image 11 (some .int) ∈ TB := TB_in (List.mem_of_getElem? (i := 761) (by decide +kernel)) rfl
theorem wn_762 : Cond.methodLinkNest RX0 87 yX3_sizeOf RX9 ∈ NW := NW_in (List.mem_of_getElem? (i := 762) (by decide +kernel)) rfl
theorem wd_764 : Cond.instanceMethod yX3_sizeOf ∈ TB := TB_in (List.mem_of_getElem? (i := 764) (by decide +kernel)) rfl
theorem wd_765 : Cond.code yX3_sizeOf cX3_sizeOf 4 (some .int) ∈ TB := TB_in (List.mem_of_getElem? (i := 765) (by decide +kernel)) rfl
theorem wn_766 : Cond.methodLinkNest RX0 41 yX3_of RX9 ∈ NW := NW_in (List.mem_of_getElem? (i := 766) (by decide +kernel)) rfl
theorem wd_767 : Cond.methodLink RX0 90 yX0_tiesTo ∈ TB := TB_in (List.mem_of_getElem? (i := 767) (by decide +kernel)) rfl
theorem wd_769 : Cond.instanceMethod yX0_tiesTo ∈ TB := TB_in (List.mem_of_getElem? (i := 769) (by decide +kernel)) rfl
theorem wd_770 : Cond.code yX0_tiesTo cX0_tiesTo 8 (some .int) ∈ TB := TB_in (List.mem_of_getElem? (i := 770) (by decide +kernel)) rfl
theorem wn_771 : Cond.methodLinkNest RX0 49 yX7_tied RX9 ∈ NW := NW_in (List.mem_of_getElem? (i := 771) (by decide +kernel)) rfl
theorem wd_772 : Cond.methodLink RX0 61 yJ9_min_7cf53 ∈ TB := TB_in (List.mem_of_getElem? (i := 772) (by decide +kernel)) rfl
theorem wd_773 : Cond.static yJ9_min_7cf53 ∈ TB := TB_in (List.mem_of_getElem? (i := 773) (by decide +kernel)) rfl
theorem wd_774 : Cond.code yJ9_min_7cf53 cJ9_min_7cf53 2 (some .int) ∈ TB := TB_in (List.mem_of_getElem? (i := 774) (by decide +kernel)) rfl
theorem wd_775 : Cond.methodLink RX0 93 yJ9_max_7cf53 ∈ TB := TB_in (List.mem_of_getElem? (i := 775) (by decide +kernel)) rfl
theorem wd_777 : Cond.instanceMethod yX9_wrong ∈ TB := TB_in (List.mem_of_getElem? (i := 777) (by decide +kernel)) rfl
theorem wd_778 : Cond.selects RX9 yX9_wrong yX9_wrong ∈ TB := TB_in (List.mem_of_getElem? (i := 778) (by decide +kernel)) rfl
theorem wd_779 : Cond.code yX9_wrong cX9_wrong 2 (some .int) ∈ TB := TB_in (List.mem_of_getElem? (i := 779) (by decide +kernel)) rfl
theorem wn_780 : Cond.methodLinkNest RX9 213 yX0_misfits RX9 ∈ NW := NW_in (List.mem_of_getElem? (i := 780) (by decide +kernel)) rfl
theorem wd_782 : Cond.instanceMethod yX0_misfits ∈ TB := TB_in (List.mem_of_getElem? (i := 782) (by decide +kernel)) rfl
theorem wd_783 : Cond.code yX0_misfits cX0_misfits 7 (some .int) ∈ TB := TB_in (List.mem_of_getElem? (i := 783) (by decide +kernel)) rfl
theorem wd_784 : Cond.methodLink RX0 18 yX0_tallyTies ∈ TB := TB_in (List.mem_of_getElem? (i := 784) (by decide +kernel)) rfl
theorem wd_786 : Cond.instanceMethod yX0_tallyTies ∈ TB := TB_in (List.mem_of_getElem? (i := 786) (by decide +kernel)) rfl
theorem wd_787 : Cond.code yX0_tallyTies cX0_tallyTies 6 none ∈ TB := TB_in (List.mem_of_getElem? (i := 787) (by decide +kernel)) rfl
theorem wn_788 : Cond.methodLinkNest RX0 32 yX9_wipe RX9 ∈ NW := NW_in (List.mem_of_getElem? (i := 788) (by decide +kernel)) rfl
theorem wn_789 : Cond.methodLinkNest RX0 45 yX9_addTo RX9 ∈ NW := NW_in (List.mem_of_getElem? (i := 789) (by decide +kernel)) rfl
theorem wn_790 : Cond.methodLinkNest RX0 53 yX9_cell RX9 ∈ NW := NW_in (List.mem_of_getElem? (i := 790) (by decide +kernel)) rfl
theorem wd_791 : Cond.methodLink RX0 28 yX0_misfit ∈ TB := TB_in (List.mem_of_getElem? (i := 791) (by decide +kernel)) rfl
theorem wd_793 : Cond.instanceMethod yX0_misfit ∈ TB := TB_in (List.mem_of_getElem? (i := 793) (by decide +kernel)) rfl
theorem wd_794 : Cond.code yX0_misfit cX0_misfit 7 (some .int) ∈ TB := TB_in (List.mem_of_getElem? (i := 794) (by decide +kernel)) rfl
theorem wn_795 : Cond.methodLinkNest RX0 57 yX9_at RX9 ∈ NW := NW_in (List.mem_of_getElem? (i := 795) (by decide +kernel)) rfl
theorem wd_797 : Cond.instanceMethod yX9_least ∈ TB := TB_in (List.mem_of_getElem? (i := 797) (by decide +kernel)) rfl
theorem wd_798 : Cond.selects RX9 yX9_least yX9_least ∈ TB := TB_in (List.mem_of_getElem? (i := 798) (by decide +kernel)) rfl
theorem wd_799 : Cond.code yX9_least cX9_least 3 (some .int) ∈ TB := TB_in (List.mem_of_getElem? (i := 799) (by decide +kernel)) rfl
theorem wn_800 : Cond.methodLinkNest RX9 217 yX0_bestWith RX9 ∈ NW := NW_in (List.mem_of_getElem? (i := 800) (by decide +kernel)) rfl
theorem wd_802 : Cond.instanceMethod yX0_bestWith ∈ TB := TB_in (List.mem_of_getElem? (i := 802) (by decide +kernel)) rfl
theorem wd_803 : Cond.code yX0_bestWith cX0_bestWith 11 (some .int) ∈ TB := TB_in (List.mem_of_getElem? (i := 803) (by decide +kernel)) rfl
theorem wn_804 : Cond.methodLinkNest RX0 67 yX3_allInOne RX9 ∈ NW := NW_in (List.mem_of_getElem? (i := 804) (by decide +kernel)) rfl
theorem wd_805 : Cond.methodLink RX0 71 yX0_misfits ∈ TB := TB_in (List.mem_of_getElem? (i := 805) (by decide +kernel)) rfl
theorem wn_806 : Cond.methodLinkNest RX0 75 yX3_number RX9 ∈ NW := NW_in (List.mem_of_getElem? (i := 806) (by decide +kernel)) rfl
theorem wn_807 : Cond.methodLinkNest RX0 79 yX3_forward RX9 ∈ NW := NW_in (List.mem_of_getElem? (i := 807) (by decide +kernel)) rfl
theorem wd_809 : Cond.instanceMethod yX9_spoils ∈ TB := TB_in (List.mem_of_getElem? (i := 809) (by decide +kernel)) rfl
theorem wd_810 : Cond.selects RX9 yX9_spoils yX9_spoils ∈ TB := TB_in (List.mem_of_getElem? (i := 810) (by decide +kernel)) rfl
theorem wd_811 : Cond.code yX9_spoils cX9_spoils 3 (some .int) ∈ TB := TB_in (List.mem_of_getElem? (i := 811) (by decide +kernel)) rfl
theorem wd_812 : Cond.constant RX9 221 (1000000000) ∈ TB := TB_in (List.mem_of_getElem? (i := 812) (by decide +kernel)) rfl
theorem wn_813 : Cond.methodLinkNest RX9 222 yX0_worstTie RX9 ∈ NW := NW_in (List.mem_of_getElem? (i := 813) (by decide +kernel)) rfl
theorem wd_815 : Cond.instanceMethod yX0_worstTie ∈ TB := TB_in (List.mem_of_getElem? (i := 815) (by decide +kernel)) rfl
theorem wd_816 : Cond.code yX0_worstTie cX0_worstTie 10 (some .int) ∈ TB := TB_in (List.mem_of_getElem? (i := 816) (by decide +kernel)) rfl
theorem wd_817 : Cond.methodLink RX0 83 yX0_gainOf ∈ TB := TB_in (List.mem_of_getElem? (i := 817) (by decide +kernel)) rfl
theorem wd_819 : Cond.instanceMethod yX0_gainOf ∈ TB := TB_in (List.mem_of_getElem? (i := 819) (by decide +kernel)) rfl
theorem wd_820 : Cond.code yX0_gainOf cX0_gainOf 8 (some .int) ∈ TB := TB_in (List.mem_of_getElem? (i := 820) (by decide +kernel)) rfl
theorem wd_822 : Cond.instanceMethod yX9_newcomer ∈ TB := TB_in (List.mem_of_getElem? (i := 822) (by decide +kernel)) rfl
theorem wd_823 : Cond.selects RX9 yX9_newcomer yX9_newcomer ∈ TB := TB_in (List.mem_of_getElem? (i := 823) (by decide +kernel)) rfl
theorem wd_824 : Cond.code yX9_newcomer cX9_newcomer 4 (some .int) ∈ TB := TB_in (List.mem_of_getElem? (i := 824) (by decide +kernel)) rfl
theorem wn_825 : Cond.methodLinkNest RX9 226 yX2_append RX9 ∈ NW := NW_in (List.mem_of_getElem? (i := 825) (by decide +kernel)) rfl
theorem wd_827 : Cond.instanceMethod yX2_append ∈ TB := TB_in (List.mem_of_getElem? (i := 827) (by decide +kernel)) rfl
theorem wd_828 : Cond.code yX2_append cX2_append 4 none ∈ TB := TB_in (List.mem_of_getElem? (i := 828) (by decide +kernel)) rfl
theorem wn_829 : Cond.methodLinkNest RX2 25 yX9_put RX9 ∈ NW := NW_in (List.mem_of_getElem? (i := 829) (by decide +kernel)) rfl
theorem wd_831 : Cond.instanceMethod yX9_fits ∈ TB := TB_in (List.mem_of_getElem? (i := 831) (by decide +kernel)) rfl
theorem wd_832 : Cond.selects RX9 yX9_fits yX9_fits ∈ TB := TB_in (List.mem_of_getElem? (i := 832) (by decide +kernel)) rfl
theorem wd_833 : Cond.code yX9_fits cX9_fits 2 (some .int) ∈ TB := TB_in (List.mem_of_getElem? (i := 833) (by decide +kernel)) rfl
theorem wn_834 : Cond.methodLinkNest RX9 229 yX2_suitingParts RX9 ∈ NW := NW_in (List.mem_of_getElem? (i := 834) (by decide +kernel)) rfl
theorem wd_836 : Cond.instanceMethod yX2_suitingParts ∈ TB := TB_in (List.mem_of_getElem? (i := 836) (by decide +kernel)) rfl
theorem wd_837 : Cond.code yX2_suitingParts cX2_suitingParts 7 (some .int) ∈ TB := TB_in (List.mem_of_getElem? (i := 837) (by decide +kernel)) rfl
theorem wd_838 : Cond.methodLink RX2 34 yX2_hasSuchTie ∈ TB := TB_in (List.mem_of_getElem? (i := 838) (by decide +kernel)) rfl
theorem wd_840 : Cond.instanceMethod yX2_hasSuchTie ∈ TB := TB_in (List.mem_of_getElem? (i := 840) (by decide +kernel)) rfl
theorem wd_841 : Cond.code yX2_hasSuchTie cX2_hasSuchTie 10 (some .boolean) ∈ TB := TB_in (List.mem_of_getElem? (i := 841) (by decide +kernel)) rfl
theorem wn_842 : Cond.methodLinkNest RX2 38 yX9_at RX9 ∈ NW := NW_in (List.mem_of_getElem? (i := 842) (by decide +kernel)) rfl
theorem wn_843 : Cond.methodLinkNest RX2 42 yX3_of RX9 ∈ NW := NW_in (List.mem_of_getElem? (i := 843) (by decide +kernel)) rfl
theorem wn_844 : Cond.methodLinkNest RX2 49 yX7_tied RX9 ∈ NW := NW_in (List.mem_of_getElem? (i := 844) (by decide +kernel)) rfl
theorem wd_846 : Cond.instanceMethod yX9_gone ∈ TB := TB_in (List.mem_of_getElem? (i := 846) (by decide +kernel)) rfl
theorem wd_847 : Cond.selects RX9 yX9_gone yX9_gone ∈ TB := TB_in (List.mem_of_getElem? (i := 847) (by decide +kernel)) rfl
theorem wd_848 : Cond.code yX9_gone cX9_gone 2 (some .int) ∈ TB := TB_in (List.mem_of_getElem? (i := 848) (by decide +kernel)) rfl
theorem wd_850 : Cond.instanceMethod yX9_shift ∈ TB := TB_in (List.mem_of_getElem? (i := 850) (by decide +kernel)) rfl
theorem wd_851 : Cond.selects RX9 yX9_shift yX9_shift ∈ TB := TB_in (List.mem_of_getElem? (i := 851) (by decide +kernel)) rfl
theorem wd_852 : Cond.code yX9_shift cX9_shift 4 (some .int) ∈ TB := TB_in (List.mem_of_getElem? (i := 852) (by decide +kernel)) rfl
theorem wd_853 : Cond.methodLink RX9 232 yX9_partOfYear ∈ TB := TB_in (List.mem_of_getElem? (i := 853) (by decide +kernel)) rfl
theorem wd_855 : Cond.instanceMethod yX9_partOfYear ∈ TB := TB_in (List.mem_of_getElem? (i := 855) (by decide +kernel)) rfl
theorem wd_856 : Cond.code yX9_partOfYear cX9_partOfYear 4 none ∈ TB := TB_in (List.mem_of_getElem? (i := 856) (by decide +kernel)) rfl
theorem wn_857 : Cond.methodLinkNest RX9 236 yX1_keepers RX9 ∈ NW := NW_in (List.mem_of_getElem? (i := 857) (by decide +kernel)) rfl
theorem wd_859 : Cond.instanceMethod yX1_keepers ∈ TB := TB_in (List.mem_of_getElem? (i := 859) (by decide +kernel)) rfl
theorem wd_860 : Cond.code yX1_keepers cX1_keepers 6 (some .int) ∈ TB := TB_in (List.mem_of_getElem? (i := 860) (by decide +kernel)) rfl
theorem wn_861 : Cond.methodLinkNest RX1 18 yX9_wipe RX9 ∈ NW := NW_in (List.mem_of_getElem? (i := 861) (by decide +kernel)) rfl
theorem wn_862 : Cond.methodLinkNest RX1 28 yX3_of RX9 ∈ NW := NW_in (List.mem_of_getElem? (i := 862) (by decide +kernel)) rfl
theorem wn_863 : Cond.methodLinkNest RX1 32 yX9_addTo RX9 ∈ NW := NW_in (List.mem_of_getElem? (i := 863) (by decide +kernel)) rfl
theorem wd_864 : Cond.methodLink RX1 39 yX1_bestFor ∈ TB := TB_in (List.mem_of_getElem? (i := 864) (by decide +kernel)) rfl
theorem wd_866 : Cond.instanceMethod yX1_bestFor ∈ TB := TB_in (List.mem_of_getElem? (i := 866) (by decide +kernel)) rfl
theorem wd_867 : Cond.code yX1_bestFor cX1_bestFor 6 (some .int) ∈ TB := TB_in (List.mem_of_getElem? (i := 867) (by decide +kernel)) rfl
theorem wn_868 : Cond.methodLinkNest RX1 46 yX9_at RX9 ∈ NW := NW_in (List.mem_of_getElem? (i := 868) (by decide +kernel)) rfl
theorem wn_869 : Cond.methodLinkNest RX1 50 yX9_holds RX9 ∈ NW := NW_in (List.mem_of_getElem? (i := 869) (by decide +kernel)) rfl
theorem wd_870 : Cond.methodLink RX1 54 yJ9_max_7cf53 ∈ TB := TB_in (List.mem_of_getElem? (i := 870) (by decide +kernel)) rfl
theorem wn_871 : Cond.methodLinkNest RX1 43 yX9_put RX9 ∈ NW := NW_in (List.mem_of_getElem? (i := 871) (by decide +kernel)) rfl
theorem wd_873 : Cond.instanceMethod yX9_stays ∈ TB := TB_in (List.mem_of_getElem? (i := 873) (by decide +kernel)) rfl
theorem wd_874 : Cond.selects RX9 yX9_stays yX9_stays ∈ TB := TB_in (List.mem_of_getElem? (i := 874) (by decide +kernel)) rfl
theorem wd_875 : Cond.code yX9_stays cX9_stays 6 (some .int) ∈ TB := TB_in (List.mem_of_getElem? (i := 875) (by decide +kernel)) rfl
theorem wn_876 : Cond.methodLinkNest RX9 240 yX6_nextChange RX9 ∈ NW := NW_in (List.mem_of_getElem? (i := 876) (by decide +kernel)) rfl
theorem wd_878 : Cond.instanceMethod yX6_nextChange ∈ TB := TB_in (List.mem_of_getElem? (i := 878) (by decide +kernel)) rfl
theorem wd_879 : Cond.code yX6_nextChange cX6_nextChange 4 (some .int) ∈ TB := TB_in (List.mem_of_getElem? (i := 879) (by decide +kernel)) rfl
theorem wd_880 : Cond.methodLink RX6 51 yJ9_min_7cf53 ∈ TB := TB_in (List.mem_of_getElem? (i := 880) (by decide +kernel)) rfl
theorem wd_882 : Cond.instanceMethod yX9_count ∈ TB := TB_in (List.mem_of_getElem? (i := 882) (by decide +kernel)) rfl
theorem wd_883 : Cond.selects RX9 yX9_count yX9_count ∈ TB := TB_in (List.mem_of_getElem? (i := 883) (by decide +kernel)) rfl
theorem wd_884 : Cond.code yX9_count cX9_count 2 (some .int) ∈ TB := TB_in (List.mem_of_getElem? (i := 884) (by decide +kernel)) rfl
theorem wn_885 : Cond.methodLinkNest RX9 243 yX7_tiesInAll RX9 ∈ NW := NW_in (List.mem_of_getElem? (i := 885) (by decide +kernel)) rfl
theorem wd_887 : Cond.instanceMethod yX7_tiesInAll ∈ TB := TB_in (List.mem_of_getElem? (i := 887) (by decide +kernel)) rfl
theorem wd_888 : Cond.code yX7_tiesInAll cX7_tiesInAll 3 (some .int) ∈ TB := TB_in (List.mem_of_getElem? (i := 888) (by decide +kernel)) rfl
theorem wd_889 : Cond.methodLink RX7 42 yX7_tiesOfKind ∈ TB := TB_in (List.mem_of_getElem? (i := 889) (by decide +kernel)) rfl
theorem wd_896 : Cond.fieldLink RX10 7 RX10 "refused" "[I" ∈ TB := TB_in (List.mem_of_getElem? (i := 896) (by decide +kernel)) rfl
theorem wd_897 : Cond.fieldLink RX10 13 RX10 "mark" "[I" ∈ TB := TB_in (List.mem_of_getElem? (i := 897) (by decide +kernel)) rfl
theorem wd_898 : Cond.fieldLink RX10 16 RX10 "tieX" "[I" ∈ TB := TB_in (List.mem_of_getElem? (i := 898) (by decide +kernel)) rfl
theorem wd_899 : Cond.fieldLink RX10 19 RX10 "tieZ" "[I" ∈ TB := TB_in (List.mem_of_getElem? (i := 899) (by decide +kernel)) rfl
theorem wd_900 : Cond.fieldLink RX10 22 RX10 "tieKind" "[I" ∈ TB := TB_in (List.mem_of_getElem? (i := 900) (by decide +kernel)) rfl
theorem wd_901 : Cond.fieldLink RX10 25 RX10 "tieAs" "[I" ∈ TB := TB_in (List.mem_of_getElem? (i := 901) (by decide +kernel)) rfl
theorem wd_902 : Cond.fieldLink RX10 28 RX10 "tieFrom" "[I" ∈ TB := TB_in (List.mem_of_getElem? (i := 902) (by decide +kernel)) rfl
theorem wd_903 : Cond.fieldLink RX10 31 RX10 "tieTo" "[I" ∈ TB := TB_in (List.mem_of_getElem? (i := 903) (by decide +kernel)) rfl
theorem wd_904 : Cond.fieldLink RX10 34 RX10 "persons" "I" ∈ TB := TB_in (List.mem_of_getElem? (i := 904) (by decide +kernel)) rfl
theorem wd_905 : Cond.fieldLink RX10 107 RX10 "ties" "I" ∈ TB := TB_in (List.mem_of_getElem? (i := 905) (by decide +kernel)) rfl
theorem wd_906 : Cond.fieldLink RX10 121 RX10 "year" "I" ∈ TB := TB_in (List.mem_of_getElem? (i := 906) (by decide +kernel)) rfl
theorem wd_907 : Cond.fieldLink RX10 38 RX10 "tape" "[I" ∈ TB := TB_in (List.mem_of_getElem? (i := 907) (by decide +kernel)) rfl
theorem wd_908 : Cond.fieldLink RX10 126 RX10 "taped" "I" ∈ TB := TB_in (List.mem_of_getElem? (i := 908) (by decide +kernel)) rfl
theorem wd_909 : Cond.fieldLink RX10 131 RX10 "at" "I" ∈ TB := TB_in (List.mem_of_getElem? (i := 909) (by decide +kernel)) rfl
theorem wd_910 : Cond.fieldLink RX10 153 RX10 "read" "I" ∈ TB := TB_in (List.mem_of_getElem? (i := 910) (by decide +kernel)) rfl
theorem wd_911 : Cond.fieldLink RX10 41 RX10 "readX" "[I" ∈ TB := TB_in (List.mem_of_getElem? (i := 911) (by decide +kernel)) rfl
theorem wd_912 : Cond.fieldLink RX10 44 RX10 "readZ" "[I" ∈ TB := TB_in (List.mem_of_getElem? (i := 912) (by decide +kernel)) rfl
theorem wd_913 : Cond.fieldLink RX10 47 RX10 "readKind" "[I" ∈ TB := TB_in (List.mem_of_getElem? (i := 913) (by decide +kernel)) rfl
theorem wd_914 : Cond.fieldLink RX10 50 RX10 "readAs" "[I" ∈ TB := TB_in (List.mem_of_getElem? (i := 914) (by decide +kernel)) rfl
theorem wd_915 : Cond.fieldLink RX10 53 RX10 "readFrom" "[I" ∈ TB := TB_in (List.mem_of_getElem? (i := 915) (by decide +kernel)) rfl
theorem wd_916 : Cond.fieldLink RX10 56 RX10 "readTo" "[I" ∈ TB := TB_in (List.mem_of_getElem? (i := 916) (by decide +kernel)) rfl
theorem wd_917 : Cond.fieldLink RX10 59 RX10 "tie" "[I" ∈ TB := TB_in (List.mem_of_getElem? (i := 917) (by decide +kernel)) rfl
theorem wd_918 : Cond.fieldLink RX10 62 RX10 "part" "[I" ∈ TB := TB_in (List.mem_of_getElem? (i := 918) (by decide +kernel)) rfl
theorem wd_919 : Cond.fieldLink RX10 65 RX10 "other" "[I" ∈ TB := TB_in (List.mem_of_getElem? (i := 919) (by decide +kernel)) rfl
theorem wd_920 : Cond.fieldLink RX10 68 RX10 "made" "[I" ∈ TB := TB_in (List.mem_of_getElem? (i := 920) (by decide +kernel)) rfl
theorem wd_921 : Cond.fieldLink RX10 71 RX10 "names" "[I" ∈ TB := TB_in (List.mem_of_getElem? (i := 921) (by decide +kernel)) rfl
theorem wd_922 : Cond.fieldLink RX10 74 RX10 "to" "[I" ∈ TB := TB_in (List.mem_of_getElem? (i := 922) (by decide +kernel)) rfl
theorem wd_923 : Cond.fieldLink RX10 77 RX10 "least" "[I" ∈ TB := TB_in (List.mem_of_getElem? (i := 923) (by decide +kernel)) rfl
theorem wd_924 : Cond.fieldLink RX10 80 RX10 "row" "[I" ∈ TB := TB_in (List.mem_of_getElem? (i := 924) (by decide +kernel)) rfl
theorem wd_925 : Cond.fieldLink RX10 83 RX10 "moved" "[Z" ∈ TB := TB_in (List.mem_of_getElem? (i := 925) (by decide +kernel)) rfl
theorem wd_926 : Cond.fieldLink RX10 87 RX10 "comingKind" "[I" ∈ TB := TB_in (List.mem_of_getElem? (i := 926) (by decide +kernel)) rfl
theorem wd_927 : Cond.fieldLink RX10 90 RX10 "comingOf" "[I" ∈ TB := TB_in (List.mem_of_getElem? (i := 927) (by decide +kernel)) rfl
theorem wd_928 : Cond.fieldLink RX10 93 RX10 "comingTo" "[Z" ∈ TB := TB_in (List.mem_of_getElem? (i := 928) (by decide +kernel)) rfl
theorem wd_929 : Cond.fieldLink RX10 110 RX10 "coming" "I" ∈ TB := TB_in (List.mem_of_getElem? (i := 929) (by decide +kernel)) rfl
theorem wd_1001 : Cond.instanceMethod yX10_persons ∈ TB := TB_in (List.mem_of_getElem? (i := 1001) (by decide +kernel)) rfl
theorem wd_1002 : Cond.selects RX10 yX10_persons yX10_persons ∈ TB := TB_in (List.mem_of_getElem? (i := 1002) (by decide +kernel)) rfl
theorem wd_1003 : Cond.code yX10_persons cX10_persons 5 (some .int) ∈ TB := TB_in (List.mem_of_getElem? (i := 1003) (by decide +kernel)) rfl
theorem wd_1004 : Cond.constantLong RX10 97 (7) ∈ TB := TB_in (List.mem_of_getElem? (i := 1004) (by decide +kernel)) rfl
theorem wd_1005 : Cond.methodLink RX10 99 yX10_out ∈ TB := TB_in (List.mem_of_getElem? (i := 1005) (by decide +kernel)) rfl
theorem wd_1006 : Cond.static yX10_out ∈ TB := TB_in (List.mem_of_getElem? (i := 1006) (by decide +kernel)) rfl
theorem wd_1007 : Cond.code yX10_out cX10_out 6 (some .int) ∈ TB := TB_in (List.mem_of_getElem? (i := 1007) (by decide +kernel)) rfl
theorem wd_1008 : Cond.methodLink RX10 103 yX10_no ∈ TB := TB_in (List.mem_of_getElem? (i := 1008) (by decide +kernel)) rfl
theorem wd_1010 : Cond.instanceMethod yX10_no ∈ TB := TB_in (List.mem_of_getElem? (i := 1010) (by decide +kernel)) rfl
theorem wd_1011 : Cond.code yX10_no cX10_no 2 (some .int) ∈ TB := TB_in (List.mem_of_getElem? (i := 1011) (by decide +kernel)) rfl
theorem wd_1013 : Cond.instanceMethod yX10_mark ∈ TB := TB_in (List.mem_of_getElem? (i := 1013) (by decide +kernel)) rfl
theorem wd_1014 : Cond.selects RX10 yX10_mark yX10_mark ∈ TB := TB_in (List.mem_of_getElem? (i := 1014) (by decide +kernel)) rfl
theorem wd_1015 : Cond.code yX10_mark cX10_mark 5 (some .int) ∈ TB := TB_in (List.mem_of_getElem? (i := 1015) (by decide +kernel)) rfl
theorem wd_1016 : Cond.methodLink RX10 113 yX10_isPerson ∈ TB := TB_in (List.mem_of_getElem? (i := 1016) (by decide +kernel)) rfl
theorem wd_1018 : Cond.instanceMethod yX10_isPerson ∈ TB := TB_in (List.mem_of_getElem? (i := 1018) (by decide +kernel)) rfl
theorem wd_1019 : Cond.code yX10_isPerson cX10_isPerson 2 (some .boolean) ∈ TB := TB_in (List.mem_of_getElem? (i := 1019) (by decide +kernel)) rfl
theorem wd_1020 : Cond.constantLong RX10 117 (3) ∈ TB := TB_in (List.mem_of_getElem? (i := 1020) (by decide +kernel)) rfl
theorem wd_1022 : Cond.instanceMethod yX10_year ∈ TB := TB_in (List.mem_of_getElem? (i := 1022) (by decide +kernel)) rfl
theorem wd_1023 : Cond.selects RX10 yX10_year yX10_year ∈ TB := TB_in (List.mem_of_getElem? (i := 1023) (by decide +kernel)) rfl
theorem wd_1024 : Cond.code yX10_year cX10_year 4 (some .int) ∈ TB := TB_in (List.mem_of_getElem? (i := 1024) (by decide +kernel)) rfl
theorem wd_1025 : Cond.constantLong RX10 119 (100) ∈ TB := TB_in (List.mem_of_getElem? (i := 1025) (by decide +kernel)) rfl
theorem wd_1027 : Cond.instanceMethod yX10_feed ∈ TB := TB_in (List.mem_of_getElem? (i := 1027) (by decide +kernel)) rfl
theorem wd_1028 : Cond.selects RX10 yX10_feed yX10_feed ∈ TB := TB_in (List.mem_of_getElem? (i := 1028) (by decide +kernel)) rfl
theorem wd_1029 : Cond.code yX10_feed cX10_feed 6 (some .int) ∈ TB := TB_in (List.mem_of_getElem? (i := 1029) (by decide +kernel)) rfl
theorem wd_1030 : Cond.constantLong RX10 124 (8) ∈ TB := TB_in (List.mem_of_getElem? (i := 1030) (by decide +kernel)) rfl
theorem wd_1031 : Cond.constantLong RX10 129 (255) ∈ TB := TB_in (List.mem_of_getElem? (i := 1031) (by decide +kernel)) rfl
theorem wd_1033 : Cond.instanceMethod yX10_ties ∈ TB := TB_in (List.mem_of_getElem? (i := 1033) (by decide +kernel)) rfl
theorem wd_1034 : Cond.selects RX10 yX10_ties yX10_ties ∈ TB := TB_in (List.mem_of_getElem? (i := 1034) (by decide +kernel)) rfl
theorem wd_1035 : Cond.code yX10_ties cX10_ties 3 (some .int) ∈ TB := TB_in (List.mem_of_getElem? (i := 1035) (by decide +kernel)) rfl
theorem wd_1036 : Cond.methodLink RX10 163 yX10_reads ∈ TB := TB_in (List.mem_of_getElem? (i := 1036) (by decide +kernel)) rfl
theorem wd_1038 : Cond.instanceMethod yX10_reads ∈ TB := TB_in (List.mem_of_getElem? (i := 1038) (by decide +kernel)) rfl
theorem wd_1039 : Cond.code yX10_reads cX10_reads 1 (some .boolean) ∈ TB := TB_in (List.mem_of_getElem? (i := 1039) (by decide +kernel)) rfl
theorem wd_1040 : Cond.methodLink RX10 159 yX10_oneTie ∈ TB := TB_in (List.mem_of_getElem? (i := 1040) (by decide +kernel)) rfl
theorem wd_1042 : Cond.instanceMethod yX10_oneTie ∈ TB := TB_in (List.mem_of_getElem? (i := 1042) (by decide +kernel)) rfl
theorem wd_1043 : Cond.code yX10_oneTie cX10_oneTie 4 (some .boolean) ∈ TB := TB_in (List.mem_of_getElem? (i := 1043) (by decide +kernel)) rfl
theorem wd_1044 : Cond.methodLink RX10 142 yX10_takesIn ∈ TB := TB_in (List.mem_of_getElem? (i := 1044) (by decide +kernel)) rfl
theorem wd_1046 : Cond.instanceMethod yX10_takesIn ∈ TB := TB_in (List.mem_of_getElem? (i := 1046) (by decide +kernel)) rfl
theorem wd_1047 : Cond.code yX10_takesIn cX10_takesIn 5 (some .int) ∈ TB := TB_in (List.mem_of_getElem? (i := 1047) (by decide +kernel)) rfl
theorem wd_1048 : Cond.methodLink RX10 134 yX10_sign ∈ TB := TB_in (List.mem_of_getElem? (i := 1048) (by decide +kernel)) rfl
theorem wd_1050 : Cond.instanceMethod yX10_sign ∈ TB := TB_in (List.mem_of_getElem? (i := 1050) (by decide +kernel)) rfl
theorem wd_1051 : Cond.code yX10_sign cX10_sign 1 (some .int) ∈ TB := TB_in (List.mem_of_getElem? (i := 1051) (by decide +kernel)) rfl
theorem wd_1052 : Cond.methodLink RX10 138 yX10_isIn ∈ TB := TB_in (List.mem_of_getElem? (i := 1052) (by decide +kernel)) rfl
theorem wd_1053 : Cond.static yX10_isIn ∈ TB := TB_in (List.mem_of_getElem? (i := 1053) (by decide +kernel)) rfl
theorem wd_1054 : Cond.code yX10_isIn cX10_isIn 6 (some .boolean) ∈ TB := TB_in (List.mem_of_getElem? (i := 1054) (by decide +kernel)) rfl
theorem wd_1055 : Cond.methodLink RX10 150 yX10_takes ∈ TB := TB_in (List.mem_of_getElem? (i := 1055) (by decide +kernel)) rfl
theorem wd_1057 : Cond.instanceMethod yX10_takes ∈ TB := TB_in (List.mem_of_getElem? (i := 1057) (by decide +kernel)) rfl
theorem wd_1058 : Cond.code yX10_takes cX10_takes 2 (some .boolean) ∈ TB := TB_in (List.mem_of_getElem? (i := 1058) (by decide +kernel)) rfl
theorem wd_1059 : Cond.methodLink RX10 156 yX10_years ∈ TB := TB_in (List.mem_of_getElem? (i := 1059) (by decide +kernel)) rfl
theorem wd_1061 : Cond.instanceMethod yX10_years ∈ TB := TB_in (List.mem_of_getElem? (i := 1061) (by decide +kernel)) rfl
theorem wd_1062 : Cond.code yX10_years cX10_years 5 (some .int) ∈ TB := TB_in (List.mem_of_getElem? (i := 1062) (by decide +kernel)) rfl
theorem wd_1063 : Cond.constantLong RX10 146 (48) ∈ TB := TB_in (List.mem_of_getElem? (i := 1063) (by decide +kernel)) rfl
theorem wd_1064 : Cond.constantLong RX10 148 (57) ∈ TB := TB_in (List.mem_of_getElem? (i := 1064) (by decide +kernel)) rfl
theorem wd_1066 : Cond.instanceMethod yX10_untie ∈ TB := TB_in (List.mem_of_getElem? (i := 1066) (by decide +kernel)) rfl
theorem wd_1067 : Cond.selects RX10 yX10_untie yX10_untie ∈ TB := TB_in (List.mem_of_getElem? (i := 1067) (by decide +kernel)) rfl
theorem wd_1068 : Cond.code yX10_untie cX10_untie 3 (some .int) ∈ TB := TB_in (List.mem_of_getElem? (i := 1068) (by decide +kernel)) rfl
theorem wd_1070 : Cond.instanceMethod yX10_tie ∈ TB := TB_in (List.mem_of_getElem? (i := 1070) (by decide +kernel)) rfl
theorem wd_1071 : Cond.selects RX10 yX10_tie yX10_tie ∈ TB := TB_in (List.mem_of_getElem? (i := 1071) (by decide +kernel)) rfl
theorem wd_1072 : Cond.code yX10_tie cX10_tie 4 (some .int) ∈ TB := TB_in (List.mem_of_getElem? (i := 1072) (by decide +kernel)) rfl
theorem wd_1073 : Cond.methodLink RX10 169 yX10_isKind ∈ TB := TB_in (List.mem_of_getElem? (i := 1073) (by decide +kernel)) rfl
theorem wd_1074 : Cond.static yX10_isKind ∈ TB := TB_in (List.mem_of_getElem? (i := 1074) (by decide +kernel)) rfl
theorem wd_1075 : Cond.code yX10_isKind cX10_isKind 1 (some .boolean) ∈ TB := TB_in (List.mem_of_getElem? (i := 1075) (by decide +kernel)) rfl
theorem wd_1076 : Cond.methodLink RX10 172 yX10_findTies ∈ TB := TB_in (List.mem_of_getElem? (i := 1076) (by decide +kernel)) rfl
theorem wd_1078 : Cond.instanceMethod yX10_findTies ∈ TB := TB_in (List.mem_of_getElem? (i := 1078) (by decide +kernel)) rfl
theorem wd_1079 : Cond.code yX10_findTies cX10_findTies 3 none ∈ TB := TB_in (List.mem_of_getElem? (i := 1079) (by decide +kernel)) rfl
theorem wd_1080 : Cond.methodLink RX10 166 yX10_strong ∈ TB := TB_in (List.mem_of_getElem? (i := 1080) (by decide +kernel)) rfl
theorem wd_1082 : Cond.instanceMethod yX10_strong ∈ TB := TB_in (List.mem_of_getElem? (i := 1082) (by decide +kernel)) rfl
theorem wd_1083 : Cond.code yX10_strong cX10_strong 4 (some .int) ∈ TB := TB_in (List.mem_of_getElem? (i := 1083) (by decide +kernel)) rfl
theorem wd_1085 : Cond.instanceMethod yX10_degree ∈ TB := TB_in (List.mem_of_getElem? (i := 1085) (by decide +kernel)) rfl
theorem wd_1086 : Cond.selects RX10 yX10_degree yX10_degree ∈ TB := TB_in (List.mem_of_getElem? (i := 1086) (by decide +kernel)) rfl
theorem wd_1087 : Cond.code yX10_degree cX10_degree 6 (some .int) ∈ TB := TB_in (List.mem_of_getElem? (i := 1087) (by decide +kernel)) rfl
theorem wd_1088 : Cond.methodLink RX10 176 yX10_has ∈ TB := TB_in (List.mem_of_getElem? (i := 1088) (by decide +kernel)) rfl
theorem wd_1090 : Cond.instanceMethod yX10_has ∈ TB := TB_in (List.mem_of_getElem? (i := 1090) (by decide +kernel)) rfl
theorem wd_1091 : Cond.code yX10_has cX10_has 4 (some .boolean) ∈ TB := TB_in (List.mem_of_getElem? (i := 1091) (by decide +kernel)) rfl
theorem wd_1093 : Cond.instanceMethod yX10_parting ∈ TB := TB_in (List.mem_of_getElem? (i := 1093) (by decide +kernel)) rfl
theorem wd_1094 : Cond.selects RX10 yX10_parting yX10_parting ∈ TB := TB_in (List.mem_of_getElem? (i := 1094) (by decide +kernel)) rfl
theorem wd_1095 : Cond.code yX10_parting cX10_parting 3 (some .int) ∈ TB := TB_in (List.mem_of_getElem? (i := 1095) (by decide +kernel)) rfl
theorem wd_1096 : Cond.methodLink RX10 180 yX10_opens ∈ TB := TB_in (List.mem_of_getElem? (i := 1096) (by decide +kernel)) rfl
theorem wd_1098 : Cond.instanceMethod yX10_opens ∈ TB := TB_in (List.mem_of_getElem? (i := 1098) (by decide +kernel)) rfl
theorem wd_1099 : Cond.code yX10_opens cX10_opens 6 (some .int) ∈ TB := TB_in (List.mem_of_getElem? (i := 1099) (by decide +kernel)) rfl
theorem wd_1101 : Cond.instanceMethod yX10_judge ∈ TB := TB_in (List.mem_of_getElem? (i := 1101) (by decide +kernel)) rfl
theorem wd_1102 : Cond.selects RX10 yX10_judge yX10_judge ∈ TB := TB_in (List.mem_of_getElem? (i := 1102) (by decide +kernel)) rfl
theorem wd_1103 : Cond.code yX10_judge cX10_judge 3 (some .int) ∈ TB := TB_in (List.mem_of_getElem? (i := 1103) (by decide +kernel)) rfl
theorem wd_1104 : Cond.methodLink RX10 202 yX10_isSameness ∈ TB := TB_in (List.mem_of_getElem? (i := 1104) (by decide +kernel)) rfl
theorem wd_1105 : Cond.static yX10_isSameness ∈ TB := TB_in (List.mem_of_getElem? (i := 1105) (by decide +kernel)) rfl
theorem wd_1106 : Cond.code yX10_isSameness cX10_isSameness 1 (some .boolean) ∈ TB := TB_in (List.mem_of_getElem? (i := 1106) (by decide +kernel)) rfl
theorem wd_1107 : Cond.methodLink RX10 205 yX10_judged ∈ TB := TB_in (List.mem_of_getElem? (i := 1107) (by decide +kernel)) rfl
theorem wd_1109 : Cond.instanceMethod yX10_judged ∈ TB := TB_in (List.mem_of_getElem? (i := 1109) (by decide +kernel)) rfl
theorem wd_1110 : Cond.code yX10_judged cX10_judged 4 (some .int) ∈ TB := TB_in (List.mem_of_getElem? (i := 1110) (by decide +kernel)) rfl
theorem wd_1111 : Cond.methodLink RX10 199 yX10_areSo ∈ TB := TB_in (List.mem_of_getElem? (i := 1111) (by decide +kernel)) rfl
theorem wd_1113 : Cond.instanceMethod yX10_areSo ∈ TB := TB_in (List.mem_of_getElem? (i := 1113) (by decide +kernel)) rfl
theorem wd_1114 : Cond.code yX10_areSo cX10_areSo 4 (some .boolean) ∈ TB := TB_in (List.mem_of_getElem? (i := 1114) (by decide +kernel)) rfl
theorem wd_1115 : Cond.methodLink RX10 184 yX10_areTied ∈ TB := TB_in (List.mem_of_getElem? (i := 1115) (by decide +kernel)) rfl
theorem wd_1117 : Cond.instanceMethod yX10_areTied ∈ TB := TB_in (List.mem_of_getElem? (i := 1117) (by decide +kernel)) rfl
theorem wd_1118 : Cond.code yX10_areTied cX10_areTied 6 (some .boolean) ∈ TB := TB_in (List.mem_of_getElem? (i := 1118) (by decide +kernel)) rfl
theorem wd_1119 : Cond.methodLink RX10 191 yX10_seen ∈ TB := TB_in (List.mem_of_getElem? (i := 1119) (by decide +kernel)) rfl
theorem wd_1120 : Cond.static yX10_seen ∈ TB := TB_in (List.mem_of_getElem? (i := 1120) (by decide +kernel)) rfl
theorem wd_1121 : Cond.code yX10_seen cX10_seen 2 (some .int) ∈ TB := TB_in (List.mem_of_getElem? (i := 1121) (by decide +kernel)) rfl
theorem wd_1122 : Cond.methodLink RX10 188 yX10_areLed ∈ TB := TB_in (List.mem_of_getElem? (i := 1122) (by decide +kernel)) rfl
theorem wd_1124 : Cond.instanceMethod yX10_areLed ∈ TB := TB_in (List.mem_of_getElem? (i := 1124) (by decide +kernel)) rfl
theorem wd_1125 : Cond.code yX10_areLed cX10_areLed 6 (some .boolean) ∈ TB := TB_in (List.mem_of_getElem? (i := 1125) (by decide +kernel)) rfl
theorem wd_1126 : Cond.methodLink RX10 195 yX10_led ∈ TB := TB_in (List.mem_of_getElem? (i := 1126) (by decide +kernel)) rfl
theorem wd_1128 : Cond.instanceMethod yX10_led ∈ TB := TB_in (List.mem_of_getElem? (i := 1128) (by decide +kernel)) rfl
theorem wd_1129 : Cond.code yX10_led cX10_led 7 (some .int) ∈ TB := TB_in (List.mem_of_getElem? (i := 1129) (by decide +kernel)) rfl
theorem wd_1131 : Cond.instanceMethod yX10_coarsest ∈ TB := TB_in (List.mem_of_getElem? (i := 1131) (by decide +kernel)) rfl
theorem wd_1132 : Cond.selects RX10 yX10_coarsest yX10_coarsest ∈ TB := TB_in (List.mem_of_getElem? (i := 1132) (by decide +kernel)) rfl
theorem wd_1133 : Cond.code yX10_coarsest cX10_coarsest 3 (some .int) ∈ TB := TB_in (List.mem_of_getElem? (i := 1133) (by decide +kernel)) rfl
theorem wd_1134 : Cond.methodLink RX10 212 yX10_splits ∈ TB := TB_in (List.mem_of_getElem? (i := 1134) (by decide +kernel)) rfl
theorem wd_1136 : Cond.instanceMethod yX10_splits ∈ TB := TB_in (List.mem_of_getElem? (i := 1136) (by decide +kernel)) rfl
theorem wd_1137 : Cond.code yX10_splits cX10_splits 5 (some .int) ∈ TB := TB_in (List.mem_of_getElem? (i := 1137) (by decide +kernel)) rfl
theorem wd_1138 : Cond.methodLink RX10 208 yX10_number ∈ TB := TB_in (List.mem_of_getElem? (i := 1138) (by decide +kernel)) rfl
theorem wd_1140 : Cond.instanceMethod yX10_number ∈ TB := TB_in (List.mem_of_getElem? (i := 1140) (by decide +kernel)) rfl
theorem wd_1141 : Cond.code yX10_number cX10_number 7 (some .int) ∈ TB := TB_in (List.mem_of_getElem? (i := 1141) (by decide +kernel)) rfl
theorem wd_1143 : Cond.instanceMethod yX10_renamings ∈ TB := TB_in (List.mem_of_getElem? (i := 1143) (by decide +kernel)) rfl
theorem wd_1144 : Cond.selects RX10 yX10_renamings yX10_renamings ∈ TB := TB_in (List.mem_of_getElem? (i := 1144) (by decide +kernel)) rfl
theorem wd_1145 : Cond.code yX10_renamings cX10_renamings 1 (some .int) ∈ TB := TB_in (List.mem_of_getElem? (i := 1145) (by decide +kernel)) rfl
theorem wd_1146 : Cond.methodLink RX10 224 yX10_findTurns ∈ TB := TB_in (List.mem_of_getElem? (i := 1146) (by decide +kernel)) rfl
theorem wd_1148 : Cond.instanceMethod yX10_findTurns ∈ TB := TB_in (List.mem_of_getElem? (i := 1148) (by decide +kernel)) rfl
theorem wd_1149 : Cond.code yX10_findTurns cX10_findTurns 4 (some .int) ∈ TB := TB_in (List.mem_of_getElem? (i := 1149) (by decide +kernel)) rfl
theorem wd_1150 : Cond.methodLink RX10 215 yX10_firstNames ∈ TB := TB_in (List.mem_of_getElem? (i := 1150) (by decide +kernel)) rfl
theorem wd_1152 : Cond.instanceMethod yX10_firstNames ∈ TB := TB_in (List.mem_of_getElem? (i := 1152) (by decide +kernel)) rfl
theorem wd_1153 : Cond.code yX10_firstNames cX10_firstNames 2 none ∈ TB := TB_in (List.mem_of_getElem? (i := 1153) (by decide +kernel)) rfl
theorem wd_1154 : Cond.methodLink RX10 218 yX10_isTurn ∈ TB := TB_in (List.mem_of_getElem? (i := 1154) (by decide +kernel)) rfl
theorem wd_1156 : Cond.instanceMethod yX10_isTurn ∈ TB := TB_in (List.mem_of_getElem? (i := 1156) (by decide +kernel)) rfl
theorem wd_1157 : Cond.code yX10_isTurn cX10_isTurn 4 (some .boolean) ∈ TB := TB_in (List.mem_of_getElem? (i := 1157) (by decide +kernel)) rfl
theorem wd_1158 : Cond.methodLink RX10 221 yX10_nextNames ∈ TB := TB_in (List.mem_of_getElem? (i := 1158) (by decide +kernel)) rfl
theorem wd_1160 : Cond.instanceMethod yX10_nextNames ∈ TB := TB_in (List.mem_of_getElem? (i := 1160) (by decide +kernel)) rfl
theorem wd_1161 : Cond.code yX10_nextNames cX10_nextNames 7 (some .boolean) ∈ TB := TB_in (List.mem_of_getElem? (i := 1161) (by decide +kernel)) rfl
theorem wd_1163 : Cond.instanceMethod yX10_moves ∈ TB := TB_in (List.mem_of_getElem? (i := 1163) (by decide +kernel)) rfl
theorem wd_1164 : Cond.selects RX10 yX10_moves yX10_moves ∈ TB := TB_in (List.mem_of_getElem? (i := 1164) (by decide +kernel)) rfl
theorem wd_1165 : Cond.code yX10_moves cX10_moves 3 (some .int) ∈ TB := TB_in (List.mem_of_getElem? (i := 1165) (by decide +kernel)) rfl
theorem wd_1167 : Cond.instanceMethod yX10_orbits ∈ TB := TB_in (List.mem_of_getElem? (i := 1167) (by decide +kernel)) rfl
theorem wd_1168 : Cond.selects RX10 yX10_orbits yX10_orbits ∈ TB := TB_in (List.mem_of_getElem? (i := 1168) (by decide +kernel)) rfl
theorem wd_1169 : Cond.code yX10_orbits cX10_orbits 3 (some .int) ∈ TB := TB_in (List.mem_of_getElem? (i := 1169) (by decide +kernel)) rfl
theorem wd_1171 : Cond.instanceMethod yX10_form ∈ TB := TB_in (List.mem_of_getElem? (i := 1171) (by decide +kernel)) rfl
theorem wd_1172 : Cond.selects RX10 yX10_form yX10_form ∈ TB := TB_in (List.mem_of_getElem? (i := 1172) (by decide +kernel)) rfl
theorem wd_1173 : Cond.code yX10_form cX10_form 8 (some .int) ∈ TB := TB_in (List.mem_of_getElem? (i := 1173) (by decide +kernel)) rfl
theorem wd_1174 : Cond.constantLong RX10 227 (10) ∈ TB := TB_in (List.mem_of_getElem? (i := 1174) (by decide +kernel)) rfl
theorem wd_1175 : Cond.constantLong RX10 229 (1000000007) ∈ TB := TB_in (List.mem_of_getElem? (i := 1175) (by decide +kernel)) rfl
theorem wd_1177 : Cond.instanceMethod yX10_next ∈ TB := TB_in (List.mem_of_getElem? (i := 1177) (by decide +kernel)) rfl
theorem wd_1178 : Cond.selects RX10 yX10_next yX10_next ∈ TB := TB_in (List.mem_of_getElem? (i := 1178) (by decide +kernel)) rfl
theorem wd_1179 : Cond.code yX10_next cX10_next 5 (some .int) ∈ TB := TB_in (List.mem_of_getElem? (i := 1179) (by decide +kernel)) rfl
theorem wd_1180 : Cond.methodLink RX10 231 yX10_firstParting ∈ TB := TB_in (List.mem_of_getElem? (i := 1180) (by decide +kernel)) rfl
theorem wd_1182 : Cond.instanceMethod yX10_firstParting ∈ TB := TB_in (List.mem_of_getElem? (i := 1182) (by decide +kernel)) rfl
theorem wd_1183 : Cond.code yX10_firstParting cX10_firstParting 2 none ∈ TB := TB_in (List.mem_of_getElem? (i := 1183) (by decide +kernel)) rfl
theorem wd_1184 : Cond.methodLink RX10 234 yX10_nextParting ∈ TB := TB_in (List.mem_of_getElem? (i := 1184) (by decide +kernel)) rfl
theorem wd_1186 : Cond.instanceMethod yX10_nextParting ∈ TB := TB_in (List.mem_of_getElem? (i := 1186) (by decide +kernel)) rfl
theorem wd_1187 : Cond.code yX10_nextParting cX10_nextParting 4 (some .boolean) ∈ TB := TB_in (List.mem_of_getElem? (i := 1187) (by decide +kernel)) rfl
theorem wd_1189 : Cond.instanceMethod yX10_all ∈ TB := TB_in (List.mem_of_getElem? (i := 1189) (by decide +kernel)) rfl
theorem wd_1190 : Cond.selects RX10 yX10_all yX10_all ∈ TB := TB_in (List.mem_of_getElem? (i := 1190) (by decide +kernel)) rfl
theorem wd_1191 : Cond.code yX10_all cX10_all 4 (some .int) ∈ TB := TB_in (List.mem_of_getElem? (i := 1191) (by decide +kernel)) rfl
theorem wd_1193 : Cond.instanceMethod yX10_join ∈ TB := TB_in (List.mem_of_getElem? (i := 1193) (by decide +kernel)) rfl
theorem wd_1194 : Cond.selects RX10 yX10_join yX10_join ∈ TB := TB_in (List.mem_of_getElem? (i := 1194) (by decide +kernel)) rfl
theorem wd_1195 : Cond.code yX10_join cX10_join 6 (some .int) ∈ TB := TB_in (List.mem_of_getElem? (i := 1195) (by decide +kernel)) rfl
theorem wd_1197 : Cond.instanceMethod yX10_meet ∈ TB := TB_in (List.mem_of_getElem? (i := 1197) (by decide +kernel)) rfl
theorem wd_1198 : Cond.selects RX10 yX10_meet yX10_meet ∈ TB := TB_in (List.mem_of_getElem? (i := 1198) (by decide +kernel)) rfl
theorem wd_1199 : Cond.code yX10_meet cX10_meet 4 (some .int) ∈ TB := TB_in (List.mem_of_getElem? (i := 1199) (by decide +kernel)) rfl
theorem wd_1201 : Cond.instanceMethod yX10_picture ∈ TB := TB_in (List.mem_of_getElem? (i := 1201) (by decide +kernel)) rfl
theorem wd_1202 : Cond.selects RX10 yX10_picture yX10_picture ∈ TB := TB_in (List.mem_of_getElem? (i := 1202) (by decide +kernel)) rfl
theorem wd_1203 : Cond.code yX10_picture cX10_picture 13 (some .int) ∈ TB := TB_in (List.mem_of_getElem? (i := 1203) (by decide +kernel)) rfl
theorem wd_1205 : Cond.instanceMethod yX10_wrong ∈ TB := TB_in (List.mem_of_getElem? (i := 1205) (by decide +kernel)) rfl
theorem wd_1206 : Cond.selects RX10 yX10_wrong yX10_wrong ∈ TB := TB_in (List.mem_of_getElem? (i := 1206) (by decide +kernel)) rfl
theorem wd_1207 : Cond.code yX10_wrong cX10_wrong 2 (some .int) ∈ TB := TB_in (List.mem_of_getElem? (i := 1207) (by decide +kernel)) rfl
theorem wd_1208 : Cond.methodLink RX10 237 yX10_wrongOf ∈ TB := TB_in (List.mem_of_getElem? (i := 1208) (by decide +kernel)) rfl
theorem wd_1210 : Cond.instanceMethod yX10_wrongOf ∈ TB := TB_in (List.mem_of_getElem? (i := 1210) (by decide +kernel)) rfl
theorem wd_1211 : Cond.code yX10_wrongOf cX10_wrongOf 9 (some .int) ∈ TB := TB_in (List.mem_of_getElem? (i := 1211) (by decide +kernel)) rfl
theorem wd_1213 : Cond.instanceMethod yX10_least ∈ TB := TB_in (List.mem_of_getElem? (i := 1213) (by decide +kernel)) rfl
theorem wd_1214 : Cond.selects RX10 yX10_least yX10_least ∈ TB := TB_in (List.mem_of_getElem? (i := 1214) (by decide +kernel)) rfl
theorem wd_1215 : Cond.code yX10_least cX10_least 9 (some .int) ∈ TB := TB_in (List.mem_of_getElem? (i := 1215) (by decide +kernel)) rfl
theorem wd_1216 : Cond.constantLong RX10 240 (2) ∈ TB := TB_in (List.mem_of_getElem? (i := 1216) (by decide +kernel)) rfl
theorem wd_1217 : Cond.methodLink RX10 242 yX10_parts ∈ TB := TB_in (List.mem_of_getElem? (i := 1217) (by decide +kernel)) rfl
theorem wd_1219 : Cond.instanceMethod yX10_parts ∈ TB := TB_in (List.mem_of_getElem? (i := 1219) (by decide +kernel)) rfl
theorem wd_1220 : Cond.code yX10_parts cX10_parts 3 (some .int) ∈ TB := TB_in (List.mem_of_getElem? (i := 1220) (by decide +kernel)) rfl
theorem wd_1222 : Cond.instanceMethod yX10_spoils ∈ TB := TB_in (List.mem_of_getElem? (i := 1222) (by decide +kernel)) rfl
theorem wd_1223 : Cond.selects RX10 yX10_spoils yX10_spoils ∈ TB := TB_in (List.mem_of_getElem? (i := 1223) (by decide +kernel)) rfl
theorem wd_1224 : Cond.code yX10_spoils cX10_spoils 12 (some .int) ∈ TB := TB_in (List.mem_of_getElem? (i := 1224) (by decide +kernel)) rfl
theorem wd_1225 : Cond.methodLink RX10 245 yX10_less ∈ TB := TB_in (List.mem_of_getElem? (i := 1225) (by decide +kernel)) rfl
theorem wd_1227 : Cond.instanceMethod yX10_less ∈ TB := TB_in (List.mem_of_getElem? (i := 1227) (by decide +kernel)) rfl
theorem wd_1228 : Cond.code yX10_less cX10_less 2 (some .int) ∈ TB := TB_in (List.mem_of_getElem? (i := 1228) (by decide +kernel)) rfl
theorem wd_1229 : Cond.constant RX10 96 (1000000000) ∈ TB := TB_in (List.mem_of_getElem? (i := 1229) (by decide +kernel)) rfl
theorem wd_1231 : Cond.instanceMethod yX10_newcomer ∈ TB := TB_in (List.mem_of_getElem? (i := 1231) (by decide +kernel)) rfl
theorem wd_1232 : Cond.selects RX10 yX10_newcomer yX10_newcomer ∈ TB := TB_in (List.mem_of_getElem? (i := 1232) (by decide +kernel)) rfl
theorem wd_1233 : Cond.code yX10_newcomer cX10_newcomer 4 (some .int) ∈ TB := TB_in (List.mem_of_getElem? (i := 1233) (by decide +kernel)) rfl
theorem wd_1235 : Cond.instanceMethod yX10_fits ∈ TB := TB_in (List.mem_of_getElem? (i := 1235) (by decide +kernel)) rfl
theorem wd_1236 : Cond.selects RX10 yX10_fits yX10_fits ∈ TB := TB_in (List.mem_of_getElem? (i := 1236) (by decide +kernel)) rfl
theorem wd_1237 : Cond.code yX10_fits cX10_fits 7 (some .int) ∈ TB := TB_in (List.mem_of_getElem? (i := 1237) (by decide +kernel)) rfl
theorem wd_1238 : Cond.methodLink RX10 248 yX10_isFit ∈ TB := TB_in (List.mem_of_getElem? (i := 1238) (by decide +kernel)) rfl
theorem wd_1240 : Cond.instanceMethod yX10_isFit ∈ TB := TB_in (List.mem_of_getElem? (i := 1240) (by decide +kernel)) rfl
theorem wd_1241 : Cond.code yX10_isFit cX10_isFit 5 (some .boolean) ∈ TB := TB_in (List.mem_of_getElem? (i := 1241) (by decide +kernel)) rfl
theorem wd_1243 : Cond.instanceMethod yX10_gone ∈ TB := TB_in (List.mem_of_getElem? (i := 1243) (by decide +kernel)) rfl
theorem wd_1244 : Cond.selects RX10 yX10_gone yX10_gone ∈ TB := TB_in (List.mem_of_getElem? (i := 1244) (by decide +kernel)) rfl
theorem wd_1245 : Cond.code yX10_gone cX10_gone 2 (some .int) ∈ TB := TB_in (List.mem_of_getElem? (i := 1245) (by decide +kernel)) rfl
theorem wd_1247 : Cond.instanceMethod yX10_shift ∈ TB := TB_in (List.mem_of_getElem? (i := 1247) (by decide +kernel)) rfl
theorem wd_1248 : Cond.selects RX10 yX10_shift yX10_shift ∈ TB := TB_in (List.mem_of_getElem? (i := 1248) (by decide +kernel)) rfl
theorem wd_1249 : Cond.code yX10_shift cX10_shift 11 (some .int) ∈ TB := TB_in (List.mem_of_getElem? (i := 1249) (by decide +kernel)) rfl
theorem wd_1250 : Cond.methodLink RX10 252 yX10_coarsestOn ∈ TB := TB_in (List.mem_of_getElem? (i := 1250) (by decide +kernel)) rfl
theorem wd_1252 : Cond.instanceMethod yX10_coarsestOn ∈ TB := TB_in (List.mem_of_getElem? (i := 1252) (by decide +kernel)) rfl
theorem wd_1253 : Cond.code yX10_coarsestOn cX10_coarsestOn 3 (some .int) ∈ TB := TB_in (List.mem_of_getElem? (i := 1253) (by decide +kernel)) rfl
theorem wd_1255 : Cond.instanceMethod yX10_stays ∈ TB := TB_in (List.mem_of_getElem? (i := 1255) (by decide +kernel)) rfl
theorem wd_1256 : Cond.selects RX10 yX10_stays yX10_stays ∈ TB := TB_in (List.mem_of_getElem? (i := 1256) (by decide +kernel)) rfl
theorem wd_1257 : Cond.code yX10_stays cX10_stays 6 (some .int) ∈ TB := TB_in (List.mem_of_getElem? (i := 1257) (by decide +kernel)) rfl
theorem wd_1259 : Cond.instanceMethod yX10_count ∈ TB := TB_in (List.mem_of_getElem? (i := 1259) (by decide +kernel)) rfl
theorem wd_1260 : Cond.selects RX10 yX10_count yX10_count ∈ TB := TB_in (List.mem_of_getElem? (i := 1260) (by decide +kernel)) rfl
theorem wd_1261 : Cond.code yX10_count cX10_count 4 (some .int) ∈ TB := TB_in (List.mem_of_getElem? (i := 1261) (by decide +kernel)) rfl
theorem wd_1262 : Cond.constantLong RX10 256 (11) ∈ TB := TB_in (List.mem_of_getElem? (i := 1262) (by decide +kernel)) rfl
theorem wd_1263 : Cond.constantLong RX10 258 (16) ∈ TB := TB_in (List.mem_of_getElem? (i := 1263) (by decide +kernel)) rfl
abbrev mi_SP_at : Mi := (true, yX9_at, cX9_at, 2, (some .int), 0, 0)
abbrev mi_SP_put : Mi := (true, yX9_put, cX9_put, 3, none, 0, 0)
abbrev mi_SP_refuse : Mi := (true, yX9_refuse, cX9_refuse, 2, (some .int), 1, 22)
abbrev mi_Td_drain : Mi := (true, yX6_drain, cX6_drain, 1, none, 0, 0)
abbrev mi_SP_wipe : Mi := (true, yX9_wipe, cX9_wipe, 2, none, 0, 0)
abbrev mi_To_settle : Mi := (true, yX7_settle, cX7_settle, 2, none, 1, 21)
abbrev mi_SP_persons : Mi := (true, yX9_persons, cX9_persons, 3, (some .int), 2, 43)
abbrev mi_To_lives : Mi := (true, yX7_lives, cX7_lives, 2, (some .boolean), 0, 0)
abbrev mi_SP_mark : Mi := (true, yX9_mark, cX9_mark, 4, (some .int), 2, 43)
abbrev mi_SP_year : Mi := (true, yX9_year, cX9_year, 3, (some .int), 2, 43)
abbrev mi_Ta_append : Mi := (true, yX5_append, cX5_append, 2, none, 1, 22)
abbrev mi_SP_feed : Mi := (true, yX9_feed, cX9_feed, 5, (some .int), 2, 43)
abbrev mi_Td_field : Mi := (true, yX6_field, cX6_field, 3, (some .int), 1, 21)
abbrev mi_Ta_drafted : Mi := (true, yX5_drafted, cX5_drafted, 2, (some .int), 2, 43)
abbrev mi_Ta_here : Mi := (true, yX5_here, cX5_here, 1, (some .int), 1, 21)
abbrev mi_Td_draft : Mi := (true, yX6_draft, cX6_draft, 3, none, 1, 22)
abbrev mi_Ta_readInto : Mi := (true, yX5_readInto, cX5_readInto, 6, (some .boolean), 2, 44)
abbrev mi_Ta_readPerson : Mi := (true, yX5_readPerson, cX5_readPerson, 2, (some .boolean), 3, 69)
abbrev mi_Ta_skip : Mi := (true, yX5_skip, cX5_skip, 2, (some .boolean), 2, 41)
abbrev mi_Ta_readStrength : Mi := (true, yX5_readStrength, cX5_readStrength, 1, (some .boolean), 3, 69)
abbrev mi_Ta_readYear : Mi := (true, yX5_readYear, cX5_readYear, 5, (some .boolean), 2, 44)
abbrev mi_Ta_readYears : Mi := (true, yX5_readYears, cX5_readYears, 1, (some .boolean), 3, 68)
abbrev mi_Ta_readTie : Mi := (true, yX5_readTie, cX5_readTie, 1, (some .boolean), 4, 90)
abbrev mi_Td_endDraft : Mi := (true, yX6_endDraft, cX6_endDraft, 1, none, 0, 0)
abbrev mi_Ta_readAll : Mi := (true, yX5_readAll, cX5_readAll, 4, (some .boolean), 5, 110)
abbrev mi_Td_takeAll : Mi := (true, yX6_takeAll, cX6_takeAll, 4, none, 2, 44)
abbrev mi_SP_ties : Mi := (true, yX9_ties, cX9_ties, 2, (some .int), 6, 133)
abbrev mi_Td_drop : Mi := (true, yX6_drop, cX6_drop, 3, none, 1, 22)
abbrev mi_SP_untie : Mi := (true, yX9_untie, cX9_untie, 2, (some .int), 2, 44)
abbrev mi_SP_isKind : Mi := (true, yX9_isKind, cX9_isKind, 1, (some .boolean), 0, 0)
abbrev mi_SP_cell : Mi := (true, yX9_cell, cX9_cell, 3, (some .int), 0, 0)
abbrev mi_Td_draw : Mi := (true, yX6_draw, cX6_draw, 5, none, 2, 43)
abbrev mi_SP_lookAt : Mi := (true, yX9_lookAt, cX9_lookAt, 2, none, 3, 67)
abbrev mi_To_strength : Mi := (true, yX7_strength, cX7_strength, 5, (some .int), 0, 0)
abbrev mi_SP_tie : Mi := (true, yX9_tie, cX9_tie, 4, (some .int), 4, 88)
abbrev mi_To_tied : Mi := (true, yX7_tied, cX7_tied, 4, (some .boolean), 1, 24)
abbrev mi_To_tiesOf : Mi := (true, yX7_tiesOf, cX7_tiesOf, 6, (some .int), 2, 47)
abbrev mi_SP_degree : Mi := (true, yX9_degree, cX9_degree, 4, (some .int), 4, 88)
abbrev mi_Pa_of : Mi := (true, yX3_of, cX3_of, 2, (some .int), 1, 21)
abbrev mi_JM_max : Mi := (true, yJ9_max_7cf53, cJ9_max_7cf53, 2, (some .int), 0, 0)
abbrev mi_Pa_readNumber : Mi := (true, yX3_readNumber, cX3_readNumber, 5, (some .boolean), 2, 42)
abbrev mi_SP_parting : Mi := (true, yX9_parting, cX9_parting, 2, (some .int), 3, 66)
abbrev mi_SP_isSameness : Mi := (true, yX9_isSameness, cX9_isSameness, 1, (some .boolean), 0, 0)
abbrev mi_Pa_together : Mi := (true, yX3_together, cX3_together, 3, (some .boolean), 2, 42)
abbrev mi_Sa_sameView : Mi := (true, yX4_sameView, cX4_sameView, 4, (some .boolean), 1, 21)
abbrev mi_Sa_match : Mi := (true, yX4_match, cX4_match, 3, (some .boolean), 0, 0)
abbrev mi_Sa_swappable : Mi := (true, yX4_swappable, cX4_swappable, 7, (some .boolean), 1, 24)
abbrev mi_To_sameMark : Mi := (true, yX7_sameMark, cX7_sameMark, 3, (some .boolean), 1, 21)
abbrev mi_Sa_alike : Mi := (true, yX4_alike, cX4_alike, 5, (some .boolean), 2, 50)
abbrev mi_Sa_note : Mi := (true, yX4_note, cX4_note, 5, none, 1, 22)
abbrev mi_Sa_look : Mi := (true, yX4_look, cX4_look, 7, none, 2, 47)
abbrev mi_Sa_firstUnlike : Mi := (true, yX4_firstUnlike, cX4_firstUnlike, 6, (some .int), 3, 74)
abbrev mi_SP_judge : Mi := (true, yX9_judge, cX9_judge, 3, (some .int), 4, 99)
abbrev mi_Pa_number : Mi := (true, yX3_number, cX3_number, 3, (some .int), 2, 42)
abbrev mi_Pa_copy : Mi := (true, yX3_copy, cX3_copy, 3, none, 2, 42)
abbrev mi_Pa_begin : Mi := (true, yX3_begin, cX3_begin, 2, none, 0, 0)
abbrev mi_Pa_place : Mi := (true, yX3_place, cX3_place, 3, none, 2, 42)
abbrev mi_Sa_split : Mi := (true, yX4_split, cX4_split, 8, none, 3, 74)
abbrev mi_Sa_refine : Mi := (true, yX4_refine, cX4_refine, 6, none, 4, 101)
abbrev mi_SP_coarsest : Mi := (true, yX9_coarsest, cX9_coarsest, 3, (some .int), 5, 126)
abbrev mi_Tu_begin : Mi := (true, yX8_begin, cX8_begin, 1, none, 1, 22)
abbrev mi_SP_holds : Mi := (true, yX9_holds, cX9_holds, 2, (some .boolean), 0, 0)
abbrev mi_Tu_keeps : Mi := (true, yX8_keeps, cX8_keeps, 6, (some .boolean), 1, 24)
abbrev mi_Tu_keepsAhead : Mi := (true, yX8_keepsAhead, cX8_keepsAhead, 4, (some .boolean), 2, 49)
abbrev mi_Tu_lift : Mi := (true, yX8_lift, cX8_lift, 2, (some .int), 1, 21)
abbrev mi_Tu_nextKeeping : Mi := (true, yX8_nextKeeping, cX8_nextKeeping, 7, (some .int), 3, 72)
abbrev mi_Tu_step : Mi := (true, yX8_step, cX8_step, 2, none, 1, 22)
abbrev mi_Tu_brings : Mi := (true, yX8_brings, cX8_brings, 6, (some .boolean), 4, 98)
abbrev mi_Tu_howMany : Mi := (true, yX8_howMany, cX8_howMany, 6, (some .int), 5, 123)
abbrev mi_SP_renamings : Mi := (true, yX9_renamings, cX9_renamings, 1, (some .int), 6, 148)
abbrev mi_SP_moves : Mi := (true, yX9_moves, cX9_moves, 3, (some .int), 5, 123)
abbrev mi_Tu_partByOrbit : Mi := (true, yX8_partByOrbit, cX8_partByOrbit, 6, none, 5, 123)
abbrev mi_SP_orbits : Mi := (true, yX9_orbits, cX9_orbits, 1, (some .int), 6, 148)
abbrev mi_Tu_behind : Mi := (true, yX8_behind, cX8_behind, 3, (some .long), 0, 0)
abbrev mi_Tu_bestAsNumber : Mi := (true, yX8_bestAsNumber, cX8_bestAsNumber, 7, (some .int), 1, 24)
abbrev mi_Tu_findTwins : Mi := (true, yX8_findTwins, cX8_findTwins, 5, none, 2, 50)
abbrev mi_To_tiesOfKind : Mi := (true, yX7_tiesOfKind, cX7_tiesOfKind, 4, (some .int), 3, 72)
abbrev mi_Tu_firstKind : Mi := (true, yX8_firstKind, cX8_firstKind, 2, (some .int), 4, 95)
abbrev mi_Tu_keepBest : Mi := (true, yX8_keepBest, cX8_keepBest, 3, none, 1, 22)
abbrev mi_Tu_lessThanBest : Mi := (true, yX8_lessThanBest, cX8_lessThanBest, 8, (some .boolean), 1, 24)
abbrev mi_Tu_behindBest : Mi := (true, yX8_behindBest, cX8_behindBest, 7, (some .boolean), 1, 24)
abbrev mi_Tu_hasLeastMark : Mi := (true, yX8_hasLeastMark, cX8_hasLeastMark, 4, (some .boolean), 1, 21)
abbrev mi_Tu_nextInRow : Mi := (true, yX8_nextInRow, cX8_nextInRow, 6, (some .int), 2, 50)
abbrev mi_Tu_leastRow : Mi := (true, yX8_leastRow, cX8_leastRow, 5, (some .int), 5, 116)
abbrev mi_SP_form : Mi := (true, yX9_form, cX9_form, 1, (some .int), 6, 140)
abbrev mi_Pa_allInOne : Mi := (true, yX3_allInOne, cX3_allInOne, 2, none, 1, 21)
abbrev mi_SP_addTo : Mi := (true, yX9_addTo, cX9_addTo, 3, none, 1, 22)
abbrev mi_Pa_topAhead : Mi := (true, yX3_topAhead, cX3_topAhead, 4, (some .int), 2, 42)
abbrev mi_Pa_forward : Mi := (true, yX3_forward, cX3_forward, 3, (some .boolean), 3, 65)
abbrev mi_SP_next : Mi := (true, yX9_next, cX9_next, 6, (some .int), 4, 99)
abbrev mi_SP_all : Mi := (true, yX9_all, cX9_all, 5, (some .int), 4, 99)
abbrev mi_Pa_cross : Mi := (true, yX3_cross, cX3_cross, 6, none, 3, 64)
abbrev mi_Pa_copyRenumbered : Mi := (true, yX3_copyRenumbered, cX3_copyRenumbered, 2, none, 4, 89)
abbrev mi_Pa_rename : Mi := (true, yX3_rename, cX3_rename, 4, none, 2, 42)
abbrev mi_Pa_mergeBy : Mi := (true, yX3_mergeBy, cX3_mergeBy, 4, none, 3, 65)
abbrev mi_SP_join : Mi := (true, yX9_join, cX9_join, 3, (some .int), 5, 110)
abbrev mi_SP_meet : Mi := (true, yX9_meet, cX9_meet, 3, (some .int), 4, 89)
abbrev mi_Bl_tiesTo : Mi := (true, yX0_tiesTo, cX0_tiesTo, 8, (some .int), 2, 47)
abbrev mi_Pa_sizeOf : Mi := (true, yX3_sizeOf, cX3_sizeOf, 4, (some .int), 2, 42)
abbrev mi_JM_min : Mi := (true, yJ9_min_7cf53, cJ9_min_7cf53, 2, (some .int), 0, 0)
abbrev mi_Bl_image : Mi := (true, yX0_image, cX0_image, 11, (some .int), 3, 74)
abbrev mi_Pa_has : Mi := (true, yX3_has, cX3_has, 2, (some .boolean), 0, 0)
abbrev mi_SP_picture : Mi := (true, yX9_picture, cX9_picture, 5, (some .int), 4, 104)
abbrev mi_Bl_misfit : Mi := (true, yX0_misfit, cX0_misfit, 7, (some .int), 1, 22)
abbrev mi_Bl_tallyTies : Mi := (true, yX0_tallyTies, cX0_tallyTies, 6, none, 2, 47)
abbrev mi_Bl_misfits : Mi := (true, yX0_misfits, cX0_misfits, 7, (some .int), 3, 72)
abbrev mi_SP_wrong : Mi := (true, yX9_wrong, cX9_wrong, 2, (some .int), 4, 98)
abbrev mi_Bl_bestWith : Mi := (true, yX0_bestWith, cX0_bestWith, 11, (some .int), 4, 98)
abbrev mi_SP_least : Mi := (true, yX9_least, cX9_least, 3, (some .int), 5, 128)
abbrev mi_Bl_gainOf : Mi := (true, yX0_gainOf, cX0_gainOf, 8, (some .int), 2, 48)
abbrev mi_Bl_worstTie : Mi := (true, yX0_worstTie, cX0_worstTie, 10, (some .int), 3, 75)
abbrev mi_SP_spoils : Mi := (true, yX9_spoils, cX9_spoils, 3, (some .int), 4, 104)
abbrev mi_Nc_append : Mi := (true, yX2_append, cX2_append, 4, none, 1, 22)
abbrev mi_SP_newcomer : Mi := (true, yX9_newcomer, cX9_newcomer, 4, (some .int), 2, 45)
abbrev mi_Nc_hasSuchTie : Mi := (true, yX2_hasSuchTie, cX2_hasSuchTie, 10, (some .boolean), 2, 47)
abbrev mi_Nc_suitingParts : Mi := (true, yX2_suitingParts, cX2_suitingParts, 7, (some .int), 3, 76)
abbrev mi_SP_fits : Mi := (true, yX9_fits, cX9_fits, 2, (some .int), 4, 102)
abbrev mi_SP_gone : Mi := (true, yX9_gone, cX9_gone, 2, (some .int), 0, 0)
abbrev mi_SP_partOfYear : Mi := (true, yX9_partOfYear, cX9_partOfYear, 4, none, 5, 126)
abbrev mi_Ma_bestFor : Mi := (true, yX1_bestFor, cX1_bestFor, 6, (some .int), 1, 21)
abbrev mi_Ma_keepers : Mi := (true, yX1_keepers, cX1_keepers, 6, (some .int), 2, 46)
abbrev mi_SP_shift : Mi := (true, yX9_shift, cX9_shift, 4, (some .int), 6, 149)
abbrev mi_Td_nextChange : Mi := (true, yX6_nextChange, cX6_nextChange, 4, (some .int), 2, 43)
abbrev mi_SP_stays : Mi := (true, yX9_stays, cX9_stays, 6, (some .int), 6, 149)
abbrev mi_To_tiesInAll : Mi := (true, yX7_tiesInAll, cX7_tiesInAll, 3, (some .int), 4, 95)
abbrev mi_SP_count : Mi := (true, yX9_count, cX9_count, 2, (some .int), 5, 117)
abbrev mi_MD_no : Mi := (true, yX10_no, cX10_no, 2, (some .int), 0, 0)
abbrev mi_MD_less : Mi := (true, yX10_less, cX10_less, 2, (some .int), 0, 0)
abbrev mi_MD_isIn : Mi := (true, yX10_isIn, cX10_isIn, 6, (some .boolean), 0, 0)
abbrev mi_MD_out : Mi := (true, yX10_out, cX10_out, 6, (some .int), 0, 0)
abbrev mi_MD_isPerson : Mi := (true, yX10_isPerson, cX10_isPerson, 2, (some .boolean), 0, 0)
abbrev mi_MD_isKind : Mi := (true, yX10_isKind, cX10_isKind, 1, (some .boolean), 0, 0)
abbrev mi_MD_isSameness : Mi := (true, yX10_isSameness, cX10_isSameness, 1, (some .boolean), 0, 0)
abbrev mi_MD_persons : Mi := (true, yX10_persons, cX10_persons, 5, (some .int), 1, 25)
abbrev mi_MD_mark : Mi := (true, yX10_mark, cX10_mark, 5, (some .int), 1, 25)
abbrev mi_MD_year : Mi := (true, yX10_year, cX10_year, 4, (some .int), 1, 25)
abbrev mi_MD_feed : Mi := (true, yX10_feed, cX10_feed, 6, (some .int), 1, 25)
abbrev mi_MD_sign : Mi := (true, yX10_sign, cX10_sign, 1, (some .int), 0, 0)
abbrev mi_MD_takes : Mi := (true, yX10_takes, cX10_takes, 2, (some .boolean), 1, 20)
abbrev mi_MD_takesIn : Mi := (true, yX10_takesIn, cX10_takesIn, 5, (some .int), 1, 25)
abbrev mi_MD_years : Mi := (true, yX10_years, cX10_years, 5, (some .int), 2, 49)
abbrev mi_MD_oneTie : Mi := (true, yX10_oneTie, cX10_oneTie, 4, (some .boolean), 3, 73)
abbrev mi_MD_reads : Mi := (true, yX10_reads, cX10_reads, 1, (some .boolean), 4, 96)
abbrev mi_MD_ties : Mi := (true, yX10_ties, cX10_ties, 3, (some .int), 5, 116)
abbrev mi_MD_untie : Mi := (true, yX10_untie, cX10_untie, 3, (some .int), 1, 25)
abbrev mi_MD_findTies : Mi := (true, yX10_findTies, cX10_findTies, 3, none, 0, 0)
abbrev mi_MD_strong : Mi := (true, yX10_strong, cX10_strong, 4, (some .int), 0, 0)
abbrev mi_MD_has : Mi := (true, yX10_has, cX10_has, 4, (some .boolean), 1, 23)
abbrev mi_MD_tie : Mi := (true, yX10_tie, cX10_tie, 4, (some .int), 1, 23)
abbrev mi_MD_degree : Mi := (true, yX10_degree, cX10_degree, 6, (some .int), 2, 46)
abbrev mi_MD_opens : Mi := (true, yX10_opens, cX10_opens, 6, (some .int), 0, 0)
abbrev mi_MD_number : Mi := (true, yX10_number, cX10_number, 7, (some .int), 0, 0)
abbrev mi_MD_parting : Mi := (true, yX10_parting, cX10_parting, 3, (some .int), 1, 25)
abbrev mi_MD_led : Mi := (true, yX10_led, cX10_led, 7, (some .int), 2, 46)
abbrev mi_MD_seen : Mi := (true, yX10_seen, cX10_seen, 2, (some .int), 0, 0)
abbrev mi_MD_areLed : Mi := (true, yX10_areLed, cX10_areLed, 6, (some .boolean), 3, 72)
abbrev mi_MD_areTied : Mi := (true, yX10_areTied, cX10_areTied, 6, (some .boolean), 1, 23)
abbrev mi_MD_areSo : Mi := (true, yX10_areSo, cX10_areSo, 4, (some .boolean), 4, 97)
abbrev mi_MD_judged : Mi := (true, yX10_judged, cX10_judged, 4, (some .int), 5, 120)
abbrev mi_MD_judge : Mi := (true, yX10_judge, cX10_judge, 3, (some .int), 6, 143)
abbrev mi_MD_splits : Mi := (true, yX10_splits, cX10_splits, 5, (some .int), 5, 120)
abbrev mi_MD_coarsest : Mi := (true, yX10_coarsest, cX10_coarsest, 3, (some .int), 6, 144)
abbrev mi_MD_firstNames : Mi := (true, yX10_firstNames, cX10_firstNames, 2, none, 0, 0)
abbrev mi_MD_nextNames : Mi := (true, yX10_nextNames, cX10_nextNames, 7, (some .boolean), 0, 0)
abbrev mi_MD_isTurn : Mi := (true, yX10_isTurn, cX10_isTurn, 4, (some .boolean), 1, 23)
abbrev mi_MD_findTurns : Mi := (true, yX10_findTurns, cX10_findTurns, 4, (some .int), 2, 46)
abbrev mi_MD_renamings : Mi := (true, yX10_renamings, cX10_renamings, 1, (some .int), 3, 69)
abbrev mi_MD_moves : Mi := (true, yX10_moves, cX10_moves, 3, (some .int), 3, 69)
abbrev mi_MD_orbits : Mi := (true, yX10_orbits, cX10_orbits, 3, (some .int), 3, 69)
abbrev mi_MD_form : Mi := (true, yX10_form, cX10_form, 8, (some .int), 1, 26)
abbrev mi_MD_firstParting : Mi := (true, yX10_firstParting, cX10_firstParting, 2, none, 0, 0)
abbrev mi_MD_nextParting : Mi := (true, yX10_nextParting, cX10_nextParting, 4, (some .boolean), 0, 0)
abbrev mi_MD_parts : Mi := (true, yX10_parts, cX10_parts, 3, (some .int), 0, 0)
abbrev mi_MD_next : Mi := (true, yX10_next, cX10_next, 5, (some .int), 6, 143)
abbrev mi_MD_all : Mi := (true, yX10_all, cX10_all, 4, (some .int), 6, 143)
abbrev mi_MD_join : Mi := (true, yX10_join, cX10_join, 6, (some .int), 1, 26)
abbrev mi_MD_meet : Mi := (true, yX10_meet, cX10_meet, 4, (some .int), 1, 26)
abbrev mi_MD_picture : Mi := (true, yX10_picture, cX10_picture, 13, (some .int), 2, 46)
abbrev mi_MD_wrongOf : Mi := (true, yX10_wrongOf, cX10_wrongOf, 9, (some .int), 2, 46)
abbrev mi_MD_wrong : Mi := (true, yX10_wrong, cX10_wrong, 2, (some .int), 3, 74)
abbrev mi_MD_least : Mi := (true, yX10_least, cX10_least, 9, (some .int), 3, 74)
abbrev mi_MD_spoils : Mi := (true, yX10_spoils, cX10_spoils, 12, (some .int), 3, 74)
abbrev mi_MD_newcomer : Mi := (true, yX10_newcomer, cX10_newcomer, 4, (some .int), 1, 21)
abbrev mi_MD_isFit : Mi := (true, yX10_isFit, cX10_isFit, 5, (some .boolean), 2, 46)
abbrev mi_MD_fits : Mi := (true, yX10_fits, cX10_fits, 7, (some .int), 3, 70)
abbrev mi_MD_gone : Mi := (true, yX10_gone, cX10_gone, 2, (some .int), 0, 0)
abbrev mi_MD_coarsestOn : Mi := (true, yX10_coarsestOn, cX10_coarsestOn, 3, (some .int), 6, 144)
abbrev mi_MD_shift : Mi := (true, yX10_shift, cX10_shift, 11, (some .int), 7, 166)
abbrev mi_MD_stays : Mi := (true, yX10_stays, cX10_stays, 6, (some .int), 7, 166)
abbrev mi_MD_count : Mi := (true, yX10_count, cX10_count, 4, (some .int), 1, 25)
theorem cal_SP_at : CalS mi_SP_at 2 := ⟨⟨wd_357, wd_113, ⟨by decide +kernel, by decide +kernel⟩, by decide +kernel⟩, wd_356⟩
theorem cal_SP_put : CalS mi_SP_put 3 := ⟨⟨wd_360, wd_113, ⟨by decide +kernel, by decide +kernel⟩, by decide +kernel⟩, wd_359⟩
theorem cal_SP_refuse : CalV mi_SP_refuse 1 := ⟨⟨wd_354, wd_113, ⟨by decide +kernel, by decide +kernel⟩, by decide +kernel⟩, wd_353, wd_1⟩
theorem cal_Td_drain : CalV mi_Td_drain 0 := ⟨⟨wd_364, wd_115, ⟨by decide +kernel, by decide +kernel⟩, by decide +kernel⟩, wd_363, wd_2⟩
theorem cal_SP_wipe : CalS mi_SP_wipe 1 := ⟨⟨wd_306, wd_113, ⟨by decide +kernel, by decide +kernel⟩, by decide +kernel⟩, wd_305⟩
theorem cal_To_settle : CalV mi_To_settle 1 := ⟨⟨wd_303, wd_114, ⟨by decide +kernel, by decide +kernel⟩, by decide +kernel⟩, wd_302, wd_0⟩
theorem cal_SP_persons : CalV mi_SP_persons 1 := ⟨⟨wd_350, wd_113, ⟨by decide +kernel, by decide +kernel⟩, by decide +kernel⟩, wd_348, wd_349⟩
theorem cal_To_lives : CalV mi_To_lives 1 := ⟨⟨wd_372, wd_114, ⟨by decide +kernel, by decide +kernel⟩, by decide +kernel⟩, wd_371, wd_3⟩
theorem cal_SP_mark : CalV mi_SP_mark 2 := ⟨⟨wd_368, wd_113, ⟨by decide +kernel, by decide +kernel⟩, by decide +kernel⟩, wd_366, wd_367⟩
theorem cal_SP_year : CalV mi_SP_year 1 := ⟨⟨wd_376, wd_113, ⟨by decide +kernel, by decide +kernel⟩, by decide +kernel⟩, wd_374, wd_375⟩
theorem cal_Ta_append : CalV mi_Ta_append 1 := ⟨⟨wd_384, wd_116, ⟨by decide +kernel, by decide +kernel⟩, by decide +kernel⟩, wd_383, wd_4⟩
theorem cal_SP_feed : CalV mi_SP_feed 2 := ⟨⟨wd_380, wd_113, ⟨by decide +kernel, by decide +kernel⟩, by decide +kernel⟩, wd_378, wd_379⟩
theorem cal_Td_field : CalV mi_Td_field 2 := ⟨⟨wd_428, wd_115, ⟨by decide +kernel, by decide +kernel⟩, by decide +kernel⟩, wd_427, wd_13⟩
theorem cal_Ta_drafted : CalV mi_Ta_drafted 1 := ⟨⟨wd_424, wd_116, ⟨by decide +kernel, by decide +kernel⟩, by decide +kernel⟩, wd_423, wd_12⟩
theorem cal_Ta_here : CalV mi_Ta_here 0 := ⟨⟨wd_415, wd_116, ⟨by decide +kernel, by decide +kernel⟩, by decide +kernel⟩, wd_414, wd_10⟩
theorem cal_Td_draft : CalV mi_Td_draft 2 := ⟨⟨wd_402, wd_115, ⟨by decide +kernel, by decide +kernel⟩, by decide +kernel⟩, wd_401, wd_7⟩
theorem cal_Ta_readInto : CalV mi_Ta_readInto 4 := ⟨⟨wd_411, wd_116, ⟨by decide +kernel, by decide +kernel⟩, by decide +kernel⟩, wd_410, wd_9⟩
theorem cal_Ta_readPerson : CalV mi_Ta_readPerson 1 := ⟨⟨wd_407, wd_116, ⟨by decide +kernel, by decide +kernel⟩, by decide +kernel⟩, wd_406, wd_8⟩
theorem cal_Ta_skip : CalV mi_Ta_skip 1 := ⟨⟨wd_420, wd_116, ⟨by decide +kernel, by decide +kernel⟩, by decide +kernel⟩, wd_419, wd_11⟩
theorem cal_Ta_readStrength : CalV mi_Ta_readStrength 0 := ⟨⟨wd_433, wd_116, ⟨by decide +kernel, by decide +kernel⟩, by decide +kernel⟩, wd_432, wd_14⟩
theorem cal_Ta_readYear : CalV mi_Ta_readYear 2 := ⟨⟨wd_441, wd_116, ⟨by decide +kernel, by decide +kernel⟩, by decide +kernel⟩, wd_440, wd_16⟩
theorem cal_Ta_readYears : CalV mi_Ta_readYears 0 := ⟨⟨wd_437, wd_116, ⟨by decide +kernel, by decide +kernel⟩, by decide +kernel⟩, wd_436, wd_15⟩
theorem cal_Ta_readTie : CalV mi_Ta_readTie 0 := ⟨⟨wd_398, wd_116, ⟨by decide +kernel, by decide +kernel⟩, by decide +kernel⟩, wd_397, wd_6⟩
theorem cal_Td_endDraft : CalV mi_Td_endDraft 0 := ⟨⟨wd_445, wd_115, ⟨by decide +kernel, by decide +kernel⟩, by decide +kernel⟩, wd_444, wd_17⟩
theorem cal_Ta_readAll : CalV mi_Ta_readAll 1 := ⟨⟨wd_393, wd_116, ⟨by decide +kernel, by decide +kernel⟩, by decide +kernel⟩, wd_392, wd_5⟩
theorem cal_Td_takeAll : CalV mi_Td_takeAll 1 := ⟨⟨wd_449, wd_115, ⟨by decide +kernel, by decide +kernel⟩, by decide +kernel⟩, wd_448, wd_18⟩
theorem cal_SP_ties : CalV mi_SP_ties 0 := ⟨⟨wd_389, wd_113, ⟨by decide +kernel, by decide +kernel⟩, by decide +kernel⟩, wd_387, wd_388⟩
theorem cal_Td_drop : CalV mi_Td_drop 1 := ⟨⟨wd_460, wd_115, ⟨by decide +kernel, by decide +kernel⟩, by decide +kernel⟩, wd_459, wd_19⟩
theorem cal_SP_untie : CalV mi_SP_untie 1 := ⟨⟨wd_456, wd_113, ⟨by decide +kernel, by decide +kernel⟩, by decide +kernel⟩, wd_454, wd_455⟩
theorem cal_SP_isKind : CalS mi_SP_isKind 1 := ⟨⟨wd_467, wd_113, ⟨by decide +kernel, by decide +kernel⟩, by decide +kernel⟩, wd_466⟩
theorem cal_SP_cell : CalS mi_SP_cell 3 := ⟨⟨wd_479, wd_113, ⟨by decide +kernel, by decide +kernel⟩, by decide +kernel⟩, wd_478⟩
theorem cal_Td_draw : CalV mi_Td_draw 2 := ⟨⟨wd_475, wd_115, ⟨by decide +kernel, by decide +kernel⟩, by decide +kernel⟩, wd_474, wd_21⟩
theorem cal_SP_lookAt : CalV mi_SP_lookAt 1 := ⟨⟨wd_471, wd_113, ⟨by decide +kernel, by decide +kernel⟩, by decide +kernel⟩, wd_470, wd_20⟩
theorem cal_To_strength : CalV mi_To_strength 3 := ⟨⟨wd_483, wd_114, ⟨by decide +kernel, by decide +kernel⟩, by decide +kernel⟩, wd_482, wd_22⟩
theorem cal_SP_tie : CalV mi_SP_tie 3 := ⟨⟨wd_464, wd_113, ⟨by decide +kernel, by decide +kernel⟩, by decide +kernel⟩, wd_462, wd_463⟩
theorem cal_To_tied : CalV mi_To_tied 3 := ⟨⟨wd_495, wd_114, ⟨by decide +kernel, by decide +kernel⟩, by decide +kernel⟩, wd_494, wd_24⟩
theorem cal_To_tiesOf : CalV mi_To_tiesOf 3 := ⟨⟨wd_491, wd_114, ⟨by decide +kernel, by decide +kernel⟩, by decide +kernel⟩, wd_490, wd_23⟩
theorem cal_SP_degree : CalV mi_SP_degree 3 := ⟨⟨wd_487, wd_113, ⟨by decide +kernel, by decide +kernel⟩, by decide +kernel⟩, wd_485, wd_486⟩
theorem cal_Pa_of : CalV mi_Pa_of 1 := ⟨⟨wd_509, wd_122, ⟨by decide +kernel, by decide +kernel⟩, by decide +kernel⟩, wd_508, wd_26⟩
theorem cal_JM_max : CalS mi_JM_max 2 := ⟨⟨wd_513, wd_124, ⟨by decide +kernel, by decide +kernel⟩, by decide +kernel⟩, wd_512⟩
theorem cal_Pa_readNumber : CalV mi_Pa_readNumber 2 := ⟨⟨wd_504, wd_122, ⟨by decide +kernel, by decide +kernel⟩, by decide +kernel⟩, wd_503, wd_25⟩
theorem cal_SP_parting : CalV mi_SP_parting 1 := ⟨⟨wd_500, wd_113, ⟨by decide +kernel, by decide +kernel⟩, by decide +kernel⟩, wd_498, wd_499⟩
theorem cal_SP_isSameness : CalS mi_SP_isSameness 1 := ⟨⟨wd_520, wd_113, ⟨by decide +kernel, by decide +kernel⟩, by decide +kernel⟩, wd_519⟩
theorem cal_Pa_together : CalV mi_Pa_together 2 := ⟨⟨wd_541, wd_122, ⟨by decide +kernel, by decide +kernel⟩, by decide +kernel⟩, wd_540, wd_30⟩
theorem cal_Sa_sameView : CalV mi_Sa_sameView 2 := ⟨⟨wd_561, wd_118, ⟨by decide +kernel, by decide +kernel⟩, by decide +kernel⟩, wd_560, wd_33⟩
theorem cal_Sa_match : CalS mi_Sa_match 3 := ⟨⟨wd_557, wd_118, ⟨by decide +kernel, by decide +kernel⟩, by decide +kernel⟩, wd_556⟩
theorem cal_Sa_swappable : CalS mi_Sa_swappable 4 := ⟨⟨wd_553, wd_118, ⟨by decide +kernel, by decide +kernel⟩, by decide +kernel⟩, wd_552⟩
theorem cal_To_sameMark : CalV mi_To_sameMark 2 := ⟨⟨wd_549, wd_114, ⟨by decide +kernel, by decide +kernel⟩, by decide +kernel⟩, wd_548, wd_32⟩
theorem cal_Sa_alike : CalV mi_Sa_alike 4 := ⟨⟨wd_545, wd_118, ⟨by decide +kernel, by decide +kernel⟩, by decide +kernel⟩, wd_544, wd_31⟩
theorem cal_Sa_note : CalV mi_Sa_note 3 := ⟨⟨wd_535, wd_118, ⟨by decide +kernel, by decide +kernel⟩, by decide +kernel⟩, wd_534, wd_29⟩
theorem cal_Sa_look : CalV mi_Sa_look 3 := ⟨⟨wd_528, wd_118, ⟨by decide +kernel, by decide +kernel⟩, by decide +kernel⟩, wd_527, wd_28⟩
theorem cal_Sa_firstUnlike : CalV mi_Sa_firstUnlike 3 := ⟨⟨wd_524, wd_118, ⟨by decide +kernel, by decide +kernel⟩, by decide +kernel⟩, wd_523, wd_27⟩
theorem cal_SP_judge : CalV mi_SP_judge 2 := ⟨⟨wd_517, wd_113, ⟨by decide +kernel, by decide +kernel⟩, by decide +kernel⟩, wd_515, wd_516⟩
theorem cal_Pa_number : CalV mi_Pa_number 0 := ⟨⟨wd_589, wd_122, ⟨by decide +kernel, by decide +kernel⟩, by decide +kernel⟩, wd_588, wd_39⟩
theorem cal_Pa_copy : CalV mi_Pa_copy 1 := ⟨⟨wd_585, wd_122, ⟨by decide +kernel, by decide +kernel⟩, by decide +kernel⟩, wd_584, wd_38⟩
theorem cal_Pa_begin : CalV mi_Pa_begin 1 := ⟨⟨wd_577, wd_122, ⟨by decide +kernel, by decide +kernel⟩, by decide +kernel⟩, wd_576, wd_36⟩
theorem cal_Pa_place : CalV mi_Pa_place 2 := ⟨⟨wd_581, wd_122, ⟨by decide +kernel, by decide +kernel⟩, by decide +kernel⟩, wd_580, wd_37⟩
theorem cal_Sa_split : CalV mi_Sa_split 4 := ⟨⟨wd_573, wd_118, ⟨by decide +kernel, by decide +kernel⟩, by decide +kernel⟩, wd_572, wd_35⟩
theorem cal_Sa_refine : CalV mi_Sa_refine 4 := ⟨⟨wd_569, wd_118, ⟨by decide +kernel, by decide +kernel⟩, by decide +kernel⟩, wd_568, wd_34⟩
theorem cal_SP_coarsest : CalV mi_SP_coarsest 2 := ⟨⟨wd_565, wd_113, ⟨by decide +kernel, by decide +kernel⟩, by decide +kernel⟩, wd_563, wd_564⟩
theorem cal_Tu_begin : CalV mi_Tu_begin 0 := ⟨⟨wd_606, wd_119, ⟨by decide +kernel, by decide +kernel⟩, by decide +kernel⟩, wd_605, wd_42⟩
theorem cal_SP_holds : CalS mi_SP_holds 2 := ⟨⟨wd_620, wd_113, ⟨by decide +kernel, by decide +kernel⟩, by decide +kernel⟩, wd_619⟩
theorem cal_Tu_keeps : CalS mi_Tu_keeps 5 := ⟨⟨wd_627, wd_119, ⟨by decide +kernel, by decide +kernel⟩, by decide +kernel⟩, wd_626⟩
theorem cal_Tu_keepsAhead : CalV mi_Tu_keepsAhead 2 := ⟨⟨wd_624, wd_119, ⟨by decide +kernel, by decide +kernel⟩, by decide +kernel⟩, wd_623, wd_45⟩
theorem cal_Tu_lift : CalV mi_Tu_lift 0 := ⟨⟨wd_616, wd_119, ⟨by decide +kernel, by decide +kernel⟩, by decide +kernel⟩, wd_615, wd_44⟩
theorem cal_Tu_nextKeeping : CalV mi_Tu_nextKeeping 4 := ⟨⟨wd_612, wd_119, ⟨by decide +kernel, by decide +kernel⟩, by decide +kernel⟩, wd_611, wd_43⟩
theorem cal_Tu_step : CalV mi_Tu_step 1 := ⟨⟨wd_632, wd_119, ⟨by decide +kernel, by decide +kernel⟩, by decide +kernel⟩, wd_631, wd_46⟩
theorem cal_Tu_brings : CalV mi_Tu_brings 4 := ⟨⟨wd_601, wd_119, ⟨by decide +kernel, by decide +kernel⟩, by decide +kernel⟩, wd_600, wd_41⟩
theorem cal_Tu_howMany : CalV mi_Tu_howMany 1 := ⟨⟨wd_597, wd_119, ⟨by decide +kernel, by decide +kernel⟩, by decide +kernel⟩, wd_596, wd_40⟩
theorem cal_SP_renamings : CalV mi_SP_renamings 0 := ⟨⟨wd_593, wd_113, ⟨by decide +kernel, by decide +kernel⟩, by decide +kernel⟩, wd_591, wd_592⟩
theorem cal_SP_moves : CalV mi_SP_moves 2 := ⟨⟨wd_636, wd_113, ⟨by decide +kernel, by decide +kernel⟩, by decide +kernel⟩, wd_634, wd_635⟩
theorem cal_Tu_partByOrbit : CalV mi_Tu_partByOrbit 2 := ⟨⟨wd_645, wd_119, ⟨by decide +kernel, by decide +kernel⟩, by decide +kernel⟩, wd_644, wd_47⟩
theorem cal_SP_orbits : CalV mi_SP_orbits 0 := ⟨⟨wd_641, wd_113, ⟨by decide +kernel, by decide +kernel⟩, by decide +kernel⟩, wd_639, wd_640⟩
theorem cal_Tu_behind : CalS mi_Tu_behind 2 := ⟨⟨wd_695, wd_119, ⟨by decide +kernel, by decide +kernel⟩, by decide +kernel⟩, wd_694⟩
theorem cal_Tu_bestAsNumber : CalV mi_Tu_bestAsNumber 1 := ⟨⟨wd_692, wd_119, ⟨by decide +kernel, by decide +kernel⟩, by decide +kernel⟩, wd_691, wd_56⟩
theorem cal_Tu_findTwins : CalV mi_Tu_findTwins 1 := ⟨⟨wd_659, wd_119, ⟨by decide +kernel, by decide +kernel⟩, by decide +kernel⟩, wd_658, wd_49⟩
theorem cal_To_tiesOfKind : CalV mi_To_tiesOfKind 1 := ⟨⟨wd_667, wd_114, ⟨by decide +kernel, by decide +kernel⟩, by decide +kernel⟩, wd_666, wd_50⟩
theorem cal_Tu_firstKind : CalS mi_Tu_firstKind 1 := ⟨⟨wd_663, wd_119, ⟨by decide +kernel, by decide +kernel⟩, by decide +kernel⟩, wd_662⟩
theorem cal_Tu_keepBest : CalV mi_Tu_keepBest 1 := ⟨⟨wd_688, wd_119, ⟨by decide +kernel, by decide +kernel⟩, by decide +kernel⟩, wd_687, wd_55⟩
theorem cal_Tu_lessThanBest : CalV mi_Tu_lessThanBest 2 := ⟨⟨wd_684, wd_119, ⟨by decide +kernel, by decide +kernel⟩, by decide +kernel⟩, wd_683, wd_54⟩
theorem cal_Tu_behindBest : CalV mi_Tu_behindBest 3 := ⟨⟨wd_680, wd_119, ⟨by decide +kernel, by decide +kernel⟩, by decide +kernel⟩, wd_679, wd_53⟩
theorem cal_Tu_hasLeastMark : CalV mi_Tu_hasLeastMark 2 := ⟨⟨wd_676, wd_119, ⟨by decide +kernel, by decide +kernel⟩, by decide +kernel⟩, wd_675, wd_52⟩
theorem cal_Tu_nextInRow : CalV mi_Tu_nextInRow 3 := ⟨⟨wd_672, wd_119, ⟨by decide +kernel, by decide +kernel⟩, by decide +kernel⟩, wd_671, wd_51⟩
theorem cal_Tu_leastRow : CalV mi_Tu_leastRow 1 := ⟨⟨wd_655, wd_119, ⟨by decide +kernel, by decide +kernel⟩, by decide +kernel⟩, wd_654, wd_48⟩
theorem cal_SP_form : CalV mi_SP_form 0 := ⟨⟨wd_651, wd_113, ⟨by decide +kernel, by decide +kernel⟩, by decide +kernel⟩, wd_649, wd_650⟩
theorem cal_Pa_allInOne : CalV mi_Pa_allInOne 1 := ⟨⟨wd_705, wd_122, ⟨by decide +kernel, by decide +kernel⟩, by decide +kernel⟩, wd_704, wd_57⟩
theorem cal_SP_addTo : CalS mi_SP_addTo 3 := ⟨⟨wd_717, wd_113, ⟨by decide +kernel, by decide +kernel⟩, by decide +kernel⟩, wd_716⟩
theorem cal_Pa_topAhead : CalV mi_Pa_topAhead 1 := ⟨⟨wd_714, wd_122, ⟨by decide +kernel, by decide +kernel⟩, by decide +kernel⟩, wd_713, wd_59⟩
theorem cal_Pa_forward : CalV mi_Pa_forward 0 := ⟨⟨wd_710, wd_122, ⟨by decide +kernel, by decide +kernel⟩, by decide +kernel⟩, wd_709, wd_58⟩
theorem cal_SP_next : CalV mi_SP_next 2 := ⟨⟨wd_701, wd_113, ⟨by decide +kernel, by decide +kernel⟩, by decide +kernel⟩, wd_699, wd_700⟩
theorem cal_SP_all : CalV mi_SP_all 1 := ⟨⟨wd_721, wd_113, ⟨by decide +kernel, by decide +kernel⟩, by decide +kernel⟩, wd_719, wd_720⟩
theorem cal_Pa_cross : CalV mi_Pa_cross 2 := ⟨⟨wd_742, wd_122, ⟨by decide +kernel, by decide +kernel⟩, by decide +kernel⟩, wd_741, wd_63⟩
theorem cal_Pa_copyRenumbered : CalV mi_Pa_copyRenumbered 1 := ⟨⟨wd_738, wd_122, ⟨by decide +kernel, by decide +kernel⟩, by decide +kernel⟩, wd_737, wd_62⟩
theorem cal_Pa_rename : CalV mi_Pa_rename 2 := ⟨⟨wd_734, wd_122, ⟨by decide +kernel, by decide +kernel⟩, by decide +kernel⟩, wd_733, wd_61⟩
theorem cal_Pa_mergeBy : CalV mi_Pa_mergeBy 1 := ⟨⟨wd_729, wd_122, ⟨by decide +kernel, by decide +kernel⟩, by decide +kernel⟩, wd_728, wd_60⟩
theorem cal_SP_join : CalV mi_SP_join 2 := ⟨⟨wd_725, wd_113, ⟨by decide +kernel, by decide +kernel⟩, by decide +kernel⟩, wd_723, wd_724⟩
theorem cal_SP_meet : CalV mi_SP_meet 2 := ⟨⟨wd_748, wd_113, ⟨by decide +kernel, by decide +kernel⟩, by decide +kernel⟩, wd_746, wd_747⟩
theorem cal_Bl_tiesTo : CalV mi_Bl_tiesTo 5 := ⟨⟨wd_770, wd_120, ⟨by decide +kernel, by decide +kernel⟩, by decide +kernel⟩, wd_769, wd_67⟩
theorem cal_Pa_sizeOf : CalV mi_Pa_sizeOf 1 := ⟨⟨wd_765, wd_122, ⟨by decide +kernel, by decide +kernel⟩, by decide +kernel⟩, wd_764, wd_66⟩
theorem cal_JM_min : CalS mi_JM_min 2 := ⟨⟨wd_774, wd_124, ⟨by decide +kernel, by decide +kernel⟩, by decide +kernel⟩, wd_773⟩
theorem cal_Bl_image : CalV mi_Bl_image 5 := ⟨⟨wd_761, wd_120, ⟨by decide +kernel, by decide +kernel⟩, by decide +kernel⟩, wd_760, wd_65⟩
theorem cal_Pa_has : CalV mi_Pa_has 1 := ⟨⟨wd_757, wd_122, ⟨by decide +kernel, by decide +kernel⟩, by decide +kernel⟩, wd_756, wd_64⟩
theorem cal_SP_picture : CalV mi_SP_picture 4 := ⟨⟨wd_753, wd_113, ⟨by decide +kernel, by decide +kernel⟩, by decide +kernel⟩, wd_751, wd_752⟩
theorem cal_Bl_misfit : CalV mi_Bl_misfit 4 := ⟨⟨wd_794, wd_120, ⟨by decide +kernel, by decide +kernel⟩, by decide +kernel⟩, wd_793, wd_70⟩
theorem cal_Bl_tallyTies : CalV mi_Bl_tallyTies 2 := ⟨⟨wd_787, wd_120, ⟨by decide +kernel, by decide +kernel⟩, by decide +kernel⟩, wd_786, wd_69⟩
theorem cal_Bl_misfits : CalV mi_Bl_misfits 2 := ⟨⟨wd_783, wd_120, ⟨by decide +kernel, by decide +kernel⟩, by decide +kernel⟩, wd_782, wd_68⟩
theorem cal_SP_wrong : CalV mi_SP_wrong 1 := ⟨⟨wd_779, wd_113, ⟨by decide +kernel, by decide +kernel⟩, by decide +kernel⟩, wd_777, wd_778⟩
theorem cal_Bl_bestWith : CalV mi_Bl_bestWith 4 := ⟨⟨wd_803, wd_120, ⟨by decide +kernel, by decide +kernel⟩, by decide +kernel⟩, wd_802, wd_71⟩
theorem cal_SP_least : CalV mi_SP_least 2 := ⟨⟨wd_799, wd_113, ⟨by decide +kernel, by decide +kernel⟩, by decide +kernel⟩, wd_797, wd_798⟩
theorem cal_Bl_gainOf : CalV mi_Bl_gainOf 5 := ⟨⟨wd_820, wd_120, ⟨by decide +kernel, by decide +kernel⟩, by decide +kernel⟩, wd_819, wd_73⟩
theorem cal_Bl_worstTie : CalV mi_Bl_worstTie 3 := ⟨⟨wd_816, wd_120, ⟨by decide +kernel, by decide +kernel⟩, by decide +kernel⟩, wd_815, wd_72⟩
theorem cal_SP_spoils : CalV mi_SP_spoils 2 := ⟨⟨wd_811, wd_113, ⟨by decide +kernel, by decide +kernel⟩, by decide +kernel⟩, wd_809, wd_810⟩
theorem cal_Nc_append : CalV mi_Nc_append 3 := ⟨⟨wd_828, wd_117, ⟨by decide +kernel, by decide +kernel⟩, by decide +kernel⟩, wd_827, wd_74⟩
theorem cal_SP_newcomer : CalV mi_SP_newcomer 3 := ⟨⟨wd_824, wd_113, ⟨by decide +kernel, by decide +kernel⟩, by decide +kernel⟩, wd_822, wd_823⟩
theorem cal_Nc_hasSuchTie : CalV mi_Nc_hasSuchTie 4 := ⟨⟨wd_841, wd_117, ⟨by decide +kernel, by decide +kernel⟩, by decide +kernel⟩, wd_840, wd_76⟩
theorem cal_Nc_suitingParts : CalV mi_Nc_suitingParts 2 := ⟨⟨wd_837, wd_117, ⟨by decide +kernel, by decide +kernel⟩, by decide +kernel⟩, wd_836, wd_75⟩
theorem cal_SP_fits : CalV mi_SP_fits 1 := ⟨⟨wd_833, wd_113, ⟨by decide +kernel, by decide +kernel⟩, by decide +kernel⟩, wd_831, wd_832⟩
theorem cal_SP_gone : CalV mi_SP_gone 0 := ⟨⟨wd_848, wd_113, ⟨by decide +kernel, by decide +kernel⟩, by decide +kernel⟩, wd_846, wd_847⟩
theorem cal_SP_partOfYear : CalV mi_SP_partOfYear 3 := ⟨⟨wd_856, wd_113, ⟨by decide +kernel, by decide +kernel⟩, by decide +kernel⟩, wd_855, wd_77⟩
theorem cal_Ma_bestFor : CalV mi_Ma_bestFor 3 := ⟨⟨wd_867, wd_121, ⟨by decide +kernel, by decide +kernel⟩, by decide +kernel⟩, wd_866, wd_79⟩
theorem cal_Ma_keepers : CalV mi_Ma_keepers 2 := ⟨⟨wd_860, wd_121, ⟨by decide +kernel, by decide +kernel⟩, by decide +kernel⟩, wd_859, wd_78⟩
theorem cal_SP_shift : CalV mi_SP_shift 3 := ⟨⟨wd_852, wd_113, ⟨by decide +kernel, by decide +kernel⟩, by decide +kernel⟩, wd_850, wd_851⟩
theorem cal_Td_nextChange : CalV mi_Td_nextChange 1 := ⟨⟨wd_879, wd_115, ⟨by decide +kernel, by decide +kernel⟩, by decide +kernel⟩, wd_878, wd_80⟩
theorem cal_SP_stays : CalV mi_SP_stays 2 := ⟨⟨wd_875, wd_113, ⟨by decide +kernel, by decide +kernel⟩, by decide +kernel⟩, wd_873, wd_874⟩
theorem cal_To_tiesInAll : CalV mi_To_tiesInAll 0 := ⟨⟨wd_888, wd_114, ⟨by decide +kernel, by decide +kernel⟩, by decide +kernel⟩, wd_887, wd_81⟩
theorem cal_SP_count : CalV mi_SP_count 1 := ⟨⟨wd_884, wd_113, ⟨by decide +kernel, by decide +kernel⟩, by decide +kernel⟩, wd_882, wd_883⟩
theorem cal_MD_no : CalV mi_MD_no 1 := ⟨⟨wd_1011, wd_123, ⟨by decide +kernel, by decide +kernel⟩, by decide +kernel⟩, wd_1010, wd_82⟩
theorem cal_MD_less : CalV mi_MD_less 1 := ⟨⟨wd_1228, wd_123, ⟨by decide +kernel, by decide +kernel⟩, by decide +kernel⟩, wd_1227, wd_109⟩
theorem cal_MD_isIn : CalS mi_MD_isIn 3 := ⟨⟨wd_1054, wd_123, ⟨by decide +kernel, by decide +kernel⟩, by decide +kernel⟩, wd_1053⟩
theorem cal_MD_out : CalS mi_MD_out 3 := ⟨⟨wd_1007, wd_123, ⟨by decide +kernel, by decide +kernel⟩, by decide +kernel⟩, wd_1006⟩
theorem cal_MD_isPerson : CalV mi_MD_isPerson 1 := ⟨⟨wd_1019, wd_123, ⟨by decide +kernel, by decide +kernel⟩, by decide +kernel⟩, wd_1018, wd_83⟩
theorem cal_MD_isKind : CalS mi_MD_isKind 1 := ⟨⟨wd_1075, wd_123, ⟨by decide +kernel, by decide +kernel⟩, by decide +kernel⟩, wd_1074⟩
theorem cal_MD_isSameness : CalS mi_MD_isSameness 1 := ⟨⟨wd_1106, wd_123, ⟨by decide +kernel, by decide +kernel⟩, by decide +kernel⟩, wd_1105⟩
theorem cal_MD_persons : CalV mi_MD_persons 1 := ⟨⟨wd_1003, wd_123, ⟨by decide +kernel, by decide +kernel⟩, by decide +kernel⟩, wd_1001, wd_1002⟩
theorem cal_MD_mark : CalV mi_MD_mark 2 := ⟨⟨wd_1015, wd_123, ⟨by decide +kernel, by decide +kernel⟩, by decide +kernel⟩, wd_1013, wd_1014⟩
theorem cal_MD_year : CalV mi_MD_year 1 := ⟨⟨wd_1024, wd_123, ⟨by decide +kernel, by decide +kernel⟩, by decide +kernel⟩, wd_1022, wd_1023⟩
theorem cal_MD_feed : CalV mi_MD_feed 2 := ⟨⟨wd_1029, wd_123, ⟨by decide +kernel, by decide +kernel⟩, by decide +kernel⟩, wd_1027, wd_1028⟩
theorem cal_MD_sign : CalV mi_MD_sign 0 := ⟨⟨wd_1051, wd_123, ⟨by decide +kernel, by decide +kernel⟩, by decide +kernel⟩, wd_1050, wd_87⟩
theorem cal_MD_takes : CalV mi_MD_takes 1 := ⟨⟨wd_1058, wd_123, ⟨by decide +kernel, by decide +kernel⟩, by decide +kernel⟩, wd_1057, wd_88⟩
theorem cal_MD_takesIn : CalV mi_MD_takesIn 3 := ⟨⟨wd_1047, wd_123, ⟨by decide +kernel, by decide +kernel⟩, by decide +kernel⟩, wd_1046, wd_86⟩
theorem cal_MD_years : CalV mi_MD_years 1 := ⟨⟨wd_1062, wd_123, ⟨by decide +kernel, by decide +kernel⟩, by decide +kernel⟩, wd_1061, wd_89⟩
theorem cal_MD_oneTie : CalV mi_MD_oneTie 0 := ⟨⟨wd_1043, wd_123, ⟨by decide +kernel, by decide +kernel⟩, by decide +kernel⟩, wd_1042, wd_85⟩
theorem cal_MD_reads : CalV mi_MD_reads 0 := ⟨⟨wd_1039, wd_123, ⟨by decide +kernel, by decide +kernel⟩, by decide +kernel⟩, wd_1038, wd_84⟩
theorem cal_MD_ties : CalV mi_MD_ties 0 := ⟨⟨wd_1035, wd_123, ⟨by decide +kernel, by decide +kernel⟩, by decide +kernel⟩, wd_1033, wd_1034⟩
theorem cal_MD_untie : CalV mi_MD_untie 1 := ⟨⟨wd_1068, wd_123, ⟨by decide +kernel, by decide +kernel⟩, by decide +kernel⟩, wd_1066, wd_1067⟩
theorem cal_MD_findTies : CalV mi_MD_findTies 1 := ⟨⟨wd_1079, wd_123, ⟨by decide +kernel, by decide +kernel⟩, by decide +kernel⟩, wd_1078, wd_90⟩
theorem cal_MD_strong : CalV mi_MD_strong 3 := ⟨⟨wd_1083, wd_123, ⟨by decide +kernel, by decide +kernel⟩, by decide +kernel⟩, wd_1082, wd_91⟩
theorem cal_MD_has : CalV mi_MD_has 3 := ⟨⟨wd_1091, wd_123, ⟨by decide +kernel, by decide +kernel⟩, by decide +kernel⟩, wd_1090, wd_92⟩
theorem cal_MD_tie : CalV mi_MD_tie 3 := ⟨⟨wd_1072, wd_123, ⟨by decide +kernel, by decide +kernel⟩, by decide +kernel⟩, wd_1070, wd_1071⟩
theorem cal_MD_degree : CalV mi_MD_degree 3 := ⟨⟨wd_1087, wd_123, ⟨by decide +kernel, by decide +kernel⟩, by decide +kernel⟩, wd_1085, wd_1086⟩
theorem cal_MD_opens : CalV mi_MD_opens 2 := ⟨⟨wd_1099, wd_123, ⟨by decide +kernel, by decide +kernel⟩, by decide +kernel⟩, wd_1098, wd_93⟩
theorem cal_MD_number : CalV mi_MD_number 1 := ⟨⟨wd_1141, wd_123, ⟨by decide +kernel, by decide +kernel⟩, by decide +kernel⟩, wd_1140, wd_100⟩
theorem cal_MD_parting : CalV mi_MD_parting 1 := ⟨⟨wd_1095, wd_123, ⟨by decide +kernel, by decide +kernel⟩, by decide +kernel⟩, wd_1093, wd_1094⟩
theorem cal_MD_led : CalV mi_MD_led 4 := ⟨⟨wd_1129, wd_123, ⟨by decide +kernel, by decide +kernel⟩, by decide +kernel⟩, wd_1128, wd_98⟩
theorem cal_MD_seen : CalS mi_MD_seen 2 := ⟨⟨wd_1121, wd_123, ⟨by decide +kernel, by decide +kernel⟩, by decide +kernel⟩, wd_1120⟩
theorem cal_MD_areLed : CalV mi_MD_areLed 3 := ⟨⟨wd_1125, wd_123, ⟨by decide +kernel, by decide +kernel⟩, by decide +kernel⟩, wd_1124, wd_97⟩
theorem cal_MD_areTied : CalV mi_MD_areTied 3 := ⟨⟨wd_1118, wd_123, ⟨by decide +kernel, by decide +kernel⟩, by decide +kernel⟩, wd_1117, wd_96⟩
theorem cal_MD_areSo : CalV mi_MD_areSo 3 := ⟨⟨wd_1114, wd_123, ⟨by decide +kernel, by decide +kernel⟩, by decide +kernel⟩, wd_1113, wd_95⟩
theorem cal_MD_judged : CalV mi_MD_judged 1 := ⟨⟨wd_1110, wd_123, ⟨by decide +kernel, by decide +kernel⟩, by decide +kernel⟩, wd_1109, wd_94⟩
theorem cal_MD_judge : CalV mi_MD_judge 2 := ⟨⟨wd_1103, wd_123, ⟨by decide +kernel, by decide +kernel⟩, by decide +kernel⟩, wd_1101, wd_1102⟩
theorem cal_MD_splits : CalV mi_MD_splits 1 := ⟨⟨wd_1137, wd_123, ⟨by decide +kernel, by decide +kernel⟩, by decide +kernel⟩, wd_1136, wd_99⟩
theorem cal_MD_coarsest : CalV mi_MD_coarsest 2 := ⟨⟨wd_1133, wd_123, ⟨by decide +kernel, by decide +kernel⟩, by decide +kernel⟩, wd_1131, wd_1132⟩
theorem cal_MD_firstNames : CalV mi_MD_firstNames 0 := ⟨⟨wd_1153, wd_123, ⟨by decide +kernel, by decide +kernel⟩, by decide +kernel⟩, wd_1152, wd_102⟩
theorem cal_MD_nextNames : CalV mi_MD_nextNames 1 := ⟨⟨wd_1161, wd_123, ⟨by decide +kernel, by decide +kernel⟩, by decide +kernel⟩, wd_1160, wd_104⟩
theorem cal_MD_isTurn : CalV mi_MD_isTurn 0 := ⟨⟨wd_1157, wd_123, ⟨by decide +kernel, by decide +kernel⟩, by decide +kernel⟩, wd_1156, wd_103⟩
theorem cal_MD_findTurns : CalV mi_MD_findTurns 0 := ⟨⟨wd_1149, wd_123, ⟨by decide +kernel, by decide +kernel⟩, by decide +kernel⟩, wd_1148, wd_101⟩
theorem cal_MD_renamings : CalV mi_MD_renamings 0 := ⟨⟨wd_1145, wd_123, ⟨by decide +kernel, by decide +kernel⟩, by decide +kernel⟩, wd_1143, wd_1144⟩
theorem cal_MD_moves : CalV mi_MD_moves 2 := ⟨⟨wd_1165, wd_123, ⟨by decide +kernel, by decide +kernel⟩, by decide +kernel⟩, wd_1163, wd_1164⟩
theorem cal_MD_orbits : CalV mi_MD_orbits 0 := ⟨⟨wd_1169, wd_123, ⟨by decide +kernel, by decide +kernel⟩, by decide +kernel⟩, wd_1167, wd_1168⟩
theorem cal_MD_form : CalV mi_MD_form 0 := ⟨⟨wd_1173, wd_123, ⟨by decide +kernel, by decide +kernel⟩, by decide +kernel⟩, wd_1171, wd_1172⟩
theorem cal_MD_firstParting : CalV mi_MD_firstParting 0 := ⟨⟨wd_1183, wd_123, ⟨by decide +kernel, by decide +kernel⟩, by decide +kernel⟩, wd_1182, wd_105⟩
theorem cal_MD_nextParting : CalV mi_MD_nextParting 0 := ⟨⟨wd_1187, wd_123, ⟨by decide +kernel, by decide +kernel⟩, by decide +kernel⟩, wd_1186, wd_106⟩
theorem cal_MD_parts : CalV mi_MD_parts 0 := ⟨⟨wd_1220, wd_123, ⟨by decide +kernel, by decide +kernel⟩, by decide +kernel⟩, wd_1219, wd_108⟩
theorem cal_MD_next : CalV mi_MD_next 2 := ⟨⟨wd_1179, wd_123, ⟨by decide +kernel, by decide +kernel⟩, by decide +kernel⟩, wd_1177, wd_1178⟩
theorem cal_MD_all : CalV mi_MD_all 1 := ⟨⟨wd_1191, wd_123, ⟨by decide +kernel, by decide +kernel⟩, by decide +kernel⟩, wd_1189, wd_1190⟩
theorem cal_MD_join : CalV mi_MD_join 2 := ⟨⟨wd_1195, wd_123, ⟨by decide +kernel, by decide +kernel⟩, by decide +kernel⟩, wd_1193, wd_1194⟩
theorem cal_MD_meet : CalV mi_MD_meet 2 := ⟨⟨wd_1199, wd_123, ⟨by decide +kernel, by decide +kernel⟩, by decide +kernel⟩, wd_1197, wd_1198⟩
theorem cal_MD_picture : CalV mi_MD_picture 4 := ⟨⟨wd_1203, wd_123, ⟨by decide +kernel, by decide +kernel⟩, by decide +kernel⟩, wd_1201, wd_1202⟩
theorem cal_MD_wrongOf : CalV mi_MD_wrongOf 0 := ⟨⟨wd_1211, wd_123, ⟨by decide +kernel, by decide +kernel⟩, by decide +kernel⟩, wd_1210, wd_107⟩
theorem cal_MD_wrong : CalV mi_MD_wrong 1 := ⟨⟨wd_1207, wd_123, ⟨by decide +kernel, by decide +kernel⟩, by decide +kernel⟩, wd_1205, wd_1206⟩
theorem cal_MD_least : CalV mi_MD_least 2 := ⟨⟨wd_1215, wd_123, ⟨by decide +kernel, by decide +kernel⟩, by decide +kernel⟩, wd_1213, wd_1214⟩
theorem cal_MD_spoils : CalV mi_MD_spoils 2 := ⟨⟨wd_1224, wd_123, ⟨by decide +kernel, by decide +kernel⟩, by decide +kernel⟩, wd_1222, wd_1223⟩
theorem cal_MD_newcomer : CalV mi_MD_newcomer 3 := ⟨⟨wd_1233, wd_123, ⟨by decide +kernel, by decide +kernel⟩, by decide +kernel⟩, wd_1231, wd_1232⟩
theorem cal_MD_isFit : CalV mi_MD_isFit 2 := ⟨⟨wd_1241, wd_123, ⟨by decide +kernel, by decide +kernel⟩, by decide +kernel⟩, wd_1240, wd_110⟩
theorem cal_MD_fits : CalV mi_MD_fits 1 := ⟨⟨wd_1237, wd_123, ⟨by decide +kernel, by decide +kernel⟩, by decide +kernel⟩, wd_1235, wd_1236⟩
theorem cal_MD_gone : CalV mi_MD_gone 0 := ⟨⟨wd_1245, wd_123, ⟨by decide +kernel, by decide +kernel⟩, by decide +kernel⟩, wd_1243, wd_1244⟩
theorem cal_MD_coarsestOn : CalV mi_MD_coarsestOn 2 := ⟨⟨wd_1253, wd_123, ⟨by decide +kernel, by decide +kernel⟩, by decide +kernel⟩, wd_1252, wd_111⟩
theorem cal_MD_shift : CalV mi_MD_shift 3 := ⟨⟨wd_1249, wd_123, ⟨by decide +kernel, by decide +kernel⟩, by decide +kernel⟩, wd_1247, wd_1248⟩
theorem cal_MD_stays : CalV mi_MD_stays 2 := ⟨⟨wd_1257, wd_123, ⟨by decide +kernel, by decide +kernel⟩, by decide +kernel⟩, wd_1255, wd_1256⟩
theorem cal_MD_count : CalV mi_MD_count 1 := ⟨⟨wd_1261, wd_123, ⟨by decide +kernel, by decide +kernel⟩, by decide +kernel⟩, wd_1259, wd_1260⟩
end
