section
-- ===== PART A: goes FIRST, ahead of the names: the tables' words, and 'selects' of the private methods out of them =====
/-- a private method of a class that the tables say can be made, by its rows of tables_1 -/
def lw_okq (q : MethodName × Nat) : Prop := (q.1.cls ≠ "java/lang/invoke/MethodHandle" ∧ q.1.cls ≠ "java/lang/invoke/VarHandle") ∧ Cond.instantiable q.1.cls q.2 ∈ tables_1 ∧ Cond.privateMethod q.1 ∈ tables_1 ∧ Cond.instanceMethod q.1 ∈ tables_1
theorem lw_p0 : lw_okq (⟨"SameParts$Town", "settle", "(I)V"⟩, 3) := ⟨⟨by decide +kernel, by decide +kernel⟩, List.mem_of_getElem? (i := 22) (by decide +kernel), List.mem_of_getElem? (i := 189) (by decide +kernel), List.mem_of_getElem? (i := 190) (by decide +kernel)⟩
theorem lw_p1 : lw_okq (⟨"SameParts", "refuse", "(I)I"⟩, 13) := ⟨⟨by decide +kernel, by decide +kernel⟩, List.mem_of_getElem? (i := 14) (by decide +kernel), List.mem_of_getElem? (i := 240) (by decide +kernel), List.mem_of_getElem? (i := 241) (by decide +kernel)⟩
theorem lw_p2 : lw_okq (⟨"SameParts$Told", "drain", "()V"⟩, 2) := ⟨⟨by decide +kernel, by decide +kernel⟩, List.mem_of_getElem? (i := 47) (by decide +kernel), List.mem_of_getElem? (i := 250) (by decide +kernel), List.mem_of_getElem? (i := 251) (by decide +kernel)⟩
theorem lw_p3 : lw_okq (⟨"SameParts$Town", "lives", "(I)Z"⟩, 3) := ⟨⟨by decide +kernel, by decide +kernel⟩, List.mem_of_getElem? (i := 22) (by decide +kernel), List.mem_of_getElem? (i := 258) (by decide +kernel), List.mem_of_getElem? (i := 259) (by decide +kernel)⟩
theorem lw_p4 : lw_okq (⟨"SameParts$Tape", "append", "(I)V"⟩, 5) := ⟨⟨by decide +kernel, by decide +kernel⟩, List.mem_of_getElem? (i := 62) (by decide +kernel), List.mem_of_getElem? (i := 270) (by decide +kernel), List.mem_of_getElem? (i := 271) (by decide +kernel)⟩
theorem lw_p5 : lw_okq (⟨"SameParts$Tape", "readAll", "(I)Z"⟩, 5) := ⟨⟨by decide +kernel, by decide +kernel⟩, List.mem_of_getElem? (i := 62) (by decide +kernel), List.mem_of_getElem? (i := 279) (by decide +kernel), List.mem_of_getElem? (i := 280) (by decide +kernel)⟩
theorem lw_p6 : lw_okq (⟨"SameParts$Tape", "readTie", "()Z"⟩, 5) := ⟨⟨by decide +kernel, by decide +kernel⟩, List.mem_of_getElem? (i := 62) (by decide +kernel), List.mem_of_getElem? (i := 284) (by decide +kernel), List.mem_of_getElem? (i := 285) (by decide +kernel)⟩
theorem lw_p7 : lw_okq (⟨"SameParts$Told", "draft", "(II)V"⟩, 2) := ⟨⟨by decide +kernel, by decide +kernel⟩, List.mem_of_getElem? (i := 47) (by decide +kernel), List.mem_of_getElem? (i := 288) (by decide +kernel), List.mem_of_getElem? (i := 289) (by decide +kernel)⟩
theorem lw_p8 : lw_okq (⟨"SameParts$Tape", "readPerson", "(I)Z"⟩, 5) := ⟨⟨by decide +kernel, by decide +kernel⟩, List.mem_of_getElem? (i := 62) (by decide +kernel), List.mem_of_getElem? (i := 293) (by decide +kernel), List.mem_of_getElem? (i := 294) (by decide +kernel)⟩
theorem lw_p9 : lw_okq (⟨"SameParts$Tape", "readInto", "(IIII)Z"⟩, 5) := ⟨⟨by decide +kernel, by decide +kernel⟩, List.mem_of_getElem? (i := 62) (by decide +kernel), List.mem_of_getElem? (i := 297) (by decide +kernel), List.mem_of_getElem? (i := 298) (by decide +kernel)⟩
theorem lw_p10 : lw_okq (⟨"SameParts$Tape", "here", "()I"⟩, 5) := ⟨⟨by decide +kernel, by decide +kernel⟩, List.mem_of_getElem? (i := 62) (by decide +kernel), List.mem_of_getElem? (i := 301) (by decide +kernel), List.mem_of_getElem? (i := 302) (by decide +kernel)⟩
theorem lw_p11 : lw_okq (⟨"SameParts$Tape", "skip", "(I)Z"⟩, 5) := ⟨⟨by decide +kernel, by decide +kernel⟩, List.mem_of_getElem? (i := 62) (by decide +kernel), List.mem_of_getElem? (i := 306) (by decide +kernel), List.mem_of_getElem? (i := 307) (by decide +kernel)⟩
theorem lw_p12 : lw_okq (⟨"SameParts$Tape", "drafted", "(I)I"⟩, 5) := ⟨⟨by decide +kernel, by decide +kernel⟩, List.mem_of_getElem? (i := 62) (by decide +kernel), List.mem_of_getElem? (i := 310) (by decide +kernel), List.mem_of_getElem? (i := 311) (by decide +kernel)⟩
theorem lw_p13 : lw_okq (⟨"SameParts$Told", "field", "(II)I"⟩, 2) := ⟨⟨by decide +kernel, by decide +kernel⟩, List.mem_of_getElem? (i := 47) (by decide +kernel), List.mem_of_getElem? (i := 314) (by decide +kernel), List.mem_of_getElem? (i := 315) (by decide +kernel)⟩
theorem lw_p14 : lw_okq (⟨"SameParts$Tape", "readStrength", "()Z"⟩, 5) := ⟨⟨by decide +kernel, by decide +kernel⟩, List.mem_of_getElem? (i := 62) (by decide +kernel), List.mem_of_getElem? (i := 319) (by decide +kernel), List.mem_of_getElem? (i := 320) (by decide +kernel)⟩
theorem lw_p15 : lw_okq (⟨"SameParts$Tape", "readYears", "()Z"⟩, 5) := ⟨⟨by decide +kernel, by decide +kernel⟩, List.mem_of_getElem? (i := 62) (by decide +kernel), List.mem_of_getElem? (i := 323) (by decide +kernel), List.mem_of_getElem? (i := 324) (by decide +kernel)⟩
def lw_privs_1 : List (MethodName × Nat) := [(⟨"SameParts$Town", "settle", "(I)V"⟩, 3), (⟨"SameParts", "refuse", "(I)I"⟩, 13), (⟨"SameParts$Told", "drain", "()V"⟩, 2), (⟨"SameParts$Town", "lives", "(I)Z"⟩, 3), (⟨"SameParts$Tape", "append", "(I)V"⟩, 5), (⟨"SameParts$Tape", "readAll", "(I)Z"⟩, 5), (⟨"SameParts$Tape", "readTie", "()Z"⟩, 5), (⟨"SameParts$Told", "draft", "(II)V"⟩, 2), (⟨"SameParts$Tape", "readPerson", "(I)Z"⟩, 5), (⟨"SameParts$Tape", "readInto", "(IIII)Z"⟩, 5), (⟨"SameParts$Tape", "here", "()I"⟩, 5), (⟨"SameParts$Tape", "skip", "(I)Z"⟩, 5), (⟨"SameParts$Tape", "drafted", "(I)I"⟩, 5), (⟨"SameParts$Told", "field", "(II)I"⟩, 2), (⟨"SameParts$Tape", "readStrength", "()Z"⟩, 5), (⟨"SameParts$Tape", "readYears", "()Z"⟩, 5)]
theorem lw_r1 : ∀ q ∈ lw_privs_1, lw_okq q := List.forall_mem_cons.mpr ⟨lw_p0, List.forall_mem_cons.mpr ⟨lw_p1, List.forall_mem_cons.mpr ⟨lw_p2, List.forall_mem_cons.mpr ⟨lw_p3, List.forall_mem_cons.mpr ⟨lw_p4, List.forall_mem_cons.mpr ⟨lw_p5, List.forall_mem_cons.mpr ⟨lw_p6, List.forall_mem_cons.mpr ⟨lw_p7, List.forall_mem_cons.mpr ⟨lw_p8, List.forall_mem_cons.mpr ⟨lw_p9, List.forall_mem_cons.mpr ⟨lw_p10, List.forall_mem_cons.mpr ⟨lw_p11, List.forall_mem_cons.mpr ⟨lw_p12, List.forall_mem_cons.mpr ⟨lw_p13, List.forall_mem_cons.mpr ⟨lw_p14, List.forall_mem_cons.mpr ⟨lw_p15, fun _ h => absurd h List.not_mem_nil⟩⟩⟩⟩⟩⟩⟩⟩⟩⟩⟩⟩⟩⟩⟩⟩
theorem lw_p16 : lw_okq (⟨"SameParts$Tape", "readYear", "(II)Z"⟩, 5) := ⟨⟨by decide +kernel, by decide +kernel⟩, List.mem_of_getElem? (i := 62) (by decide +kernel), List.mem_of_getElem? (i := 327) (by decide +kernel), List.mem_of_getElem? (i := 328) (by decide +kernel)⟩
theorem lw_p17 : lw_okq (⟨"SameParts$Told", "endDraft", "()V"⟩, 2) := ⟨⟨by decide +kernel, by decide +kernel⟩, List.mem_of_getElem? (i := 47) (by decide +kernel), List.mem_of_getElem? (i := 331) (by decide +kernel), List.mem_of_getElem? (i := 332) (by decide +kernel)⟩
theorem lw_p18 : lw_okq (⟨"SameParts$Told", "takeAll", "(LSameParts$Told;)V"⟩, 2) := ⟨⟨by decide +kernel, by decide +kernel⟩, List.mem_of_getElem? (i := 47) (by decide +kernel), List.mem_of_getElem? (i := 335) (by decide +kernel), List.mem_of_getElem? (i := 336) (by decide +kernel)⟩
theorem lw_p19 : lw_okq (⟨"SameParts$Told", "drop", "(I)V"⟩, 2) := ⟨⟨by decide +kernel, by decide +kernel⟩, List.mem_of_getElem? (i := 47) (by decide +kernel), List.mem_of_getElem? (i := 346) (by decide +kernel), List.mem_of_getElem? (i := 347) (by decide +kernel)⟩
theorem lw_p20 : lw_okq (⟨"SameParts", "lookAt", "(I)V"⟩, 13) := ⟨⟨by decide +kernel, by decide +kernel⟩, List.mem_of_getElem? (i := 14) (by decide +kernel), List.mem_of_getElem? (i := 357) (by decide +kernel), List.mem_of_getElem? (i := 358) (by decide +kernel)⟩
theorem lw_p21 : lw_okq (⟨"SameParts$Told", "draw", "(LSameParts$Town;I)V"⟩, 2) := ⟨⟨by decide +kernel, by decide +kernel⟩, List.mem_of_getElem? (i := 47) (by decide +kernel), List.mem_of_getElem? (i := 361) (by decide +kernel), List.mem_of_getElem? (i := 362) (by decide +kernel)⟩
theorem lw_p22 : lw_okq (⟨"SameParts$Town", "strength", "(III)I"⟩, 3) := ⟨⟨by decide +kernel, by decide +kernel⟩, List.mem_of_getElem? (i := 22) (by decide +kernel), List.mem_of_getElem? (i := 369) (by decide +kernel), List.mem_of_getElem? (i := 370) (by decide +kernel)⟩
theorem lw_p23 : lw_okq (⟨"SameParts$Town", "tiesOf", "(IIZ)I"⟩, 3) := ⟨⟨by decide +kernel, by decide +kernel⟩, List.mem_of_getElem? (i := 22) (by decide +kernel), List.mem_of_getElem? (i := 377) (by decide +kernel), List.mem_of_getElem? (i := 378) (by decide +kernel)⟩
theorem lw_p24 : lw_okq (⟨"SameParts$Town", "tied", "(III)Z"⟩, 3) := ⟨⟨by decide +kernel, by decide +kernel⟩, List.mem_of_getElem? (i := 22) (by decide +kernel), List.mem_of_getElem? (i := 381) (by decide +kernel), List.mem_of_getElem? (i := 382) (by decide +kernel)⟩
theorem lw_p25 : lw_okq (⟨"SameParts$Parting", "readNumber", "(II)Z"⟩, 3) := ⟨⟨by decide +kernel, by decide +kernel⟩, List.mem_of_getElem? (i := 167) (by decide +kernel), List.mem_of_getElem? (i := 390) (by decide +kernel), List.mem_of_getElem? (i := 391) (by decide +kernel)⟩
theorem lw_p26 : lw_okq (⟨"SameParts$Parting", "of", "(I)I"⟩, 3) := ⟨⟨by decide +kernel, by decide +kernel⟩, List.mem_of_getElem? (i := 167) (by decide +kernel), List.mem_of_getElem? (i := 395) (by decide +kernel), List.mem_of_getElem? (i := 396) (by decide +kernel)⟩
theorem lw_p27 : lw_okq (⟨"SameParts$Sameness", "firstUnlike", "(LSameParts$Town;LSameParts$Parting;I)I"⟩, 1) := ⟨⟨by decide +kernel, by decide +kernel⟩, List.mem_of_getElem? (i := 109) (by decide +kernel), List.mem_of_getElem? (i := 410) (by decide +kernel), List.mem_of_getElem? (i := 411) (by decide +kernel)⟩
theorem lw_p28 : lw_okq (⟨"SameParts$Sameness", "look", "(LSameParts$Town;LSameParts$Parting;I)V"⟩, 1) := ⟨⟨by decide +kernel, by decide +kernel⟩, List.mem_of_getElem? (i := 109) (by decide +kernel), List.mem_of_getElem? (i := 414) (by decide +kernel), List.mem_of_getElem? (i := 415) (by decide +kernel)⟩
theorem lw_p29 : lw_okq (⟨"SameParts$Sameness", "note", "(IIZ)V"⟩, 1) := ⟨⟨by decide +kernel, by decide +kernel⟩, List.mem_of_getElem? (i := 109) (by decide +kernel), List.mem_of_getElem? (i := 421) (by decide +kernel), List.mem_of_getElem? (i := 422) (by decide +kernel)⟩
theorem lw_p30 : lw_okq (⟨"SameParts$Parting", "together", "(II)Z"⟩, 3) := ⟨⟨by decide +kernel, by decide +kernel⟩, List.mem_of_getElem? (i := 167) (by decide +kernel), List.mem_of_getElem? (i := 427) (by decide +kernel), List.mem_of_getElem? (i := 428) (by decide +kernel)⟩
theorem lw_p31 : lw_okq (⟨"SameParts$Sameness", "alike", "(LSameParts$Town;III)Z"⟩, 1) := ⟨⟨by decide +kernel, by decide +kernel⟩, List.mem_of_getElem? (i := 109) (by decide +kernel), List.mem_of_getElem? (i := 431) (by decide +kernel), List.mem_of_getElem? (i := 432) (by decide +kernel)⟩
def lw_privs_2 : List (MethodName × Nat) := [(⟨"SameParts$Tape", "readYear", "(II)Z"⟩, 5), (⟨"SameParts$Told", "endDraft", "()V"⟩, 2), (⟨"SameParts$Told", "takeAll", "(LSameParts$Told;)V"⟩, 2), (⟨"SameParts$Told", "drop", "(I)V"⟩, 2), (⟨"SameParts", "lookAt", "(I)V"⟩, 13), (⟨"SameParts$Told", "draw", "(LSameParts$Town;I)V"⟩, 2), (⟨"SameParts$Town", "strength", "(III)I"⟩, 3), (⟨"SameParts$Town", "tiesOf", "(IIZ)I"⟩, 3), (⟨"SameParts$Town", "tied", "(III)Z"⟩, 3), (⟨"SameParts$Parting", "readNumber", "(II)Z"⟩, 3), (⟨"SameParts$Parting", "of", "(I)I"⟩, 3), (⟨"SameParts$Sameness", "firstUnlike", "(LSameParts$Town;LSameParts$Parting;I)I"⟩, 1), (⟨"SameParts$Sameness", "look", "(LSameParts$Town;LSameParts$Parting;I)V"⟩, 1), (⟨"SameParts$Sameness", "note", "(IIZ)V"⟩, 1), (⟨"SameParts$Parting", "together", "(II)Z"⟩, 3), (⟨"SameParts$Sameness", "alike", "(LSameParts$Town;III)Z"⟩, 1)]
theorem lw_r2 : ∀ q ∈ lw_privs_2, lw_okq q := List.forall_mem_cons.mpr ⟨lw_p16, List.forall_mem_cons.mpr ⟨lw_p17, List.forall_mem_cons.mpr ⟨lw_p18, List.forall_mem_cons.mpr ⟨lw_p19, List.forall_mem_cons.mpr ⟨lw_p20, List.forall_mem_cons.mpr ⟨lw_p21, List.forall_mem_cons.mpr ⟨lw_p22, List.forall_mem_cons.mpr ⟨lw_p23, List.forall_mem_cons.mpr ⟨lw_p24, List.forall_mem_cons.mpr ⟨lw_p25, List.forall_mem_cons.mpr ⟨lw_p26, List.forall_mem_cons.mpr ⟨lw_p27, List.forall_mem_cons.mpr ⟨lw_p28, List.forall_mem_cons.mpr ⟨lw_p29, List.forall_mem_cons.mpr ⟨lw_p30, List.forall_mem_cons.mpr ⟨lw_p31, fun _ h => absurd h List.not_mem_nil⟩⟩⟩⟩⟩⟩⟩⟩⟩⟩⟩⟩⟩⟩⟩⟩
theorem lw_p32 : lw_okq (⟨"SameParts$Town", "sameMark", "(II)Z"⟩, 3) := ⟨⟨by decide +kernel, by decide +kernel⟩, List.mem_of_getElem? (i := 22) (by decide +kernel), List.mem_of_getElem? (i := 435) (by decide +kernel), List.mem_of_getElem? (i := 436) (by decide +kernel)⟩
theorem lw_p33 : lw_okq (⟨"SameParts$Sameness", "sameView", "(II)Z"⟩, 1) := ⟨⟨by decide +kernel, by decide +kernel⟩, List.mem_of_getElem? (i := 109) (by decide +kernel), List.mem_of_getElem? (i := 447) (by decide +kernel), List.mem_of_getElem? (i := 448) (by decide +kernel)⟩
theorem lw_p34 : lw_okq (⟨"SameParts$Sameness", "refine", "(LSameParts$Town;LSameParts$Parting;LSameParts$Parting;I)V"⟩, 1) := ⟨⟨by decide +kernel, by decide +kernel⟩, List.mem_of_getElem? (i := 109) (by decide +kernel), List.mem_of_getElem? (i := 455) (by decide +kernel), List.mem_of_getElem? (i := 456) (by decide +kernel)⟩
theorem lw_p35 : lw_okq (⟨"SameParts$Sameness", "split", "(LSameParts$Town;LSameParts$Parting;LSameParts$Parting;I)V"⟩, 1) := ⟨⟨by decide +kernel, by decide +kernel⟩, List.mem_of_getElem? (i := 109) (by decide +kernel), List.mem_of_getElem? (i := 459) (by decide +kernel), List.mem_of_getElem? (i := 460) (by decide +kernel)⟩
theorem lw_p36 : lw_okq (⟨"SameParts$Parting", "begin", "(I)V"⟩, 3) := ⟨⟨by decide +kernel, by decide +kernel⟩, List.mem_of_getElem? (i := 167) (by decide +kernel), List.mem_of_getElem? (i := 463) (by decide +kernel), List.mem_of_getElem? (i := 464) (by decide +kernel)⟩
theorem lw_p37 : lw_okq (⟨"SameParts$Parting", "place", "(II)V"⟩, 3) := ⟨⟨by decide +kernel, by decide +kernel⟩, List.mem_of_getElem? (i := 167) (by decide +kernel), List.mem_of_getElem? (i := 467) (by decide +kernel), List.mem_of_getElem? (i := 468) (by decide +kernel)⟩
theorem lw_p38 : lw_okq (⟨"SameParts$Parting", "copy", "(LSameParts$Parting;)V"⟩, 3) := ⟨⟨by decide +kernel, by decide +kernel⟩, List.mem_of_getElem? (i := 167) (by decide +kernel), List.mem_of_getElem? (i := 471) (by decide +kernel), List.mem_of_getElem? (i := 472) (by decide +kernel)⟩
theorem lw_p39 : lw_okq (⟨"SameParts$Parting", "number", "()I"⟩, 3) := ⟨⟨by decide +kernel, by decide +kernel⟩, List.mem_of_getElem? (i := 167) (by decide +kernel), List.mem_of_getElem? (i := 475) (by decide +kernel), List.mem_of_getElem? (i := 476) (by decide +kernel)⟩
theorem lw_p40 : lw_okq (⟨"SameParts$Turns", "howMany", "(LSameParts$Town;)I"⟩, 5) := ⟨⟨by decide +kernel, by decide +kernel⟩, List.mem_of_getElem? (i := 119) (by decide +kernel), List.mem_of_getElem? (i := 483) (by decide +kernel), List.mem_of_getElem? (i := 484) (by decide +kernel)⟩
theorem lw_p41 : lw_okq (⟨"SameParts$Turns", "brings", "(LSameParts$Town;III)Z"⟩, 5) := ⟨⟨by decide +kernel, by decide +kernel⟩, List.mem_of_getElem? (i := 119) (by decide +kernel), List.mem_of_getElem? (i := 487) (by decide +kernel), List.mem_of_getElem? (i := 488) (by decide +kernel)⟩
theorem lw_p42 : lw_okq (⟨"SameParts$Turns", "begin", "()V"⟩, 5) := ⟨⟨by decide +kernel, by decide +kernel⟩, List.mem_of_getElem? (i := 119) (by decide +kernel), List.mem_of_getElem? (i := 492) (by decide +kernel), List.mem_of_getElem? (i := 493) (by decide +kernel)⟩
theorem lw_p43 : lw_okq (⟨"SameParts$Turns", "nextKeeping", "(LSameParts$Town;III)I"⟩, 5) := ⟨⟨by decide +kernel, by decide +kernel⟩, List.mem_of_getElem? (i := 119) (by decide +kernel), List.mem_of_getElem? (i := 498) (by decide +kernel), List.mem_of_getElem? (i := 499) (by decide +kernel)⟩
theorem lw_p44 : lw_okq (⟨"SameParts$Turns", "lift", "()I"⟩, 5) := ⟨⟨by decide +kernel, by decide +kernel⟩, List.mem_of_getElem? (i := 119) (by decide +kernel), List.mem_of_getElem? (i := 502) (by decide +kernel), List.mem_of_getElem? (i := 503) (by decide +kernel)⟩
theorem lw_p45 : lw_okq (⟨"SameParts$Turns", "keepsAhead", "(LSameParts$Town;I)Z"⟩, 5) := ⟨⟨by decide +kernel, by decide +kernel⟩, List.mem_of_getElem? (i := 119) (by decide +kernel), List.mem_of_getElem? (i := 510) (by decide +kernel), List.mem_of_getElem? (i := 511) (by decide +kernel)⟩
theorem lw_p46 : lw_okq (⟨"SameParts$Turns", "step", "(I)V"⟩, 5) := ⟨⟨by decide +kernel, by decide +kernel⟩, List.mem_of_getElem? (i := 119) (by decide +kernel), List.mem_of_getElem? (i := 518) (by decide +kernel), List.mem_of_getElem? (i := 519) (by decide +kernel)⟩
theorem lw_p47 : lw_okq (⟨"SameParts$Turns", "partByOrbit", "(LSameParts$Town;LSameParts$Parting;)V"⟩, 5) := ⟨⟨by decide +kernel, by decide +kernel⟩, List.mem_of_getElem? (i := 119) (by decide +kernel), List.mem_of_getElem? (i := 531) (by decide +kernel), List.mem_of_getElem? (i := 532) (by decide +kernel)⟩
def lw_privs_3 : List (MethodName × Nat) := [(⟨"SameParts$Town", "sameMark", "(II)Z"⟩, 3), (⟨"SameParts$Sameness", "sameView", "(II)Z"⟩, 1), (⟨"SameParts$Sameness", "refine", "(LSameParts$Town;LSameParts$Parting;LSameParts$Parting;I)V"⟩, 1), (⟨"SameParts$Sameness", "split", "(LSameParts$Town;LSameParts$Parting;LSameParts$Parting;I)V"⟩, 1), (⟨"SameParts$Parting", "begin", "(I)V"⟩, 3), (⟨"SameParts$Parting", "place", "(II)V"⟩, 3), (⟨"SameParts$Parting", "copy", "(LSameParts$Parting;)V"⟩, 3), (⟨"SameParts$Parting", "number", "()I"⟩, 3), (⟨"SameParts$Turns", "howMany", "(LSameParts$Town;)I"⟩, 5), (⟨"SameParts$Turns", "brings", "(LSameParts$Town;III)Z"⟩, 5), (⟨"SameParts$Turns", "begin", "()V"⟩, 5), (⟨"SameParts$Turns", "nextKeeping", "(LSameParts$Town;III)I"⟩, 5), (⟨"SameParts$Turns", "lift", "()I"⟩, 5), (⟨"SameParts$Turns", "keepsAhead", "(LSameParts$Town;I)Z"⟩, 5), (⟨"SameParts$Turns", "step", "(I)V"⟩, 5), (⟨"SameParts$Turns", "partByOrbit", "(LSameParts$Town;LSameParts$Parting;)V"⟩, 5)]
theorem lw_r3 : ∀ q ∈ lw_privs_3, lw_okq q := List.forall_mem_cons.mpr ⟨lw_p32, List.forall_mem_cons.mpr ⟨lw_p33, List.forall_mem_cons.mpr ⟨lw_p34, List.forall_mem_cons.mpr ⟨lw_p35, List.forall_mem_cons.mpr ⟨lw_p36, List.forall_mem_cons.mpr ⟨lw_p37, List.forall_mem_cons.mpr ⟨lw_p38, List.forall_mem_cons.mpr ⟨lw_p39, List.forall_mem_cons.mpr ⟨lw_p40, List.forall_mem_cons.mpr ⟨lw_p41, List.forall_mem_cons.mpr ⟨lw_p42, List.forall_mem_cons.mpr ⟨lw_p43, List.forall_mem_cons.mpr ⟨lw_p44, List.forall_mem_cons.mpr ⟨lw_p45, List.forall_mem_cons.mpr ⟨lw_p46, List.forall_mem_cons.mpr ⟨lw_p47, fun _ h => absurd h List.not_mem_nil⟩⟩⟩⟩⟩⟩⟩⟩⟩⟩⟩⟩⟩⟩⟩⟩
theorem lw_p48 : lw_okq (⟨"SameParts$Turns", "leastRow", "(LSameParts$Town;)I"⟩, 5) := ⟨⟨by decide +kernel, by decide +kernel⟩, List.mem_of_getElem? (i := 119) (by decide +kernel), List.mem_of_getElem? (i := 541) (by decide +kernel), List.mem_of_getElem? (i := 542) (by decide +kernel)⟩
theorem lw_p49 : lw_okq (⟨"SameParts$Turns", "findTwins", "(LSameParts$Town;)V"⟩, 5) := ⟨⟨by decide +kernel, by decide +kernel⟩, List.mem_of_getElem? (i := 119) (by decide +kernel), List.mem_of_getElem? (i := 545) (by decide +kernel), List.mem_of_getElem? (i := 546) (by decide +kernel)⟩
theorem lw_p50 : lw_okq (⟨"SameParts$Town", "tiesOfKind", "(I)I"⟩, 3) := ⟨⟨by decide +kernel, by decide +kernel⟩, List.mem_of_getElem? (i := 22) (by decide +kernel), List.mem_of_getElem? (i := 553) (by decide +kernel), List.mem_of_getElem? (i := 554) (by decide +kernel)⟩
theorem lw_p51 : lw_okq (⟨"SameParts$Turns", "nextInRow", "(LSameParts$Town;IZ)I"⟩, 5) := ⟨⟨by decide +kernel, by decide +kernel⟩, List.mem_of_getElem? (i := 119) (by decide +kernel), List.mem_of_getElem? (i := 558) (by decide +kernel), List.mem_of_getElem? (i := 559) (by decide +kernel)⟩
theorem lw_p52 : lw_okq (⟨"SameParts$Turns", "hasLeastMark", "(LSameParts$Town;I)Z"⟩, 5) := ⟨⟨by decide +kernel, by decide +kernel⟩, List.mem_of_getElem? (i := 119) (by decide +kernel), List.mem_of_getElem? (i := 562) (by decide +kernel), List.mem_of_getElem? (i := 563) (by decide +kernel)⟩
theorem lw_p53 : lw_okq (⟨"SameParts$Turns", "behindBest", "(LSameParts$Town;II)Z"⟩, 5) := ⟨⟨by decide +kernel, by decide +kernel⟩, List.mem_of_getElem? (i := 119) (by decide +kernel), List.mem_of_getElem? (i := 566) (by decide +kernel), List.mem_of_getElem? (i := 567) (by decide +kernel)⟩
theorem lw_p54 : lw_okq (⟨"SameParts$Turns", "lessThanBest", "(LSameParts$Town;I)Z"⟩, 5) := ⟨⟨by decide +kernel, by decide +kernel⟩, List.mem_of_getElem? (i := 119) (by decide +kernel), List.mem_of_getElem? (i := 570) (by decide +kernel), List.mem_of_getElem? (i := 571) (by decide +kernel)⟩
theorem lw_p55 : lw_okq (⟨"SameParts$Turns", "keepBest", "(LSameParts$Town;)V"⟩, 5) := ⟨⟨by decide +kernel, by decide +kernel⟩, List.mem_of_getElem? (i := 119) (by decide +kernel), List.mem_of_getElem? (i := 574) (by decide +kernel), List.mem_of_getElem? (i := 575) (by decide +kernel)⟩
theorem lw_p56 : lw_okq (⟨"SameParts$Turns", "bestAsNumber", "(LSameParts$Town;)I"⟩, 5) := ⟨⟨by decide +kernel, by decide +kernel⟩, List.mem_of_getElem? (i := 119) (by decide +kernel), List.mem_of_getElem? (i := 578) (by decide +kernel), List.mem_of_getElem? (i := 579) (by decide +kernel)⟩
theorem lw_p57 : lw_okq (⟨"SameParts$Parting", "allInOne", "(I)V"⟩, 3) := ⟨⟨by decide +kernel, by decide +kernel⟩, List.mem_of_getElem? (i := 167) (by decide +kernel), List.mem_of_getElem? (i := 591) (by decide +kernel), List.mem_of_getElem? (i := 592) (by decide +kernel)⟩
theorem lw_p58 : lw_okq (⟨"SameParts$Parting", "forward", "()Z"⟩, 3) := ⟨⟨by decide +kernel, by decide +kernel⟩, List.mem_of_getElem? (i := 167) (by decide +kernel), List.mem_of_getElem? (i := 596) (by decide +kernel), List.mem_of_getElem? (i := 597) (by decide +kernel)⟩
theorem lw_p59 : lw_okq (⟨"SameParts$Parting", "topAhead", "(I)I"⟩, 3) := ⟨⟨by decide +kernel, by decide +kernel⟩, List.mem_of_getElem? (i := 167) (by decide +kernel), List.mem_of_getElem? (i := 600) (by decide +kernel), List.mem_of_getElem? (i := 601) (by decide +kernel)⟩
theorem lw_p60 : lw_okq (⟨"SameParts$Parting", "mergeBy", "(LSameParts$Parting;)V"⟩, 3) := ⟨⟨by decide +kernel, by decide +kernel⟩, List.mem_of_getElem? (i := 167) (by decide +kernel), List.mem_of_getElem? (i := 615) (by decide +kernel), List.mem_of_getElem? (i := 616) (by decide +kernel)⟩
theorem lw_p61 : lw_okq (⟨"SameParts$Parting", "rename", "(II)V"⟩, 3) := ⟨⟨by decide +kernel, by decide +kernel⟩, List.mem_of_getElem? (i := 167) (by decide +kernel), List.mem_of_getElem? (i := 620) (by decide +kernel), List.mem_of_getElem? (i := 621) (by decide +kernel)⟩
theorem lw_p62 : lw_okq (⟨"SameParts$Parting", "copyRenumbered", "(LSameParts$Parting;)V"⟩, 3) := ⟨⟨by decide +kernel, by decide +kernel⟩, List.mem_of_getElem? (i := 167) (by decide +kernel), List.mem_of_getElem? (i := 624) (by decide +kernel), List.mem_of_getElem? (i := 625) (by decide +kernel)⟩
theorem lw_p63 : lw_okq (⟨"SameParts$Parting", "cross", "(LSameParts$Parting;LSameParts$Parting;)V"⟩, 3) := ⟨⟨by decide +kernel, by decide +kernel⟩, List.mem_of_getElem? (i := 167) (by decide +kernel), List.mem_of_getElem? (i := 628) (by decide +kernel), List.mem_of_getElem? (i := 629) (by decide +kernel)⟩
def lw_privs_4 : List (MethodName × Nat) := [(⟨"SameParts$Turns", "leastRow", "(LSameParts$Town;)I"⟩, 5), (⟨"SameParts$Turns", "findTwins", "(LSameParts$Town;)V"⟩, 5), (⟨"SameParts$Town", "tiesOfKind", "(I)I"⟩, 3), (⟨"SameParts$Turns", "nextInRow", "(LSameParts$Town;IZ)I"⟩, 5), (⟨"SameParts$Turns", "hasLeastMark", "(LSameParts$Town;I)Z"⟩, 5), (⟨"SameParts$Turns", "behindBest", "(LSameParts$Town;II)Z"⟩, 5), (⟨"SameParts$Turns", "lessThanBest", "(LSameParts$Town;I)Z"⟩, 5), (⟨"SameParts$Turns", "keepBest", "(LSameParts$Town;)V"⟩, 5), (⟨"SameParts$Turns", "bestAsNumber", "(LSameParts$Town;)I"⟩, 5), (⟨"SameParts$Parting", "allInOne", "(I)V"⟩, 3), (⟨"SameParts$Parting", "forward", "()Z"⟩, 3), (⟨"SameParts$Parting", "topAhead", "(I)I"⟩, 3), (⟨"SameParts$Parting", "mergeBy", "(LSameParts$Parting;)V"⟩, 3), (⟨"SameParts$Parting", "rename", "(II)V"⟩, 3), (⟨"SameParts$Parting", "copyRenumbered", "(LSameParts$Parting;)V"⟩, 3), (⟨"SameParts$Parting", "cross", "(LSameParts$Parting;LSameParts$Parting;)V"⟩, 3)]
theorem lw_r4 : ∀ q ∈ lw_privs_4, lw_okq q := List.forall_mem_cons.mpr ⟨lw_p48, List.forall_mem_cons.mpr ⟨lw_p49, List.forall_mem_cons.mpr ⟨lw_p50, List.forall_mem_cons.mpr ⟨lw_p51, List.forall_mem_cons.mpr ⟨lw_p52, List.forall_mem_cons.mpr ⟨lw_p53, List.forall_mem_cons.mpr ⟨lw_p54, List.forall_mem_cons.mpr ⟨lw_p55, List.forall_mem_cons.mpr ⟨lw_p56, List.forall_mem_cons.mpr ⟨lw_p57, List.forall_mem_cons.mpr ⟨lw_p58, List.forall_mem_cons.mpr ⟨lw_p59, List.forall_mem_cons.mpr ⟨lw_p60, List.forall_mem_cons.mpr ⟨lw_p61, List.forall_mem_cons.mpr ⟨lw_p62, List.forall_mem_cons.mpr ⟨lw_p63, fun _ h => absurd h List.not_mem_nil⟩⟩⟩⟩⟩⟩⟩⟩⟩⟩⟩⟩⟩⟩⟩⟩
theorem lw_p64 : lw_okq (⟨"SameParts$Parting", "has", "(I)Z"⟩, 3) := ⟨⟨by decide +kernel, by decide +kernel⟩, List.mem_of_getElem? (i := 167) (by decide +kernel), List.mem_of_getElem? (i := 643) (by decide +kernel), List.mem_of_getElem? (i := 644) (by decide +kernel)⟩
theorem lw_p65 : lw_okq (⟨"SameParts$Blocks", "image", "(LSameParts$Town;LSameParts$Parting;III)I"⟩, 2) := ⟨⟨by decide +kernel, by decide +kernel⟩, List.mem_of_getElem? (i := 141) (by decide +kernel), List.mem_of_getElem? (i := 647) (by decide +kernel), List.mem_of_getElem? (i := 648) (by decide +kernel)⟩
theorem lw_p66 : lw_okq (⟨"SameParts$Parting", "sizeOf", "(I)I"⟩, 3) := ⟨⟨by decide +kernel, by decide +kernel⟩, List.mem_of_getElem? (i := 167) (by decide +kernel), List.mem_of_getElem? (i := 651) (by decide +kernel), List.mem_of_getElem? (i := 652) (by decide +kernel)⟩
theorem lw_p67 : lw_okq (⟨"SameParts$Blocks", "tiesTo", "(LSameParts$Town;LSameParts$Parting;III)I"⟩, 2) := ⟨⟨by decide +kernel, by decide +kernel⟩, List.mem_of_getElem? (i := 141) (by decide +kernel), List.mem_of_getElem? (i := 656) (by decide +kernel), List.mem_of_getElem? (i := 657) (by decide +kernel)⟩
theorem lw_p68 : lw_okq (⟨"SameParts$Blocks", "misfits", "(LSameParts$Town;LSameParts$Parting;)I"⟩, 2) := ⟨⟨by decide +kernel, by decide +kernel⟩, List.mem_of_getElem? (i := 141) (by decide +kernel), List.mem_of_getElem? (i := 669) (by decide +kernel), List.mem_of_getElem? (i := 670) (by decide +kernel)⟩
theorem lw_p69 : lw_okq (⟨"SameParts$Blocks", "tallyTies", "(LSameParts$Town;LSameParts$Parting;)V"⟩, 2) := ⟨⟨by decide +kernel, by decide +kernel⟩, List.mem_of_getElem? (i := 141) (by decide +kernel), List.mem_of_getElem? (i := 673) (by decide +kernel), List.mem_of_getElem? (i := 674) (by decide +kernel)⟩
theorem lw_p70 : lw_okq (⟨"SameParts$Blocks", "misfit", "(IIII)I"⟩, 2) := ⟨⟨by decide +kernel, by decide +kernel⟩, List.mem_of_getElem? (i := 141) (by decide +kernel), List.mem_of_getElem? (i := 680) (by decide +kernel), List.mem_of_getElem? (i := 681) (by decide +kernel)⟩
theorem lw_p71 : lw_okq (⟨"SameParts$Blocks", "bestWith", "(LSameParts$Town;LSameParts$Parting;II)I"⟩, 2) := ⟨⟨by decide +kernel, by decide +kernel⟩, List.mem_of_getElem? (i := 141) (by decide +kernel), List.mem_of_getElem? (i := 689) (by decide +kernel), List.mem_of_getElem? (i := 690) (by decide +kernel)⟩
theorem lw_p72 : lw_okq (⟨"SameParts$Blocks", "worstTie", "(LSameParts$Town;LSameParts$Parting;Z)I"⟩, 2) := ⟨⟨by decide +kernel, by decide +kernel⟩, List.mem_of_getElem? (i := 141) (by decide +kernel), List.mem_of_getElem? (i := 702) (by decide +kernel), List.mem_of_getElem? (i := 703) (by decide +kernel)⟩
theorem lw_p73 : lw_okq (⟨"SameParts$Blocks", "gainOf", "(LSameParts$Town;LSameParts$Parting;III)I"⟩, 2) := ⟨⟨by decide +kernel, by decide +kernel⟩, List.mem_of_getElem? (i := 141) (by decide +kernel), List.mem_of_getElem? (i := 706) (by decide +kernel), List.mem_of_getElem? (i := 707) (by decide +kernel)⟩
theorem lw_p74 : lw_okq (⟨"SameParts$Newcomer", "append", "(IIZ)V"⟩, 4) := ⟨⟨by decide +kernel, by decide +kernel⟩, List.mem_of_getElem? (i := 89) (by decide +kernel), List.mem_of_getElem? (i := 714) (by decide +kernel), List.mem_of_getElem? (i := 715) (by decide +kernel)⟩
theorem lw_p75 : lw_okq (⟨"SameParts$Newcomer", "suitingParts", "(LSameParts$Town;LSameParts$Parting;)I"⟩, 4) := ⟨⟨by decide +kernel, by decide +kernel⟩, List.mem_of_getElem? (i := 89) (by decide +kernel), List.mem_of_getElem? (i := 723) (by decide +kernel), List.mem_of_getElem? (i := 724) (by decide +kernel)⟩
theorem lw_p76 : lw_okq (⟨"SameParts$Newcomer", "hasSuchTie", "(LSameParts$Town;LSameParts$Parting;II)Z"⟩, 4) := ⟨⟨by decide +kernel, by decide +kernel⟩, List.mem_of_getElem? (i := 89) (by decide +kernel), List.mem_of_getElem? (i := 727) (by decide +kernel), List.mem_of_getElem? (i := 728) (by decide +kernel)⟩
theorem lw_p77 : lw_okq (⟨"SameParts", "partOfYear", "(IILSameParts$Parting;)V"⟩, 13) := ⟨⟨by decide +kernel, by decide +kernel⟩, List.mem_of_getElem? (i := 14) (by decide +kernel), List.mem_of_getElem? (i := 742) (by decide +kernel), List.mem_of_getElem? (i := 743) (by decide +kernel)⟩
theorem lw_p78 : lw_okq (⟨"SameParts$Matching", "keepers", "(LSameParts$Parting;LSameParts$Parting;)I"⟩, 2) := ⟨⟨by decide +kernel, by decide +kernel⟩, List.mem_of_getElem? (i := 154) (by decide +kernel), List.mem_of_getElem? (i := 746) (by decide +kernel), List.mem_of_getElem? (i := 747) (by decide +kernel)⟩
theorem lw_p79 : lw_okq (⟨"SameParts$Matching", "bestFor", "(III)I"⟩, 2) := ⟨⟨by decide +kernel, by decide +kernel⟩, List.mem_of_getElem? (i := 154) (by decide +kernel), List.mem_of_getElem? (i := 753) (by decide +kernel), List.mem_of_getElem? (i := 754) (by decide +kernel)⟩
def lw_privs_5 : List (MethodName × Nat) := [(⟨"SameParts$Parting", "has", "(I)Z"⟩, 3), (⟨"SameParts$Blocks", "image", "(LSameParts$Town;LSameParts$Parting;III)I"⟩, 2), (⟨"SameParts$Parting", "sizeOf", "(I)I"⟩, 3), (⟨"SameParts$Blocks", "tiesTo", "(LSameParts$Town;LSameParts$Parting;III)I"⟩, 2), (⟨"SameParts$Blocks", "misfits", "(LSameParts$Town;LSameParts$Parting;)I"⟩, 2), (⟨"SameParts$Blocks", "tallyTies", "(LSameParts$Town;LSameParts$Parting;)V"⟩, 2), (⟨"SameParts$Blocks", "misfit", "(IIII)I"⟩, 2), (⟨"SameParts$Blocks", "bestWith", "(LSameParts$Town;LSameParts$Parting;II)I"⟩, 2), (⟨"SameParts$Blocks", "worstTie", "(LSameParts$Town;LSameParts$Parting;Z)I"⟩, 2), (⟨"SameParts$Blocks", "gainOf", "(LSameParts$Town;LSameParts$Parting;III)I"⟩, 2), (⟨"SameParts$Newcomer", "append", "(IIZ)V"⟩, 4), (⟨"SameParts$Newcomer", "suitingParts", "(LSameParts$Town;LSameParts$Parting;)I"⟩, 4), (⟨"SameParts$Newcomer", "hasSuchTie", "(LSameParts$Town;LSameParts$Parting;II)Z"⟩, 4), (⟨"SameParts", "partOfYear", "(IILSameParts$Parting;)V"⟩, 13), (⟨"SameParts$Matching", "keepers", "(LSameParts$Parting;LSameParts$Parting;)I"⟩, 2), (⟨"SameParts$Matching", "bestFor", "(III)I"⟩, 2)]
theorem lw_r5 : ∀ q ∈ lw_privs_5, lw_okq q := List.forall_mem_cons.mpr ⟨lw_p64, List.forall_mem_cons.mpr ⟨lw_p65, List.forall_mem_cons.mpr ⟨lw_p66, List.forall_mem_cons.mpr ⟨lw_p67, List.forall_mem_cons.mpr ⟨lw_p68, List.forall_mem_cons.mpr ⟨lw_p69, List.forall_mem_cons.mpr ⟨lw_p70, List.forall_mem_cons.mpr ⟨lw_p71, List.forall_mem_cons.mpr ⟨lw_p72, List.forall_mem_cons.mpr ⟨lw_p73, List.forall_mem_cons.mpr ⟨lw_p74, List.forall_mem_cons.mpr ⟨lw_p75, List.forall_mem_cons.mpr ⟨lw_p76, List.forall_mem_cons.mpr ⟨lw_p77, List.forall_mem_cons.mpr ⟨lw_p78, List.forall_mem_cons.mpr ⟨lw_p79, fun _ h => absurd h List.not_mem_nil⟩⟩⟩⟩⟩⟩⟩⟩⟩⟩⟩⟩⟩⟩⟩⟩
theorem lw_p80 : lw_okq (⟨"SameParts$Told", "nextChange", "(I)I"⟩, 2) := ⟨⟨by decide +kernel, by decide +kernel⟩, List.mem_of_getElem? (i := 47) (by decide +kernel), List.mem_of_getElem? (i := 765) (by decide +kernel), List.mem_of_getElem? (i := 766) (by decide +kernel)⟩
theorem lw_p81 : lw_okq (⟨"SameParts$Town", "tiesInAll", "()I"⟩, 3) := ⟨⟨by decide +kernel, by decide +kernel⟩, List.mem_of_getElem? (i := 22) (by decide +kernel), List.mem_of_getElem? (i := 774) (by decide +kernel), List.mem_of_getElem? (i := 775) (by decide +kernel)⟩
theorem lw_p82 : lw_okq (⟨"SamePartsModel", "no", "(I)I"⟩, 34) := ⟨⟨by decide +kernel, by decide +kernel⟩, List.mem_of_getElem? (i := 779) (by decide +kernel), List.mem_of_getElem? (i := 897) (by decide +kernel), List.mem_of_getElem? (i := 898) (by decide +kernel)⟩
theorem lw_p83 : lw_okq (⟨"SamePartsModel", "isPerson", "(I)Z"⟩, 34) := ⟨⟨by decide +kernel, by decide +kernel⟩, List.mem_of_getElem? (i := 779) (by decide +kernel), List.mem_of_getElem? (i := 905) (by decide +kernel), List.mem_of_getElem? (i := 906) (by decide +kernel)⟩
theorem lw_p84 : lw_okq (⟨"SamePartsModel", "reads", "()Z"⟩, 34) := ⟨⟨by decide +kernel, by decide +kernel⟩, List.mem_of_getElem? (i := 779) (by decide +kernel), List.mem_of_getElem? (i := 925) (by decide +kernel), List.mem_of_getElem? (i := 926) (by decide +kernel)⟩
theorem lw_p85 : lw_okq (⟨"SamePartsModel", "oneTie", "()Z"⟩, 34) := ⟨⟨by decide +kernel, by decide +kernel⟩, List.mem_of_getElem? (i := 779) (by decide +kernel), List.mem_of_getElem? (i := 929) (by decide +kernel), List.mem_of_getElem? (i := 930) (by decide +kernel)⟩
theorem lw_p86 : lw_okq (⟨"SamePartsModel", "takesIn", "(III)I"⟩, 34) := ⟨⟨by decide +kernel, by decide +kernel⟩, List.mem_of_getElem? (i := 779) (by decide +kernel), List.mem_of_getElem? (i := 933) (by decide +kernel), List.mem_of_getElem? (i := 934) (by decide +kernel)⟩
theorem lw_p87 : lw_okq (⟨"SamePartsModel", "sign", "()I"⟩, 34) := ⟨⟨by decide +kernel, by decide +kernel⟩, List.mem_of_getElem? (i := 779) (by decide +kernel), List.mem_of_getElem? (i := 937) (by decide +kernel), List.mem_of_getElem? (i := 938) (by decide +kernel)⟩
theorem lw_p88 : lw_okq (⟨"SamePartsModel", "takes", "(I)Z"⟩, 34) := ⟨⟨by decide +kernel, by decide +kernel⟩, List.mem_of_getElem? (i := 779) (by decide +kernel), List.mem_of_getElem? (i := 944) (by decide +kernel), List.mem_of_getElem? (i := 945) (by decide +kernel)⟩
theorem lw_p89 : lw_okq (⟨"SamePartsModel", "years", "(I)I"⟩, 34) := ⟨⟨by decide +kernel, by decide +kernel⟩, List.mem_of_getElem? (i := 779) (by decide +kernel), List.mem_of_getElem? (i := 948) (by decide +kernel), List.mem_of_getElem? (i := 949) (by decide +kernel)⟩
theorem lw_p90 : lw_okq (⟨"SamePartsModel", "findTies", "(I)V"⟩, 34) := ⟨⟨by decide +kernel, by decide +kernel⟩, List.mem_of_getElem? (i := 779) (by decide +kernel), List.mem_of_getElem? (i := 965) (by decide +kernel), List.mem_of_getElem? (i := 966) (by decide +kernel)⟩
theorem lw_p91 : lw_okq (⟨"SamePartsModel", "strong", "(III)I"⟩, 34) := ⟨⟨by decide +kernel, by decide +kernel⟩, List.mem_of_getElem? (i := 779) (by decide +kernel), List.mem_of_getElem? (i := 969) (by decide +kernel), List.mem_of_getElem? (i := 970) (by decide +kernel)⟩
theorem lw_p92 : lw_okq (⟨"SamePartsModel", "has", "(III)Z"⟩, 34) := ⟨⟨by decide +kernel, by decide +kernel⟩, List.mem_of_getElem? (i := 779) (by decide +kernel), List.mem_of_getElem? (i := 977) (by decide +kernel), List.mem_of_getElem? (i := 978) (by decide +kernel)⟩
theorem lw_p93 : lw_okq (⟨"SamePartsModel", "opens", "(I[I)I"⟩, 34) := ⟨⟨by decide +kernel, by decide +kernel⟩, List.mem_of_getElem? (i := 779) (by decide +kernel), List.mem_of_getElem? (i := 985) (by decide +kernel), List.mem_of_getElem? (i := 986) (by decide +kernel)⟩
theorem lw_p94 : lw_okq (⟨"SamePartsModel", "judged", "(I)I"⟩, 34) := ⟨⟨by decide +kernel, by decide +kernel⟩, List.mem_of_getElem? (i := 779) (by decide +kernel), List.mem_of_getElem? (i := 996) (by decide +kernel), List.mem_of_getElem? (i := 997) (by decide +kernel)⟩
theorem lw_p95 : lw_okq (⟨"SamePartsModel", "areSo", "(III)Z"⟩, 34) := ⟨⟨by decide +kernel, by decide +kernel⟩, List.mem_of_getElem? (i := 779) (by decide +kernel), List.mem_of_getElem? (i := 1000) (by decide +kernel), List.mem_of_getElem? (i := 1001) (by decide +kernel)⟩
def lw_privs_6 : List (MethodName × Nat) := [(⟨"SameParts$Told", "nextChange", "(I)I"⟩, 2), (⟨"SameParts$Town", "tiesInAll", "()I"⟩, 3), (⟨"SamePartsModel", "no", "(I)I"⟩, 34), (⟨"SamePartsModel", "isPerson", "(I)Z"⟩, 34), (⟨"SamePartsModel", "reads", "()Z"⟩, 34), (⟨"SamePartsModel", "oneTie", "()Z"⟩, 34), (⟨"SamePartsModel", "takesIn", "(III)I"⟩, 34), (⟨"SamePartsModel", "sign", "()I"⟩, 34), (⟨"SamePartsModel", "takes", "(I)Z"⟩, 34), (⟨"SamePartsModel", "years", "(I)I"⟩, 34), (⟨"SamePartsModel", "findTies", "(I)V"⟩, 34), (⟨"SamePartsModel", "strong", "(III)I"⟩, 34), (⟨"SamePartsModel", "has", "(III)Z"⟩, 34), (⟨"SamePartsModel", "opens", "(I[I)I"⟩, 34), (⟨"SamePartsModel", "judged", "(I)I"⟩, 34), (⟨"SamePartsModel", "areSo", "(III)Z"⟩, 34)]
theorem lw_r6 : ∀ q ∈ lw_privs_6, lw_okq q := List.forall_mem_cons.mpr ⟨lw_p80, List.forall_mem_cons.mpr ⟨lw_p81, List.forall_mem_cons.mpr ⟨lw_p82, List.forall_mem_cons.mpr ⟨lw_p83, List.forall_mem_cons.mpr ⟨lw_p84, List.forall_mem_cons.mpr ⟨lw_p85, List.forall_mem_cons.mpr ⟨lw_p86, List.forall_mem_cons.mpr ⟨lw_p87, List.forall_mem_cons.mpr ⟨lw_p88, List.forall_mem_cons.mpr ⟨lw_p89, List.forall_mem_cons.mpr ⟨lw_p90, List.forall_mem_cons.mpr ⟨lw_p91, List.forall_mem_cons.mpr ⟨lw_p92, List.forall_mem_cons.mpr ⟨lw_p93, List.forall_mem_cons.mpr ⟨lw_p94, List.forall_mem_cons.mpr ⟨lw_p95, fun _ h => absurd h List.not_mem_nil⟩⟩⟩⟩⟩⟩⟩⟩⟩⟩⟩⟩⟩⟩⟩⟩
theorem lw_p96 : lw_okq (⟨"SamePartsModel", "areTied", "(IIZ)Z"⟩, 34) := ⟨⟨by decide +kernel, by decide +kernel⟩, List.mem_of_getElem? (i := 779) (by decide +kernel), List.mem_of_getElem? (i := 1004) (by decide +kernel), List.mem_of_getElem? (i := 1005) (by decide +kernel)⟩
theorem lw_p97 : lw_okq (⟨"SamePartsModel", "areLed", "(IIZ)Z"⟩, 34) := ⟨⟨by decide +kernel, by decide +kernel⟩, List.mem_of_getElem? (i := 779) (by decide +kernel), List.mem_of_getElem? (i := 1011) (by decide +kernel), List.mem_of_getElem? (i := 1012) (by decide +kernel)⟩
theorem lw_p98 : lw_okq (⟨"SamePartsModel", "led", "(IIIZ)I"⟩, 34) := ⟨⟨by decide +kernel, by decide +kernel⟩, List.mem_of_getElem? (i := 779) (by decide +kernel), List.mem_of_getElem? (i := 1015) (by decide +kernel), List.mem_of_getElem? (i := 1016) (by decide +kernel)⟩
theorem lw_p99 : lw_okq (⟨"SamePartsModel", "splits", "(I)I"⟩, 34) := ⟨⟨by decide +kernel, by decide +kernel⟩, List.mem_of_getElem? (i := 779) (by decide +kernel), List.mem_of_getElem? (i := 1023) (by decide +kernel), List.mem_of_getElem? (i := 1024) (by decide +kernel)⟩
theorem lw_p100 : lw_okq (⟨"SamePartsModel", "number", "([I)I"⟩, 34) := ⟨⟨by decide +kernel, by decide +kernel⟩, List.mem_of_getElem? (i := 779) (by decide +kernel), List.mem_of_getElem? (i := 1027) (by decide +kernel), List.mem_of_getElem? (i := 1028) (by decide +kernel)⟩
theorem lw_p101 : lw_okq (⟨"SamePartsModel", "findTurns", "()I"⟩, 34) := ⟨⟨by decide +kernel, by decide +kernel⟩, List.mem_of_getElem? (i := 779) (by decide +kernel), List.mem_of_getElem? (i := 1035) (by decide +kernel), List.mem_of_getElem? (i := 1036) (by decide +kernel)⟩
theorem lw_p102 : lw_okq (⟨"SamePartsModel", "firstNames", "()V"⟩, 34) := ⟨⟨by decide +kernel, by decide +kernel⟩, List.mem_of_getElem? (i := 779) (by decide +kernel), List.mem_of_getElem? (i := 1039) (by decide +kernel), List.mem_of_getElem? (i := 1040) (by decide +kernel)⟩
theorem lw_p103 : lw_okq (⟨"SamePartsModel", "isTurn", "()Z"⟩, 34) := ⟨⟨by decide +kernel, by decide +kernel⟩, List.mem_of_getElem? (i := 779) (by decide +kernel), List.mem_of_getElem? (i := 1043) (by decide +kernel), List.mem_of_getElem? (i := 1044) (by decide +kernel)⟩
theorem lw_p104 : lw_okq (⟨"SamePartsModel", "nextNames", "(I)Z"⟩, 34) := ⟨⟨by decide +kernel, by decide +kernel⟩, List.mem_of_getElem? (i := 779) (by decide +kernel), List.mem_of_getElem? (i := 1047) (by decide +kernel), List.mem_of_getElem? (i := 1048) (by decide +kernel)⟩
theorem lw_p105 : lw_okq (⟨"SamePartsModel", "firstParting", "()V"⟩, 34) := ⟨⟨by decide +kernel, by decide +kernel⟩, List.mem_of_getElem? (i := 779) (by decide +kernel), List.mem_of_getElem? (i := 1069) (by decide +kernel), List.mem_of_getElem? (i := 1070) (by decide +kernel)⟩
theorem lw_p106 : lw_okq (⟨"SamePartsModel", "nextParting", "()Z"⟩, 34) := ⟨⟨by decide +kernel, by decide +kernel⟩, List.mem_of_getElem? (i := 779) (by decide +kernel), List.mem_of_getElem? (i := 1073) (by decide +kernel), List.mem_of_getElem? (i := 1074) (by decide +kernel)⟩
theorem lw_p107 : lw_okq (⟨"SamePartsModel", "wrongOf", "()I"⟩, 34) := ⟨⟨by decide +kernel, by decide +kernel⟩, List.mem_of_getElem? (i := 779) (by decide +kernel), List.mem_of_getElem? (i := 1097) (by decide +kernel), List.mem_of_getElem? (i := 1098) (by decide +kernel)⟩
theorem lw_p108 : lw_okq (⟨"SamePartsModel", "parts", "()I"⟩, 34) := ⟨⟨by decide +kernel, by decide +kernel⟩, List.mem_of_getElem? (i := 779) (by decide +kernel), List.mem_of_getElem? (i := 1106) (by decide +kernel), List.mem_of_getElem? (i := 1107) (by decide +kernel)⟩
theorem lw_p109 : lw_okq (⟨"SamePartsModel", "less", "(I)I"⟩, 34) := ⟨⟨by decide +kernel, by decide +kernel⟩, List.mem_of_getElem? (i := 779) (by decide +kernel), List.mem_of_getElem? (i := 1114) (by decide +kernel), List.mem_of_getElem? (i := 1115) (by decide +kernel)⟩
theorem lw_p110 : lw_okq (⟨"SamePartsModel", "isFit", "(II)Z"⟩, 34) := ⟨⟨by decide +kernel, by decide +kernel⟩, List.mem_of_getElem? (i := 779) (by decide +kernel), List.mem_of_getElem? (i := 1127) (by decide +kernel), List.mem_of_getElem? (i := 1128) (by decide +kernel)⟩
theorem lw_p111 : lw_okq (⟨"SamePartsModel", "coarsestOn", "(II)I"⟩, 34) := ⟨⟨by decide +kernel, by decide +kernel⟩, List.mem_of_getElem? (i := 779) (by decide +kernel), List.mem_of_getElem? (i := 1139) (by decide +kernel), List.mem_of_getElem? (i := 1140) (by decide +kernel)⟩
def lw_privs_7 : List (MethodName × Nat) := [(⟨"SamePartsModel", "areTied", "(IIZ)Z"⟩, 34), (⟨"SamePartsModel", "areLed", "(IIZ)Z"⟩, 34), (⟨"SamePartsModel", "led", "(IIIZ)I"⟩, 34), (⟨"SamePartsModel", "splits", "(I)I"⟩, 34), (⟨"SamePartsModel", "number", "([I)I"⟩, 34), (⟨"SamePartsModel", "findTurns", "()I"⟩, 34), (⟨"SamePartsModel", "firstNames", "()V"⟩, 34), (⟨"SamePartsModel", "isTurn", "()Z"⟩, 34), (⟨"SamePartsModel", "nextNames", "(I)Z"⟩, 34), (⟨"SamePartsModel", "firstParting", "()V"⟩, 34), (⟨"SamePartsModel", "nextParting", "()Z"⟩, 34), (⟨"SamePartsModel", "wrongOf", "()I"⟩, 34), (⟨"SamePartsModel", "parts", "()I"⟩, 34), (⟨"SamePartsModel", "less", "(I)I"⟩, 34), (⟨"SamePartsModel", "isFit", "(II)Z"⟩, 34), (⟨"SamePartsModel", "coarsestOn", "(II)I"⟩, 34)]
theorem lw_r7 : ∀ q ∈ lw_privs_7, lw_okq q := List.forall_mem_cons.mpr ⟨lw_p96, List.forall_mem_cons.mpr ⟨lw_p97, List.forall_mem_cons.mpr ⟨lw_p98, List.forall_mem_cons.mpr ⟨lw_p99, List.forall_mem_cons.mpr ⟨lw_p100, List.forall_mem_cons.mpr ⟨lw_p101, List.forall_mem_cons.mpr ⟨lw_p102, List.forall_mem_cons.mpr ⟨lw_p103, List.forall_mem_cons.mpr ⟨lw_p104, List.forall_mem_cons.mpr ⟨lw_p105, List.forall_mem_cons.mpr ⟨lw_p106, List.forall_mem_cons.mpr ⟨lw_p107, List.forall_mem_cons.mpr ⟨lw_p108, List.forall_mem_cons.mpr ⟨lw_p109, List.forall_mem_cons.mpr ⟨lw_p110, List.forall_mem_cons.mpr ⟨lw_p111, fun _ h => absurd h List.not_mem_nil⟩⟩⟩⟩⟩⟩⟩⟩⟩⟩⟩⟩⟩⟩⟩⟩
def lw_privs : List (MethodName × Nat) := lw_privs_1 ++ (lw_privs_2 ++ (lw_privs_3 ++ (lw_privs_4 ++ (lw_privs_5 ++ (lw_privs_6 ++ (lw_privs_7))))))
def lw_tbl : List Cond := k2_sels lw_privs ++ tables_1
theorem lw_privs_ok : ∀ q ∈ lw_privs, lw_okq q := by
  show ∀ q ∈ lw_privs_1 ++ (lw_privs_2 ++ (lw_privs_3 ++ (lw_privs_4 ++ (lw_privs_5 ++ (lw_privs_6 ++ (lw_privs_7)))))), lw_okq q
  exact List.forall_mem_append.mpr ⟨lw_r1, List.forall_mem_append.mpr ⟨lw_r2, List.forall_mem_append.mpr ⟨lw_r3, List.forall_mem_append.mpr ⟨lw_r4, List.forall_mem_append.mpr ⟨lw_r5, List.forall_mem_append.mpr ⟨lw_r6, lw_r7⟩⟩⟩⟩⟩⟩
end
section
def RX0 : String := "SameParts$Blocks"
def TX0 : u_T := fun k => match k with
  | 0 => ("SameParts$Blocks", "tally", "[I", true)
  | _ => ("SameParts$Blocks", "sizes", "[I", true)
def tyX0 : Nat → FieldType := fun k => match k with
  | 0 => .array .int
  | _ => .array .int
abbrev wsX00 : List Cond := u_ws RX0 TX0 2
theorem nmX0 : ∀ a, a < 2 → ∀ b, b < 2 → a ≠ b → (TX0 a).2.1 ≠ (TX0 b).2.1 := by decide +kernel
theorem tyX0_ok : ∀ k, k < 2 → parseFieldDescriptor (TX0 k).2.2.1 = some (tyX0 k) := by decide +kernel
abbrev cX0_init : ByteArray := prog_2_method_1_code
def yX0_init : MethodName := ⟨RX0, "<init>", "()V"⟩
abbrev cX0_misfits : ByteArray := prog_2_method_2_code
def yX0_misfits : MethodName := ⟨RX0, "misfits", "(LSameParts$Town;LSameParts$Parting;)I"⟩
abbrev cX0_tallyTies : ByteArray := prog_2_method_3_code
def yX0_tallyTies : MethodName := ⟨RX0, "tallyTies", "(LSameParts$Town;LSameParts$Parting;)V"⟩
abbrev cX0_misfit : ByteArray := prog_2_method_4_code
def yX0_misfit : MethodName := ⟨RX0, "misfit", "(IIII)I"⟩
abbrev cX0_bestWith : ByteArray := prog_2_method_5_code
def yX0_bestWith : MethodName := ⟨RX0, "bestWith", "(LSameParts$Town;LSameParts$Parting;II)I"⟩
abbrev cX0_worstTie : ByteArray := prog_2_method_6_code
def yX0_worstTie : MethodName := ⟨RX0, "worstTie", "(LSameParts$Town;LSameParts$Parting;Z)I"⟩
abbrev cX0_gainOf : ByteArray := prog_2_method_7_code
def yX0_gainOf : MethodName := ⟨RX0, "gainOf", "(LSameParts$Town;LSameParts$Parting;III)I"⟩
abbrev cX0_image : ByteArray := prog_2_method_8_code
def yX0_image : MethodName := ⟨RX0, "image", "(LSameParts$Town;LSameParts$Parting;III)I"⟩
abbrev cX0_tiesTo : ByteArray := prog_2_method_9_code
def yX0_tiesTo : MethodName := ⟨RX0, "tiesTo", "(LSameParts$Town;LSameParts$Parting;III)I"⟩
def RX1 : String := "SameParts$Matching"
def TX1 : u_T := fun k => match k with
  | 0 => ("SameParts$Matching", "shared", "[I", true)
  | _ => ("SameParts$Matching", "most", "[I", true)
def tyX1 : Nat → FieldType := fun k => match k with
  | 0 => .array .int
  | _ => .array .int
abbrev wsX10 : List Cond := u_ws RX1 TX1 2
theorem nmX1 : ∀ a, a < 2 → ∀ b, b < 2 → a ≠ b → (TX1 a).2.1 ≠ (TX1 b).2.1 := by decide +kernel
theorem tyX1_ok : ∀ k, k < 2 → parseFieldDescriptor (TX1 k).2.2.1 = some (tyX1 k) := by decide +kernel
abbrev cX1_init : ByteArray := prog_3_method_1_code
def yX1_init : MethodName := ⟨RX1, "<init>", "()V"⟩
abbrev cX1_keepers : ByteArray := prog_3_method_2_code
def yX1_keepers : MethodName := ⟨RX1, "keepers", "(LSameParts$Parting;LSameParts$Parting;)I"⟩
abbrev cX1_bestFor : ByteArray := prog_3_method_3_code
def yX1_bestFor : MethodName := ⟨RX1, "bestFor", "(III)I"⟩
def RX2 : String := "SameParts$Newcomer"
def TX2 : u_T := fun k => match k with
  | 0 => ("SameParts$Newcomer", "kinds", "[I", true)
  | 1 => ("SameParts$Newcomer", "persons", "[I", true)
  | 2 => ("SameParts$Newcomer", "outgoing", "[I", true)
  | _ => ("SameParts$Newcomer", "size", "I", false)
def tyX2 : Nat → FieldType := fun k => match k with
  | 0 => .array .int
  | 1 => .array .int
  | 2 => .array .int
  | _ => .int
abbrev wsX20 : List Cond := u_ws RX2 TX2 4
theorem nmX2 : ∀ a, a < 4 → ∀ b, b < 4 → a ≠ b → (TX2 a).2.1 ≠ (TX2 b).2.1 := by decide +kernel
theorem tyX2_ok : ∀ k, k < 4 → parseFieldDescriptor (TX2 k).2.2.1 = some (tyX2 k) := by decide +kernel
abbrev cX2_init : ByteArray := prog_4_method_1_code
def yX2_init : MethodName := ⟨RX2, "<init>", "()V"⟩
abbrev cX2_append : ByteArray := prog_4_method_2_code
def yX2_append : MethodName := ⟨RX2, "append", "(IIZ)V"⟩
abbrev cX2_suitingParts : ByteArray := prog_4_method_3_code
def yX2_suitingParts : MethodName := ⟨RX2, "suitingParts", "(LSameParts$Town;LSameParts$Parting;)I"⟩
abbrev cX2_hasSuchTie : ByteArray := prog_4_method_4_code
def yX2_hasSuchTie : MethodName := ⟨RX2, "hasSuchTie", "(LSameParts$Town;LSameParts$Parting;II)Z"⟩
def RX3 : String := "SameParts$Parting"
def TX3 : u_T := fun k => match k with
  | 0 => ("SameParts$Parting", "part", "[I", true)
  | 1 => ("SameParts$Parting", "persons", "I", false)
  | _ => ("SameParts$Parting", "parts", "I", false)
def tyX3 : Nat → FieldType := fun k => match k with
  | 0 => .array .int
  | 1 => .int
  | _ => .int
abbrev wsX30 : List Cond := u_ws RX3 TX3 3
theorem nmX3 : ∀ a, a < 3 → ∀ b, b < 3 → a ≠ b → (TX3 a).2.1 ≠ (TX3 b).2.1 := by decide +kernel
theorem tyX3_ok : ∀ k, k < 3 → parseFieldDescriptor (TX3 k).2.2.1 = some (tyX3 k) := by decide +kernel
abbrev cX3_init : ByteArray := prog_5_method_1_code
def yX3_init : MethodName := ⟨RX3, "<init>", "()V"⟩
abbrev cX3_readNumber : ByteArray := prog_5_method_2_code
def yX3_readNumber : MethodName := ⟨RX3, "readNumber", "(II)Z"⟩
abbrev cX3_number : ByteArray := prog_5_method_3_code
def yX3_number : MethodName := ⟨RX3, "number", "()I"⟩
abbrev cX3_of : ByteArray := prog_5_method_4_code
def yX3_of : MethodName := ⟨RX3, "of", "(I)I"⟩
abbrev cX3_has : ByteArray := prog_5_method_5_code
def yX3_has : MethodName := ⟨RX3, "has", "(I)Z"⟩
abbrev cX3_together : ByteArray := prog_5_method_6_code
def yX3_together : MethodName := ⟨RX3, "together", "(II)Z"⟩
abbrev cX3_allInOne : ByteArray := prog_5_method_7_code
def yX3_allInOne : MethodName := ⟨RX3, "allInOne", "(I)V"⟩
abbrev cX3_begin : ByteArray := prog_5_method_8_code
def yX3_begin : MethodName := ⟨RX3, "begin", "(I)V"⟩
abbrev cX3_place : ByteArray := prog_5_method_9_code
def yX3_place : MethodName := ⟨RX3, "place", "(II)V"⟩
abbrev cX3_forward : ByteArray := prog_5_method_10_code
def yX3_forward : MethodName := ⟨RX3, "forward", "()Z"⟩
abbrev cX3_topAhead : ByteArray := prog_5_method_11_code
def yX3_topAhead : MethodName := ⟨RX3, "topAhead", "(I)I"⟩
abbrev cX3_copy : ByteArray := prog_5_method_12_code
def yX3_copy : MethodName := ⟨RX3, "copy", "(LSameParts$Parting;)V"⟩
abbrev cX3_mergeBy : ByteArray := prog_5_method_13_code
def yX3_mergeBy : MethodName := ⟨RX3, "mergeBy", "(LSameParts$Parting;)V"⟩
abbrev cX3_rename : ByteArray := prog_5_method_14_code
def yX3_rename : MethodName := ⟨RX3, "rename", "(II)V"⟩
abbrev cX3_copyRenumbered : ByteArray := prog_5_method_15_code
def yX3_copyRenumbered : MethodName := ⟨RX3, "copyRenumbered", "(LSameParts$Parting;)V"⟩
abbrev cX3_cross : ByteArray := prog_5_method_16_code
def yX3_cross : MethodName := ⟨RX3, "cross", "(LSameParts$Parting;LSameParts$Parting;)V"⟩
abbrev cX3_sizeOf : ByteArray := prog_5_method_17_code
def yX3_sizeOf : MethodName := ⟨RX3, "sizeOf", "(I)I"⟩
def RX4 : String := "SameParts$Sameness"
def TX4 : u_T := fun k => match k with
  | _ => ("SameParts$Sameness", "views", "[I", true)
def tyX4 : Nat → FieldType := fun k => match k with
  | _ => .array .int
abbrev wsX40 : List Cond := u_ws RX4 TX4 1
theorem nmX4 : ∀ a, a < 1 → ∀ b, b < 1 → a ≠ b → (TX4 a).2.1 ≠ (TX4 b).2.1 := by decide +kernel
theorem tyX4_ok : ∀ k, k < 1 → parseFieldDescriptor (TX4 k).2.2.1 = some (tyX4 k) := by decide +kernel
abbrev cX4_init : ByteArray := prog_6_method_1_code
def yX4_init : MethodName := ⟨RX4, "<init>", "()V"⟩
abbrev cX4_firstUnlike : ByteArray := prog_6_method_2_code
def yX4_firstUnlike : MethodName := ⟨RX4, "firstUnlike", "(LSameParts$Town;LSameParts$Parting;I)I"⟩
abbrev cX4_refine : ByteArray := prog_6_method_3_code
def yX4_refine : MethodName := ⟨RX4, "refine", "(LSameParts$Town;LSameParts$Parting;LSameParts$Parting;I)V"⟩
abbrev cX4_split : ByteArray := prog_6_method_4_code
def yX4_split : MethodName := ⟨RX4, "split", "(LSameParts$Town;LSameParts$Parting;LSameParts$Parting;I)V"⟩
abbrev cX4_alike : ByteArray := prog_6_method_5_code
def yX4_alike : MethodName := ⟨RX4, "alike", "(LSameParts$Town;III)Z"⟩
abbrev cX4_sameView : ByteArray := prog_6_method_6_code
def yX4_sameView : MethodName := ⟨RX4, "sameView", "(II)Z"⟩
abbrev cX4_look : ByteArray := prog_6_method_7_code
def yX4_look : MethodName := ⟨RX4, "look", "(LSameParts$Town;LSameParts$Parting;I)V"⟩
abbrev cX4_note : ByteArray := prog_6_method_8_code
def yX4_note : MethodName := ⟨RX4, "note", "(IIZ)V"⟩
abbrev cX4_swappable : ByteArray := prog_6_method_9_code
def yX4_swappable : MethodName := ⟨RX4, "swappable", "(LSameParts$Town;IIZ)Z"⟩
abbrev cX4_match : ByteArray := prog_6_method_10_code
def yX4_match : MethodName := ⟨RX4, "match", "(IIZ)Z"⟩
def RX5 : String := "SameParts$Tape"
def TX5 : u_T := fun k => match k with
  | 0 => ("SameParts$Tape", "bytes", "[I", true)
  | 1 => ("SameParts$Tape", "heard", "LSameParts$Told;", true)
  | 2 => ("SameParts$Tape", "size", "I", false)
  | 3 => ("SameParts$Tape", "place", "I", false)
  | _ => ("SameParts$Tape", "persons", "I", false)
def tyX5 : Nat → FieldType := fun k => match k with
  | 0 => .array .int
  | 1 => .object "SameParts$Told"
  | 2 => .int
  | 3 => .int
  | _ => .int
abbrev wsX50 : List Cond := u_ws RX5 TX5 5
theorem nmX5 : ∀ a, a < 5 → ∀ b, b < 5 → a ≠ b → (TX5 a).2.1 ≠ (TX5 b).2.1 := by decide +kernel
theorem tyX5_ok : ∀ k, k < 5 → parseFieldDescriptor (TX5 k).2.2.1 = some (tyX5 k) := by decide +kernel
abbrev cX5_init : ByteArray := prog_7_method_1_code
def yX5_init : MethodName := ⟨RX5, "<init>", "()V"⟩
abbrev cX5_append : ByteArray := prog_7_method_2_code
def yX5_append : MethodName := ⟨RX5, "append", "(I)V"⟩
abbrev cX5_readAll : ByteArray := prog_7_method_3_code
def yX5_readAll : MethodName := ⟨RX5, "readAll", "(I)Z"⟩
abbrev cX5_readTie : ByteArray := prog_7_method_4_code
def yX5_readTie : MethodName := ⟨RX5, "readTie", "()Z"⟩
abbrev cX5_readPerson : ByteArray := prog_7_method_5_code
def yX5_readPerson : MethodName := ⟨RX5, "readPerson", "(I)Z"⟩
abbrev cX5_readStrength : ByteArray := prog_7_method_6_code
def yX5_readStrength : MethodName := ⟨RX5, "readStrength", "()Z"⟩
abbrev cX5_readYears : ByteArray := prog_7_method_7_code
def yX5_readYears : MethodName := ⟨RX5, "readYears", "()Z"⟩
abbrev cX5_readYear : ByteArray := prog_7_method_8_code
def yX5_readYear : MethodName := ⟨RX5, "readYear", "(II)Z"⟩
abbrev cX5_readInto : ByteArray := prog_7_method_9_code
def yX5_readInto : MethodName := ⟨RX5, "readInto", "(IIII)Z"⟩
abbrev cX5_drafted : ByteArray := prog_7_method_10_code
def yX5_drafted : MethodName := ⟨RX5, "drafted", "(I)I"⟩
abbrev cX5_skip : ByteArray := prog_7_method_11_code
def yX5_skip : MethodName := ⟨RX5, "skip", "(I)Z"⟩
abbrev cX5_here : ByteArray := prog_7_method_12_code
def yX5_here : MethodName := ⟨RX5, "here", "()I"⟩
def RX6 : String := "SameParts$Told"
def TX6 : u_T := fun k => match k with
  | 0 => ("SameParts$Told", "rows", "[I", true)
  | _ => ("SameParts$Told", "size", "I", false)
def tyX6 : Nat → FieldType := fun k => match k with
  | 0 => .array .int
  | _ => .int
abbrev wsX60 : List Cond := u_ws RX6 TX6 2
theorem nmX6 : ∀ a, a < 2 → ∀ b, b < 2 → a ≠ b → (TX6 a).2.1 ≠ (TX6 b).2.1 := by decide +kernel
theorem tyX6_ok : ∀ k, k < 2 → parseFieldDescriptor (TX6 k).2.2.1 = some (tyX6 k) := by decide +kernel
abbrev cX6_init : ByteArray := prog_8_method_1_code
def yX6_init : MethodName := ⟨RX6, "<init>", "()V"⟩
abbrev cX6_drain : ByteArray := prog_8_method_2_code
def yX6_drain : MethodName := ⟨RX6, "drain", "()V"⟩
abbrev cX6_field : ByteArray := prog_8_method_3_code
def yX6_field : MethodName := ⟨RX6, "field", "(II)I"⟩
abbrev cX6_draft : ByteArray := prog_8_method_4_code
def yX6_draft : MethodName := ⟨RX6, "draft", "(II)V"⟩
abbrev cX6_endDraft : ByteArray := prog_8_method_5_code
def yX6_endDraft : MethodName := ⟨RX6, "endDraft", "()V"⟩
abbrev cX6_takeAll : ByteArray := prog_8_method_6_code
def yX6_takeAll : MethodName := ⟨RX6, "takeAll", "(LSameParts$Told;)V"⟩
abbrev cX6_drop : ByteArray := prog_8_method_7_code
def yX6_drop : MethodName := ⟨RX6, "drop", "(I)V"⟩
abbrev cX6_draw : ByteArray := prog_8_method_8_code
def yX6_draw : MethodName := ⟨RX6, "draw", "(LSameParts$Town;I)V"⟩
abbrev cX6_nextChange : ByteArray := prog_8_method_9_code
def yX6_nextChange : MethodName := ⟨RX6, "nextChange", "(I)I"⟩
def RX7 : String := "SameParts$Town"
def TX7 : u_T := fun k => match k with
  | 0 => ("SameParts$Town", "marks", "[I", true)
  | 1 => ("SameParts$Town", "strengths", "[I", true)
  | _ => ("SameParts$Town", "size", "I", false)
def tyX7 : Nat → FieldType := fun k => match k with
  | 0 => .array .int
  | 1 => .array .int
  | _ => .int
abbrev wsX70 : List Cond := u_ws RX7 TX7 3
theorem nmX7 : ∀ a, a < 3 → ∀ b, b < 3 → a ≠ b → (TX7 a).2.1 ≠ (TX7 b).2.1 := by decide +kernel
theorem tyX7_ok : ∀ k, k < 3 → parseFieldDescriptor (TX7 k).2.2.1 = some (tyX7 k) := by decide +kernel
abbrev cX7_init : ByteArray := prog_9_method_1_code
def yX7_init : MethodName := ⟨RX7, "<init>", "()V"⟩
abbrev cX7_settle : ByteArray := prog_9_method_2_code
def yX7_settle : MethodName := ⟨RX7, "settle", "(I)V"⟩
abbrev cX7_lives : ByteArray := prog_9_method_3_code
def yX7_lives : MethodName := ⟨RX7, "lives", "(I)Z"⟩
abbrev cX7_strength : ByteArray := prog_9_method_4_code
def yX7_strength : MethodName := ⟨RX7, "strength", "(III)I"⟩
abbrev cX7_tied : ByteArray := prog_9_method_5_code
def yX7_tied : MethodName := ⟨RX7, "tied", "(III)Z"⟩
abbrev cX7_sameMark : ByteArray := prog_9_method_6_code
def yX7_sameMark : MethodName := ⟨RX7, "sameMark", "(II)Z"⟩
abbrev cX7_tiesOf : ByteArray := prog_9_method_7_code
def yX7_tiesOf : MethodName := ⟨RX7, "tiesOf", "(IIZ)I"⟩
abbrev cX7_tiesOfKind : ByteArray := prog_9_method_8_code
def yX7_tiesOfKind : MethodName := ⟨RX7, "tiesOfKind", "(I)I"⟩
abbrev cX7_tiesInAll : ByteArray := prog_9_method_9_code
def yX7_tiesInAll : MethodName := ⟨RX7, "tiesInAll", "()I"⟩
def RX8 : String := "SameParts$Turns"
def TX8 : u_T := fun k => match k with
  | 0 => ("SameParts$Turns", "image", "[I", true)
  | 1 => ("SameParts$Turns", "best", "[I", true)
  | 2 => ("SameParts$Turns", "twinsAhead", "[I", true)
  | 3 => ("SameParts$Turns", "depth", "I", false)
  | _ => ("SameParts$Turns", "used", "I", false)
def tyX8 : Nat → FieldType := fun k => match k with
  | 0 => .array .int
  | 1 => .array .int
  | 2 => .array .int
  | 3 => .int
  | _ => .int
abbrev wsX80 : List Cond := u_ws RX8 TX8 5
theorem nmX8 : ∀ a, a < 5 → ∀ b, b < 5 → a ≠ b → (TX8 a).2.1 ≠ (TX8 b).2.1 := by decide +kernel
theorem tyX8_ok : ∀ k, k < 5 → parseFieldDescriptor (TX8 k).2.2.1 = some (tyX8 k) := by decide +kernel
abbrev cX8_init : ByteArray := prog_10_method_1_code
def yX8_init : MethodName := ⟨RX8, "<init>", "()V"⟩
abbrev cX8_howMany : ByteArray := prog_10_method_2_code
def yX8_howMany : MethodName := ⟨RX8, "howMany", "(LSameParts$Town;)I"⟩
abbrev cX8_partByOrbit : ByteArray := prog_10_method_3_code
def yX8_partByOrbit : MethodName := ⟨RX8, "partByOrbit", "(LSameParts$Town;LSameParts$Parting;)V"⟩
abbrev cX8_brings : ByteArray := prog_10_method_4_code
def yX8_brings : MethodName := ⟨RX8, "brings", "(LSameParts$Town;III)Z"⟩
abbrev cX8_begin : ByteArray := prog_10_method_5_code
def yX8_begin : MethodName := ⟨RX8, "begin", "()V"⟩
abbrev cX8_step : ByteArray := prog_10_method_6_code
def yX8_step : MethodName := ⟨RX8, "step", "(I)V"⟩
abbrev cX8_lift : ByteArray := prog_10_method_7_code
def yX8_lift : MethodName := ⟨RX8, "lift", "()I"⟩
abbrev cX8_nextKeeping : ByteArray := prog_10_method_8_code
def yX8_nextKeeping : MethodName := ⟨RX8, "nextKeeping", "(LSameParts$Town;III)I"⟩
abbrev cX8_keepsAhead : ByteArray := prog_10_method_9_code
def yX8_keepsAhead : MethodName := ⟨RX8, "keepsAhead", "(LSameParts$Town;I)Z"⟩
abbrev cX8_keeps : ByteArray := prog_10_method_10_code
def yX8_keeps : MethodName := ⟨RX8, "keeps", "(LSameParts$Town;IIII)Z"⟩
abbrev cX8_leastRow : ByteArray := prog_10_method_11_code
def yX8_leastRow : MethodName := ⟨RX8, "leastRow", "(LSameParts$Town;)I"⟩
abbrev cX8_findTwins : ByteArray := prog_10_method_12_code
def yX8_findTwins : MethodName := ⟨RX8, "findTwins", "(LSameParts$Town;)V"⟩
abbrev cX8_firstKind : ByteArray := prog_10_method_13_code
def yX8_firstKind : MethodName := ⟨RX8, "firstKind", "(LSameParts$Town;)I"⟩
abbrev cX8_nextInRow : ByteArray := prog_10_method_14_code
def yX8_nextInRow : MethodName := ⟨RX8, "nextInRow", "(LSameParts$Town;IZ)I"⟩
abbrev cX8_hasLeastMark : ByteArray := prog_10_method_15_code
def yX8_hasLeastMark : MethodName := ⟨RX8, "hasLeastMark", "(LSameParts$Town;I)Z"⟩
abbrev cX8_behindBest : ByteArray := prog_10_method_16_code
def yX8_behindBest : MethodName := ⟨RX8, "behindBest", "(LSameParts$Town;II)Z"⟩
abbrev cX8_lessThanBest : ByteArray := prog_10_method_17_code
def yX8_lessThanBest : MethodName := ⟨RX8, "lessThanBest", "(LSameParts$Town;I)Z"⟩
abbrev cX8_keepBest : ByteArray := prog_10_method_18_code
def yX8_keepBest : MethodName := ⟨RX8, "keepBest", "(LSameParts$Town;)V"⟩
abbrev cX8_bestAsNumber : ByteArray := prog_10_method_19_code
def yX8_bestAsNumber : MethodName := ⟨RX8, "bestAsNumber", "(LSameParts$Town;)I"⟩
abbrev cX8_behind : ByteArray := prog_10_method_20_code
def yX8_behind : MethodName := ⟨RX8, "behind", "(JI)J"⟩
def RX9 : String := "SameParts"
def TX9 : u_T := fun k => match k with
  | 0 => ("SameParts", "town", "LSameParts$Town;", true)
  | 1 => ("SameParts", "told", "LSameParts$Told;", true)
  | 2 => ("SameParts", "tape", "LSameParts$Tape;", true)
  | 3 => ("SameParts", "guest", "LSameParts$Newcomer;", true)
  | 4 => ("SameParts", "sameness", "LSameParts$Sameness;", true)
  | 5 => ("SameParts", "turns", "LSameParts$Turns;", true)
  | 6 => ("SameParts", "blocks", "LSameParts$Blocks;", true)
  | 7 => ("SameParts", "matching", "LSameParts$Matching;", true)
  | 8 => ("SameParts", "first", "LSameParts$Parting;", true)
  | 9 => ("SameParts", "second", "LSameParts$Parting;", true)
  | 10 => ("SameParts", "result", "LSameParts$Parting;", true)
  | 11 => ("SameParts", "refusals", "[I", true)
  | _ => ("SameParts", "now", "I", false)
def tyX9 : Nat → FieldType := fun k => match k with
  | 0 => .object "SameParts$Town"
  | 1 => .object "SameParts$Told"
  | 2 => .object "SameParts$Tape"
  | 3 => .object "SameParts$Newcomer"
  | 4 => .object "SameParts$Sameness"
  | 5 => .object "SameParts$Turns"
  | 6 => .object "SameParts$Blocks"
  | 7 => .object "SameParts$Matching"
  | 8 => .object "SameParts$Parting"
  | 9 => .object "SameParts$Parting"
  | 10 => .object "SameParts$Parting"
  | 11 => .array .int
  | _ => .int
abbrev wsX90 : List Cond := u_ws RX9 TX9 13
theorem nmX9 : ∀ a, a < 13 → ∀ b, b < 13 → a ≠ b → (TX9 a).2.1 ≠ (TX9 b).2.1 := by decide +kernel
theorem tyX9_ok : ∀ k, k < 13 → parseFieldDescriptor (TX9 k).2.2.1 = some (tyX9 k) := by decide +kernel
abbrev cX9_init : ByteArray := prog_1_method_1_code
def yX9_init : MethodName := ⟨RX9, "<init>", "()V"⟩
abbrev cX9_persons : ByteArray := prog_1_method_2_code
def yX9_persons : MethodName := ⟨RX9, "persons", "(I)I"⟩
abbrev cX9_mark : ByteArray := prog_1_method_3_code
def yX9_mark : MethodName := ⟨RX9, "mark", "(II)I"⟩
abbrev cX9_year : ByteArray := prog_1_method_4_code
def yX9_year : MethodName := ⟨RX9, "year", "(I)I"⟩
abbrev cX9_feed : ByteArray := prog_1_method_5_code
def yX9_feed : MethodName := ⟨RX9, "feed", "(IJ)I"⟩
abbrev cX9_ties : ByteArray := prog_1_method_6_code
def yX9_ties : MethodName := ⟨RX9, "ties", "()I"⟩
abbrev cX9_untie : ByteArray := prog_1_method_7_code
def yX9_untie : MethodName := ⟨RX9, "untie", "(I)I"⟩
abbrev cX9_tie : ByteArray := prog_1_method_8_code
def yX9_tie : MethodName := ⟨RX9, "tie", "(III)I"⟩
abbrev cX9_degree : ByteArray := prog_1_method_9_code
def yX9_degree : MethodName := ⟨RX9, "degree", "(IIZ)I"⟩
abbrev cX9_parting : ByteArray := prog_1_method_10_code
def yX9_parting : MethodName := ⟨RX9, "parting", "(I)I"⟩
abbrev cX9_judge : ByteArray := prog_1_method_11_code
def yX9_judge : MethodName := ⟨RX9, "judge", "(II)I"⟩
abbrev cX9_coarsest : ByteArray := prog_1_method_12_code
def yX9_coarsest : MethodName := ⟨RX9, "coarsest", "(II)I"⟩
abbrev cX9_renamings : ByteArray := prog_1_method_13_code
def yX9_renamings : MethodName := ⟨RX9, "renamings", "()I"⟩
abbrev cX9_moves : ByteArray := prog_1_method_14_code
def yX9_moves : MethodName := ⟨RX9, "moves", "(II)I"⟩
abbrev cX9_orbits : ByteArray := prog_1_method_15_code
def yX9_orbits : MethodName := ⟨RX9, "orbits", "()I"⟩
abbrev cX9_form : ByteArray := prog_1_method_16_code
def yX9_form : MethodName := ⟨RX9, "form", "()I"⟩
abbrev cX9_next : ByteArray := prog_1_method_17_code
def yX9_next : MethodName := ⟨RX9, "next", "(II)I"⟩
abbrev cX9_all : ByteArray := prog_1_method_18_code
def yX9_all : MethodName := ⟨RX9, "all", "(I)I"⟩
abbrev cX9_join : ByteArray := prog_1_method_19_code
def yX9_join : MethodName := ⟨RX9, "join", "(II)I"⟩
abbrev cX9_meet : ByteArray := prog_1_method_20_code
def yX9_meet : MethodName := ⟨RX9, "meet", "(II)I"⟩
abbrev cX9_picture : ByteArray := prog_1_method_21_code
def yX9_picture : MethodName := ⟨RX9, "picture", "(IIII)I"⟩
abbrev cX9_wrong : ByteArray := prog_1_method_22_code
def yX9_wrong : MethodName := ⟨RX9, "wrong", "(I)I"⟩
abbrev cX9_least : ByteArray := prog_1_method_23_code
def yX9_least : MethodName := ⟨RX9, "least", "(II)I"⟩
abbrev cX9_spoils : ByteArray := prog_1_method_24_code
def yX9_spoils : MethodName := ⟨RX9, "spoils", "(II)I"⟩
abbrev cX9_newcomer : ByteArray := prog_1_method_25_code
def yX9_newcomer : MethodName := ⟨RX9, "newcomer", "(IIZ)I"⟩
abbrev cX9_fits : ByteArray := prog_1_method_26_code
def yX9_fits : MethodName := ⟨RX9, "fits", "(I)I"⟩
abbrev cX9_gone : ByteArray := prog_1_method_27_code
def yX9_gone : MethodName := ⟨RX9, "gone", "()I"⟩
abbrev cX9_shift : ByteArray := prog_1_method_28_code
def yX9_shift : MethodName := ⟨RX9, "shift", "(III)I"⟩
abbrev cX9_stays : ByteArray := prog_1_method_29_code
def yX9_stays : MethodName := ⟨RX9, "stays", "(II)I"⟩
abbrev cX9_count : ByteArray := prog_1_method_30_code
def yX9_count : MethodName := ⟨RX9, "count", "(I)I"⟩
abbrev cX9_refuse : ByteArray := prog_1_method_31_code
def yX9_refuse : MethodName := ⟨RX9, "refuse", "(I)I"⟩
abbrev cX9_lookAt : ByteArray := prog_1_method_32_code
def yX9_lookAt : MethodName := ⟨RX9, "lookAt", "(I)V"⟩
abbrev cX9_partOfYear : ByteArray := prog_1_method_33_code
def yX9_partOfYear : MethodName := ⟨RX9, "partOfYear", "(IILSameParts$Parting;)V"⟩
abbrev cX9_isKind : ByteArray := prog_1_method_34_code
def yX9_isKind : MethodName := ⟨RX9, "isKind", "(I)Z"⟩
abbrev cX9_isSameness : ByteArray := prog_1_method_35_code
def yX9_isSameness : MethodName := ⟨RX9, "isSameness", "(I)Z"⟩
abbrev cX9_at : ByteArray := prog_1_method_36_code
def yX9_at : MethodName := ⟨RX9, "at", "([II)I"⟩
abbrev cX9_put : ByteArray := prog_1_method_37_code
def yX9_put : MethodName := ⟨RX9, "put", "([III)V"⟩
abbrev cX9_addTo : ByteArray := prog_1_method_38_code
def yX9_addTo : MethodName := ⟨RX9, "addTo", "([III)V"⟩
abbrev cX9_wipe : ByteArray := prog_1_method_39_code
def yX9_wipe : MethodName := ⟨RX9, "wipe", "([I)V"⟩
abbrev cX9_holds : ByteArray := prog_1_method_40_code
def yX9_holds : MethodName := ⟨RX9, "holds", "(II)Z"⟩
abbrev cX9_cell : ByteArray := prog_1_method_41_code
def yX9_cell : MethodName := ⟨RX9, "cell", "(III)I"⟩
def RX10 : String := "SamePartsModel"
def TX10 : u_T := fun k => match k with
  | 0 => ("SamePartsModel", "refused", "[I", true)
  | 1 => ("SamePartsModel", "mark", "[I", true)
  | 2 => ("SamePartsModel", "tieX", "[I", true)
  | 3 => ("SamePartsModel", "tieZ", "[I", true)
  | 4 => ("SamePartsModel", "tieKind", "[I", true)
  | 5 => ("SamePartsModel", "tieAs", "[I", true)
  | 6 => ("SamePartsModel", "tieFrom", "[I", true)
  | 7 => ("SamePartsModel", "tieTo", "[I", true)
  | 8 => ("SamePartsModel", "persons", "I", false)
  | 9 => ("SamePartsModel", "ties", "I", false)
  | 10 => ("SamePartsModel", "year", "I", false)
  | 11 => ("SamePartsModel", "tape", "[I", true)
  | 12 => ("SamePartsModel", "taped", "I", false)
  | 13 => ("SamePartsModel", "at", "I", false)
  | 14 => ("SamePartsModel", "read", "I", false)
  | 15 => ("SamePartsModel", "readX", "[I", true)
  | 16 => ("SamePartsModel", "readZ", "[I", true)
  | 17 => ("SamePartsModel", "readKind", "[I", true)
  | 18 => ("SamePartsModel", "readAs", "[I", true)
  | 19 => ("SamePartsModel", "readFrom", "[I", true)
  | 20 => ("SamePartsModel", "readTo", "[I", true)
  | 21 => ("SamePartsModel", "tie", "[I", true)
  | 22 => ("SamePartsModel", "part", "[I", true)
  | 23 => ("SamePartsModel", "other", "[I", true)
  | 24 => ("SamePartsModel", "made", "[I", true)
  | 25 => ("SamePartsModel", "names", "[I", true)
  | 26 => ("SamePartsModel", "to", "[I", true)
  | 27 => ("SamePartsModel", "least", "[I", true)
  | 28 => ("SamePartsModel", "row", "[I", true)
  | 29 => ("SamePartsModel", "moved", "[Z", true)
  | 30 => ("SamePartsModel", "comingKind", "[I", true)
  | 31 => ("SamePartsModel", "comingOf", "[I", true)
  | 32 => ("SamePartsModel", "comingTo", "[Z", true)
  | _ => ("SamePartsModel", "coming", "I", false)
def tyX10 : Nat → FieldType := fun k => match k with
  | 0 => .array .int
  | 1 => .array .int
  | 2 => .array .int
  | 3 => .array .int
  | 4 => .array .int
  | 5 => .array .int
  | 6 => .array .int
  | 7 => .array .int
  | 8 => .int
  | 9 => .int
  | 10 => .int
  | 11 => .array .int
  | 12 => .int
  | 13 => .int
  | 14 => .int
  | 15 => .array .int
  | 16 => .array .int
  | 17 => .array .int
  | 18 => .array .int
  | 19 => .array .int
  | 20 => .array .int
  | 21 => .array .int
  | 22 => .array .int
  | 23 => .array .int
  | 24 => .array .int
  | 25 => .array .int
  | 26 => .array .int
  | 27 => .array .int
  | 28 => .array .int
  | 29 => .array .boolean
  | 30 => .array .int
  | 31 => .array .int
  | 32 => .array .boolean
  | _ => .int
abbrev wsX100 : List Cond := u_ws RX10 TX10 34
theorem nmX10 : ∀ a, a < 34 → ∀ b, b < 34 → a ≠ b → (TX10 a).2.1 ≠ (TX10 b).2.1 := by decide +kernel
theorem tyX10_ok : ∀ k, k < 34 → parseFieldDescriptor (TX10 k).2.2.1 = some (tyX10 k) := by decide +kernel
abbrev cX10_init : ByteArray := prog_12_method_1_code
def yX10_init : MethodName := ⟨RX10, "<init>", "()V"⟩
abbrev cX10_no : ByteArray := prog_12_method_2_code
def yX10_no : MethodName := ⟨RX10, "no", "(I)I"⟩
abbrev cX10_less : ByteArray := prog_12_method_3_code
def yX10_less : MethodName := ⟨RX10, "less", "(I)I"⟩
abbrev cX10_isIn : ByteArray := prog_12_method_4_code
def yX10_isIn : MethodName := ⟨RX10, "isIn", "(JJJ)Z"⟩
abbrev cX10_out : ByteArray := prog_12_method_5_code
def yX10_out : MethodName := ⟨RX10, "out", "(JJJ)I"⟩
abbrev cX10_isPerson : ByteArray := prog_12_method_6_code
def yX10_isPerson : MethodName := ⟨RX10, "isPerson", "(I)Z"⟩
abbrev cX10_isKind : ByteArray := prog_12_method_7_code
def yX10_isKind : MethodName := ⟨RX10, "isKind", "(I)Z"⟩
abbrev cX10_isSameness : ByteArray := prog_12_method_8_code
def yX10_isSameness : MethodName := ⟨RX10, "isSameness", "(I)Z"⟩
abbrev cX10_persons : ByteArray := prog_12_method_9_code
def yX10_persons : MethodName := ⟨RX10, "persons", "(I)I"⟩
abbrev cX10_mark : ByteArray := prog_12_method_10_code
def yX10_mark : MethodName := ⟨RX10, "mark", "(II)I"⟩
abbrev cX10_year : ByteArray := prog_12_method_11_code
def yX10_year : MethodName := ⟨RX10, "year", "(I)I"⟩
abbrev cX10_feed : ByteArray := prog_12_method_12_code
def yX10_feed : MethodName := ⟨RX10, "feed", "(IJ)I"⟩
abbrev cX10_sign : ByteArray := prog_12_method_13_code
def yX10_sign : MethodName := ⟨RX10, "sign", "()I"⟩
abbrev cX10_takes : ByteArray := prog_12_method_14_code
def yX10_takes : MethodName := ⟨RX10, "takes", "(I)Z"⟩
abbrev cX10_takesIn : ByteArray := prog_12_method_15_code
def yX10_takesIn : MethodName := ⟨RX10, "takesIn", "(III)I"⟩
abbrev cX10_years : ByteArray := prog_12_method_16_code
def yX10_years : MethodName := ⟨RX10, "years", "(I)I"⟩
abbrev cX10_oneTie : ByteArray := prog_12_method_17_code
def yX10_oneTie : MethodName := ⟨RX10, "oneTie", "()Z"⟩
abbrev cX10_reads : ByteArray := prog_12_method_18_code
def yX10_reads : MethodName := ⟨RX10, "reads", "()Z"⟩
abbrev cX10_ties : ByteArray := prog_12_method_19_code
def yX10_ties : MethodName := ⟨RX10, "ties", "()I"⟩
abbrev cX10_untie : ByteArray := prog_12_method_20_code
def yX10_untie : MethodName := ⟨RX10, "untie", "(I)I"⟩
abbrev cX10_findTies : ByteArray := prog_12_method_21_code
def yX10_findTies : MethodName := ⟨RX10, "findTies", "(I)V"⟩
abbrev cX10_strong : ByteArray := prog_12_method_22_code
def yX10_strong : MethodName := ⟨RX10, "strong", "(III)I"⟩
abbrev cX10_has : ByteArray := prog_12_method_23_code
def yX10_has : MethodName := ⟨RX10, "has", "(III)Z"⟩
abbrev cX10_tie : ByteArray := prog_12_method_24_code
def yX10_tie : MethodName := ⟨RX10, "tie", "(III)I"⟩
abbrev cX10_degree : ByteArray := prog_12_method_25_code
def yX10_degree : MethodName := ⟨RX10, "degree", "(IIZ)I"⟩
abbrev cX10_opens : ByteArray := prog_12_method_26_code
def yX10_opens : MethodName := ⟨RX10, "opens", "(I[I)I"⟩
abbrev cX10_number : ByteArray := prog_12_method_27_code
def yX10_number : MethodName := ⟨RX10, "number", "([I)I"⟩
abbrev cX10_parting : ByteArray := prog_12_method_28_code
def yX10_parting : MethodName := ⟨RX10, "parting", "(I)I"⟩
abbrev cX10_areSo : ByteArray := prog_12_method_29_code
def yX10_areSo : MethodName := ⟨RX10, "areSo", "(III)Z"⟩
abbrev cX10_seen : ByteArray := prog_12_method_30_code
def yX10_seen : MethodName := ⟨RX10, "seen", "(IZ)I"⟩
abbrev cX10_areTied : ByteArray := prog_12_method_31_code
def yX10_areTied : MethodName := ⟨RX10, "areTied", "(IIZ)Z"⟩
abbrev cX10_led : ByteArray := prog_12_method_32_code
def yX10_led : MethodName := ⟨RX10, "led", "(IIIZ)I"⟩
abbrev cX10_areLed : ByteArray := prog_12_method_33_code
def yX10_areLed : MethodName := ⟨RX10, "areLed", "(IIZ)Z"⟩
abbrev cX10_judged : ByteArray := prog_12_method_34_code
def yX10_judged : MethodName := ⟨RX10, "judged", "(I)I"⟩
abbrev cX10_judge : ByteArray := prog_12_method_35_code
def yX10_judge : MethodName := ⟨RX10, "judge", "(II)I"⟩
abbrev cX10_splits : ByteArray := prog_12_method_36_code
def yX10_splits : MethodName := ⟨RX10, "splits", "(I)I"⟩
abbrev cX10_coarsest : ByteArray := prog_12_method_37_code
def yX10_coarsest : MethodName := ⟨RX10, "coarsest", "(II)I"⟩
abbrev cX10_firstNames : ByteArray := prog_12_method_38_code
def yX10_firstNames : MethodName := ⟨RX10, "firstNames", "()V"⟩
abbrev cX10_nextNames : ByteArray := prog_12_method_39_code
def yX10_nextNames : MethodName := ⟨RX10, "nextNames", "(I)Z"⟩
abbrev cX10_isTurn : ByteArray := prog_12_method_40_code
def yX10_isTurn : MethodName := ⟨RX10, "isTurn", "()Z"⟩
abbrev cX10_findTurns : ByteArray := prog_12_method_41_code
def yX10_findTurns : MethodName := ⟨RX10, "findTurns", "()I"⟩
abbrev cX10_renamings : ByteArray := prog_12_method_42_code
def yX10_renamings : MethodName := ⟨RX10, "renamings", "()I"⟩
abbrev cX10_moves : ByteArray := prog_12_method_43_code
def yX10_moves : MethodName := ⟨RX10, "moves", "(II)I"⟩
abbrev cX10_orbits : ByteArray := prog_12_method_44_code
def yX10_orbits : MethodName := ⟨RX10, "orbits", "()I"⟩
abbrev cX10_form : ByteArray := prog_12_method_45_code
def yX10_form : MethodName := ⟨RX10, "form", "()I"⟩
abbrev cX10_firstParting : ByteArray := prog_12_method_46_code
def yX10_firstParting : MethodName := ⟨RX10, "firstParting", "()V"⟩
abbrev cX10_nextParting : ByteArray := prog_12_method_47_code
def yX10_nextParting : MethodName := ⟨RX10, "nextParting", "()Z"⟩
abbrev cX10_parts : ByteArray := prog_12_method_48_code
def yX10_parts : MethodName := ⟨RX10, "parts", "()I"⟩
abbrev cX10_next : ByteArray := prog_12_method_49_code
def yX10_next : MethodName := ⟨RX10, "next", "(II)I"⟩
abbrev cX10_all : ByteArray := prog_12_method_50_code
def yX10_all : MethodName := ⟨RX10, "all", "(I)I"⟩
abbrev cX10_join : ByteArray := prog_12_method_51_code
def yX10_join : MethodName := ⟨RX10, "join", "(II)I"⟩
abbrev cX10_meet : ByteArray := prog_12_method_52_code
def yX10_meet : MethodName := ⟨RX10, "meet", "(II)I"⟩
abbrev cX10_picture : ByteArray := prog_12_method_53_code
def yX10_picture : MethodName := ⟨RX10, "picture", "(IIII)I"⟩
abbrev cX10_wrongOf : ByteArray := prog_12_method_54_code
def yX10_wrongOf : MethodName := ⟨RX10, "wrongOf", "()I"⟩
abbrev cX10_wrong : ByteArray := prog_12_method_55_code
def yX10_wrong : MethodName := ⟨RX10, "wrong", "(I)I"⟩
abbrev cX10_least : ByteArray := prog_12_method_56_code
def yX10_least : MethodName := ⟨RX10, "least", "(II)I"⟩
abbrev cX10_spoils : ByteArray := prog_12_method_57_code
def yX10_spoils : MethodName := ⟨RX10, "spoils", "(II)I"⟩
abbrev cX10_newcomer : ByteArray := prog_12_method_58_code
def yX10_newcomer : MethodName := ⟨RX10, "newcomer", "(IIZ)I"⟩
abbrev cX10_isFit : ByteArray := prog_12_method_59_code
def yX10_isFit : MethodName := ⟨RX10, "isFit", "(II)Z"⟩
abbrev cX10_fits : ByteArray := prog_12_method_60_code
def yX10_fits : MethodName := ⟨RX10, "fits", "(I)I"⟩
abbrev cX10_gone : ByteArray := prog_12_method_61_code
def yX10_gone : MethodName := ⟨RX10, "gone", "()I"⟩
abbrev cX10_coarsestOn : ByteArray := prog_12_method_62_code
def yX10_coarsestOn : MethodName := ⟨RX10, "coarsestOn", "(II)I"⟩
abbrev cX10_shift : ByteArray := prog_12_method_63_code
def yX10_shift : MethodName := ⟨RX10, "shift", "(III)I"⟩
abbrev cX10_stays : ByteArray := prog_12_method_64_code
def yX10_stays : MethodName := ⟨RX10, "stays", "(II)I"⟩
abbrev cX10_count : ByteArray := prog_12_method_65_code
def yX10_count : MethodName := ⟨RX10, "count", "(I)I"⟩
def RJ9 : String := "java/lang/Math"
def TJ9 : u_T := fun k => match k with
  | _ => ("", "", "", false)
def tyJ9 : Nat → FieldType := fun k => match k with
  | _ => .int
abbrev wsJ90 : List Cond := u_ws RJ9 TJ9 0
theorem nmJ9 : ∀ a, a < 0 → ∀ b, b < 0 → a ≠ b → (TJ9 a).2.1 ≠ (TJ9 b).2.1 := by decide +kernel
theorem tyJ9_ok : ∀ k, k < 0 → parseFieldDescriptor (TJ9 k).2.2.1 = some (tyJ9 k) := by decide +kernel
abbrev cJ9_max_7cf53 : ByteArray := prog_13_method_65_code
def yJ9_max_7cf53 : MethodName := ⟨RJ9, "max", "(II)I"⟩
abbrev cJ9_min_7cf53 : ByteArray := prog_13_method_69_code
def yJ9_min_7cf53 : MethodName := ⟨RJ9, "min", "(II)I"⟩
def RL : String := "SamePartsLaw"
abbrev cL_law : ByteArray := code
def yL_law : MethodName := ⟨RL, "law", "([I)Z"⟩
abbrev vwCl : List vw_C := [(RX0, TX0, 2), (RX1, TX1, 2), (RX2, TX2, 4), (RX3, TX3, 3), (RX4, TX4, 1), (RX5, TX5, 5), (RX6, TX6, 2), (RX7, TX7, 3), (RX8, TX8, 5), (RX9, TX9, 13), (RX10, TX10, 34)]
end
section
/-! The judgement G: one memory, one rule an instruction. -/
def TB : List Cond := lw_tbl.filter goodWord
theorem TB_in {w : Cond} (h : w ∈ lw_tbl) (hg : goodWord w = true) : w ∈ TB := List.mem_filter.mpr ⟨h, hg⟩
theorem TB_good : GoodIn TB TB := fun _ h => ⟨h, good_of_word (List.mem_filter.mp h).2⟩
def isNest : Cond → Bool
  | .fieldLinkNest .. => true
  | .methodLinkNest .. => true
  | _ => false
def NW : List Cond := lw_tbl.filter isNest
theorem NW_in {w : Cond} (h : w ∈ lw_tbl) (hg : isNest w = true) : w ∈ NW := List.mem_filter.mpr ⟨h, hg⟩
theorem nest_warm {s U : State} (hW : s.WarmedH U.vm) : ∀ w : Cond, isNest w = true → va_Nw w s → va_Nw w U := by
  intro w
  cases w <;> intro h <;> first | (exact va_Nw.warmF hW) | (exact va_Nw.warmM hW) | (simp [isNest] at h)
theorem nest_on : ∀ w : Cond, isNest w = true → w.onTables = true := by
  intro w
  cases w <;> intro h <;> first | rfl | (simp [isNest] at h)
abbrev Mem := Nat → Nat → Int32
abbrev inb (i : Int32) (n : Nat) : Prop := ¬ (i < 0 ∨ n ≤ i.toNatClampNeg)
def rd (M : Mem) (k : Nat) (i : Int32) : Int32 := M k i.toNatClampNeg
def st2 (M : Mem) (k j : Nat) (v : Int32) : Mem := fun a => if a = k then upd (M k) j v else M a
def wr (M : Mem) (k : Nat) (i : Int32) (v : Int32) : Mem := st2 M k i.toNatClampNeg v
def bz (v : Int32) : Int32 := v &&& 1
def nm {α β : Type} (e : α) (f : α → Option β) : Option β := f e
def jp {κ β : Type} (rest : κ) (f : κ → Option β) : Option β := f rest
def LOOP {σ β : Type} (F : (σ → Option β) → σ → Option β) : Nat → σ → Option β
  | 0, _ => none
  | n + 1, s => F (LOOP F n) s
theorem LOOP_rule {σ β : Type} {F : (σ → Option β) → σ → Option β} (P : σ → Option β → Prop) (h0 : ∀ s, P s none) (hF : ∀ ag, (∀ s, P s (ag s)) → ∀ s, P s (F ag s)) : ∀ n s, P s (LOOP F n s)
  | 0, s => h0 s
  | n + 1, s => hF _ (LOOP_rule P h0 hF n) s
def FU : Nat := 4000000
abbrev OB := (Nat × List (Option Nat)) ⊕ (Nat × Bool)
def obl : List OB := []
def ob (k : Nat) : OB := obl.getD k (.inr (0, false))
def aln (k : Nat) : Nat := match ob k with
  | .inr (n, _) => n
  | .inl _ => 0
def isP (k : Nat) : Prop := k + 1 < 61 ∧ ob k = .inl (3, [some (k + 1), none, none]) ∧ ob (k + 1) = .inr (7, false)
def isT (k : Nat) : Prop := k + 1 < 61 ∧ ob k = .inl (6, [some (k + 1), none]) ∧ ob (k + 1) = .inr (360, false)
def isA (k : Nat) : Prop := k < 61 ∧ ob k = .inr (aln k, false)
theorem isP.a {k : Nat} (h : isP k) : isA (k + 1) := ⟨h.1, by rw [h.2.2]; simp [aln, h.2.2]⟩
theorem isT.a {k : Nat} (h : isT k) : isA (k + 1) := ⟨h.1, by rw [h.2.2]; simp [aln, h.2.2]⟩
def fvs (ad : Nat → Nat) (m : Nat → Int32) : Nat → List (Option Nat) → List Value
  | _, [] => []
  | i, some j :: t => .ref (ad j) :: fvs ad m (i + 1) t
  | i, none :: t => .int (m i) :: fvs ad m (i + 1) t
theorem fvs_len (ad : Nat → Nat) (m : Nat → Int32) : ∀ (fs : List (Option Nat)) (i : Nat), (fvs ad m i fs).length = fs.length
  | [], _ => rfl
  | some _ :: t, i => by simp [fvs, fvs_len ad m t]
  | none :: t, i => by simp [fvs, fvs_len ad m t]
theorem fvs_ref (ad : Nat → Nat) (m : Nat → Int32) : ∀ (fs : List (Option Nat)) (i k j : Nat), fs[k]? = some (some j) → (fvs ad m i fs)[k]? = some (.ref (ad j))
  | [], _, _, _, h => by simp at h
  | some a :: t, i, 0, j, h => by simp at h; subst h; simp [fvs]
  | none :: t, i, 0, j, h => by simp at h
  | some a :: t, i, k + 1, j, h => by simp at h; simp [fvs, fvs_ref ad m t (i + 1) k j h]
  | none :: t, i, k + 1, j, h => by simp at h; simp [fvs, fvs_ref ad m t (i + 1) k j h]
theorem fvs_int (ad : Nat → Nat) (m : Nat → Int32) : ∀ (fs : List (Option Nat)) (i k : Nat), fs[k]? = some none → (fvs ad m i fs)[k]? = some (.int (m (i + k)))
  | [], _, _, h => by simp at h
  | some a :: t, i, 0, h => by simp at h
  | none :: t, i, 0, h => by simp [fvs]
  | some a :: t, i, k + 1, h => by simp at h; simp [fvs, fvs_int ad m t (i + 1) k h]; congr 1; omega
  | none :: t, i, k + 1, h => by simp at h; simp [fvs, fvs_int ad m t (i + 1) k h]; congr 1; omega
theorem fvs_lt (ad : Nat → Nat) (m : Nat → Int32) (p : Nat) (v : Int32) : ∀ (fs : List (Option Nat)) (i : Nat), p < i → fvs ad (upd m p v) i fs = fvs ad m i fs
  | [], _, _ => rfl
  | some _ :: t, i, h => by simp [fvs, fvs_lt ad m p v t (i + 1) (by omega)]
  | none :: t, i, h => by simp [fvs, fvs_lt ad m p v t (i + 1) (by omega), upd, show i ≠ p by omega]
theorem fvs_set (ad : Nat → Nat) (m : Nat → Int32) (v : Int32) : ∀ (fs : List (Option Nat)) (i k : Nat), fs[k]? = some none → (fvs ad m i fs).set k (.int v) = fvs ad (upd m (i + k) v) i fs
  | [], _, _, h => by simp at h
  | some a :: t, i, 0, h => by simp at h
  | none :: t, i, 0, h => by simp [fvs, upd, fvs_lt ad m i v t (i + 1) (by omega)]
  | some a :: t, i, k + 1, h => by simp at h; simp [fvs, fvs_set ad m v t (i + 1) k h]; congr 2; omega
  | none :: t, i, k + 1, h => by
    simp at h
    have e := fvs_set ad m v t (i + 1) k h
    have e2 : i + 1 + k = i + (k + 1) := by omega
    rw [e2] at e
    simp [fvs, e, upd]
def cel (ad : Nat → Nat) (cI cZ : ClassId) (M : Mem) (k : Nat) : va_E := match ob k with
  | .inl q => .inr (q.1, fvs ad (M k) 0 q.2)
  | .inr q => .inl (if q.2 then cZ else cI, q.1, .inl (M k))
def wd (ad : Nat → Nat) (cI cZ : ClassId) (M : Mem) : va_W := (List.range 61).map (fun k => (ad k, cel ad cI cZ M k))
theorem wd_get {ad : Nat → Nat} {cI cZ : ClassId} {M : Mem} {k : Nat} (h : k < 61) : (wd ad cI cZ M)[k]? = some (ad k, cel ad cI cZ M k) := by simp [wd, h]
theorem wd_lt {ad : Nat → Nat} {cI cZ : ClassId} {M : Mem} {k : Nat} {q : Nat × va_E} (h : (wd ad cI cZ M)[k]? = some q) : k < 61 ∧ q = (ad k, cel ad cI cZ M k) := by
  have hl : k < (wd ad cI cZ M).length := (List.getElem?_eq_some_iff.mp h).1
  have hk : k < 61 := by simpa [wd] using hl
  rw [wd_get hk] at h
  exact ⟨hk, (Option.some.inj h).symm⟩
theorem cel_congr {ad : Nat → Nat} {cI cZ : ClassId} {M M' : Mem} {k : Nat} (h : M' k = M k) : cel ad cI cZ M' k = cel ad cI cZ M k := by simp [cel, h]
theorem wd_set {ad : Nat → Nat} {cI cZ : ClassId} {M : Mem} {k j : Nat} {v : Int32} {c : va_E} (hk : k < 61) (hc : c = cel ad cI cZ (st2 M k j v) k) : (wd ad cI cZ M).set k (ad k, c) = wd ad cI cZ (st2 M k j v) := by
  subst hc
  apply List.ext_getElem?
  intro i
  by_cases hi : i < 61
  · rw [wd_get hi]
    by_cases h : i = k
    · subst h
      rw [List.getElem?_set_self (by simp [wd]; omega)]
    · rw [List.getElem?_set_ne (Ne.symm h), wd_get hi, cel_congr (M := M) (M' := st2 M k j v) (by simp [st2, h])]
  · rw [List.getElem?_eq_none (by simp [wd]; omega), List.getElem?_eq_none (by simp [wd]; omega)]
theorem cel_obj {ad : Nat → Nat} {cI cZ : ClassId} {M : Mem} {k ci : Nat} {fs : List (Option Nat)} (h : ob k = .inl (ci, fs)) : cel ad cI cZ M k = .inr (ci, fvs ad (M k) 0 fs) := by simp [cel, h]
theorem cel_arr {ad : Nat → Nat} {cI cZ : ClassId} {M : Mem} {k n : Nat} (h : ob k = .inr (n, false)) : cel ad cI cZ M k = .inl (cI, n, .inl (M k)) := by simp [cel, h]
theorem cel_arrZ {ad : Nat → Nat} {cI cZ : ClassId} {M : Mem} {k n : Nat} (h : ob k = .inr (n, true)) : cel ad cI cZ M k = .inl (cZ, n, .inl (M k)) := by simp [cel, h]
def Aw (ad : Nat → Nat) : Nat → Prop := fun q => ∃ k, k < 61 ∧ q = ad k
theorem wd_D {ad : Nat → Nat} {cI cZ : ClassId} {M : Mem} {A : Nat → Prop} (hi : ∀ i j, i < 61 → j < 61 → ad i = ad j → i = j) (hA : ∀ q, Aw ad q → A q) : va_D A (wd ad cI cZ M) := by
  refine ⟨fun i j p q h1 h2 h => ?_, fun k q h => ?_⟩
  · obtain ⟨a1, rfl⟩ := wd_lt h1
    obtain ⟨a2, rfl⟩ := wd_lt h2
    exact hi i j a1 a2 h
  · obtain ⟨a1, rfl⟩ := wd_lt h
    exact hA _ ⟨k, a1, rfl⟩
abbrev Cx := Program × Launch × Env × Room × State × MethodId × Array Value × List Frame × Method × Code × va_G × ClassId × ClassId × (Nat → Prop) × Nat × Nat × (Option Value × Mem → State → Prop)
abbrev xP (X : Cx) : Program := X.1
abbrev xL (X : Cx) : Launch := X.2.1
abbrev xE (X : Cx) : Env := X.2.2.1
abbrev xR (X : Cx) : Room := X.2.2.2.1
abbrev xS (X : Cx) : State := X.2.2.2.2.1
abbrev xM (X : Cx) : MethodId := X.2.2.2.2.2.1
abbrev xG (X : Cx) : Array Value := X.2.2.2.2.2.2.1
abbrev xB (X : Cx) : List Frame := X.2.2.2.2.2.2.2.1
abbrev xMe (X : Cx) : Method := X.2.2.2.2.2.2.2.2.1
abbrev xC (X : Cx) : Code := X.2.2.2.2.2.2.2.2.2.1
abbrev xD (X : Cx) : va_G := X.2.2.2.2.2.2.2.2.2.2.1
abbrev xI (X : Cx) : ClassId := X.2.2.2.2.2.2.2.2.2.2.2.1
abbrev xZ (X : Cx) : ClassId := X.2.2.2.2.2.2.2.2.2.2.2.2.1
abbrev xA (X : Cx) : Nat → Prop := X.2.2.2.2.2.2.2.2.2.2.2.2.2.1
abbrev xK (X : Cx) : Nat := X.2.2.2.2.2.2.2.2.2.2.2.2.2.2.1
abbrev xN (X : Cx) : Nat := X.2.2.2.2.2.2.2.2.2.2.2.2.2.2.2.1
abbrev xQ (X : Cx) : Option Value × Mem → State → Prop := X.2.2.2.2.2.2.2.2.2.2.2.2.2.2.2.2
/-- a method: not the law; name; code; locals; answer; room: frames, words -/
abbrev Mi := Bool × MethodName × ByteArray × Nat × Option FieldType × Nat × Nat
abbrev my (i : Mi) : MethodName := i.2.1
abbrev mcc (i : Mi) : ByteArray := i.2.2.1
abbrev mnL (i : Mi) : Nat := i.2.2.2.1
abbrev mret (i : Mi) : Option FieldType := i.2.2.2.2.1
abbrev mfr (i : Mi) : Nat := i.2.2.2.2.2.1
abbrev mlo (i : Mi) : Nat := i.2.2.2.2.2.2
abbrev mrm (i : Mi) : Room := { frames := mfr i, cells := 0, slots := 0, locals := mlo i }
abbrev mws (i : Mi) : List Cond := Cond.code (my i) (mcc i) (mnL i) (mret i) :: TB
def Qw (ad : Nat → Nat) (D : va_G) (cI cZ : ClassId) (A : Nat → Prop) (r : Option Value × Mem) : Array Value → State → Outcome → State → Prop := fun _ st o t => (o = .returned r.1 ∧ va_P D vwCl (wd ad cI cZ r.2) t.heap) ∧ va_F A st t
abbrev wty (cI cZ : ClassId) : List (ClassId × FieldType) := [(cI, .int), (cZ, .boolean)]
def Bw (ad : Nat → Nat) (D : va_G) (cI cZ : ClassId) (M : Mem) (U : State) : Prop := va_P D vwCl (wd ad cI cZ M) U.heap ∧ va_K D vwCl (wty cI cZ) U ∧ (∀ i j, i < 61 → j < 61 → ad i = ad j → i = j) ∧ ∀ w ∈ NW, va_Nw w U
def Ok (X : Cx) (ad : Nat → Nat) (mi : Mi) : Prop :=
  ((xP X).tables.exec = Jvm.exec ∧ (xC X).code = mcc mi ∧ (xC X).maxLocals = mnL mi ∧ (xMe X).sig.returnType = mret mi ∧ (xMe X).locks = false ∧ (xS X).vm.findClass (my mi).cls = some (xM X).cls) ∧
  (∀ w ∈ TB, w.before (xG X) (xS X) = true) ∧ (∀ w ∈ NW, va_Nw w (xS X)) ∧ va_K (xD X) vwCl (wty (xI X) (xZ X)) (xS X) ∧
  (∀ i j, i < 61 → j < 61 → ad i = ad j → i = j) ∧ (∀ q, Aw ad q → xA X q) ∧
  ((xR X).frames = mfr mi ∧ (xR X).locals = mlo mi ∧ xK X ≤ (xR X).cells ∧ xN X ≤ (xR X).slots) ∧
  (mi.1 = true → ∀ r, xQ X r = MQ (xB X) (Qw ad (xD X) (xI X) (xZ X) (xA X) r) (xG X) (xS X) (xK X) (xN X) (xA X))
section OK
variable {X : Cx} {ad : Nat → Nat} {mi : Mi}
theorem Ok.hx (h : Ok X ad mi) : (xP X).tables.exec = Jvm.exec := h.1.1
theorem Ok.hb (h : Ok X ad mi) : (xC X).code = mcc mi := h.1.2.1
theorem Ok.hml (h : Ok X ad mi) : (xC X).maxLocals = mnL mi := h.1.2.2.1
theorem Ok.hr (h : Ok X ad mi) : (xMe X).sig.returnType = mret mi := h.1.2.2.2.1
theorem Ok.hlk (h : Ok X ad mi) : (xMe X).locks = false := h.1.2.2.2.2.1
theorem Ok.hown (h : Ok X ad mi) : (xS X).vm.findClass (my mi).cls = some (xM X).cls := h.1.2.2.2.2.2
theorem Ok.hts (h : Ok X ad mi) : ∀ w ∈ TB, w.before (xG X) (xS X) = true := h.2.1
theorem Ok.hnw (h : Ok X ad mi) : ∀ w ∈ NW, va_Nw w (xS X) := h.2.2.1
theorem Ok.hK (h : Ok X ad mi) : va_K (xD X) vwCl (wty (xI X) (xZ X)) (xS X) := h.2.2.2.1
theorem Ok.hin (h : Ok X ad mi) : ∀ i j, i < 61 → j < 61 → ad i = ad j → i = j := h.2.2.2.2.1
theorem Ok.hA (h : Ok X ad mi) : ∀ q, Aw ad q → xA X q := h.2.2.2.2.2.1
theorem Ok.hR (h : Ok X ad mi) : (xR X).frames = mfr mi ∧ (xR X).locals = mlo mi ∧ xK X ≤ (xR X).cells ∧ xN X ≤ (xR X).slots := h.2.2.2.2.2.2.1
theorem Ok.hQ (h : Ok X ad mi) : mi.1 = true → ∀ r, xQ X r = MQ (xB X) (Qw ad (xD X) (xI X) (xZ X) (xA X) r) (xG X) (xS X) (xK X) (xN X) (xA X) := h.2.2.2.2.2.2.2
theorem Ok.hD (h : Ok X ad mi) {M : Mem} : va_D (xA X) (wd ad (xI X) (xZ X) M) := wd_D h.hin h.hA
end OK
def G {β : Type} (X : Cx) (ad : Nat → Nat) (mi : Mi) (φ : β → Option Value × Mem) (pc : Nat) (L : List (Nat × Value)) (st : List Value) (M : Mem) (o : Option β) : Prop :=
  Ok X ad mi → ∀ r, o = some r → ∀ (H : Heap) (locs : List Loc) (ls : Array Slot), lv_has ls (mnL mi) L → va_P (xD X) vwCl (wd ad (xI X) (xZ X) M) H → va_S (xA X) (xS X).heap H locs → W (xP X) (xL X) (xE X) (xR X) (xS X) (xM X) (xG X) (xB X) (xMe X) (xC X) H locs (xK X) (xN X) (xQ X (φ r)) (F0 (xM X) pc ls st)
def MC {β : Type} (mi : Mi) (φ : β → Option Value × Mem) (as : (Nat → Nat) → List Value) (M : Mem) (o : Option β) : Prop :=
  ∀ (l : Launch) (ad : Nat → Nat) (D : va_G) (cI cZ : ClassId) (r : β), o = some r → Met l (my mi) (mws mi) (mrm mi) (va_Pc (as ad) (Bw ad D cI cZ M)) (Qw ad D cI cZ (Aw ad) (φ r)) 0 0 (Aw ad)
theorem MC_of {β : Type} {mi : Mi} {φ : β → Option Value × Mem} {as : (Nat → Nat) → List Value} {M : Mem} {o : Option β} (h1 : mi.1 = true) (hy : plainName (my mi).cls = true) (L : (Nat → Nat) → List (Nat × Value)) (hL : ∀ ad, lv_args 0 (as ad) = L ad) (hn : ∀ ad, (lg_sl (as ad)).length ≤ mnL mi)
    (h : ∀ (X : Cx) (ad : Nat → Nat), G X ad mi φ 0 (L ad) [] M o) : MC mi φ as M o := by
  intro l ad D cI cZ r hr
  refine Met.ofW (cc := mcc mi) (maxL := mnL mi) (ret := mret mi) hy rfl ?_
  intro p e s m args below meth c s₁ B hml hv
  obtain ⟨rfl, hP, hK, hin, hN⟩ := hv
  have hts := atoms_spec (ws := mws mi) B.pre
  rw [lg_entry_eq]
  have hl := lv_entry (as ad) (n := mnL mi) (hn ad)
  rw [hL ad] at hl
  exact h (p, l, e, mrm mi, s, m, (as ad).toArray, below, meth, c, D, cI, cZ, Aw ad, 0, 0, fun r => MQ below (Qw ad D cI cZ (Aw ad) r) (as ad).toArray s 0 0 (Aw ad)) ad
    ⟨⟨B.exec, B.bytes, hml, B.returns, B.notSynchronized, findClass_of_methodNamed B.named⟩, fun w hw => hts w (List.mem_cons_of_mem _ hw), hN, hK, hin, fun _ h => h, ⟨rfl, rfl, Nat.le_refl _, Nat.le_refl _⟩, fun _ _ => rfl⟩ r hr _ [] _ hl hP va_S.rf
section GR
variable {β : Type} {X : Cx} {ad : Nat → Nat} {mi : Mi} {φ : β → Option Value × Mem} {pc : Nat} {L L' : List (Nat × Value)} {st : List Value} {M : Mem} {o : Option β}
theorem G_none : G X ad mi φ pc L st M none := fun _ _ h => by cases h
theorem G_sub (ks : List Nat) (h : lv_pick L ks = L') (K : G X ad mi φ pc L' st M o) : G X ad mi φ pc L st M o :=
  fun ok r hr H locs ls h1 h2 h3 => K ok r hr H locs ls (lv_sub h1 ks h) h2 h3
theorem G_nm {α : Type} {e : α} {f : α → Option β} (K : ∀ v, G X ad mi φ pc L st M (f v)) : G X ad mi φ pc L st M (nm e f) := K e
theorem G_nmI {e : Int32} {f : Int32 → Option β} (K : ∀ v, G X ad mi φ pc L (.int v :: st) M (f v)) : G X ad mi φ pc L (.int e :: st) M (nm e f) := K e
theorem G_nmL {e : Int64} {f : Int64 → Option β} (K : ∀ v, G X ad mi φ pc L (.long v :: st) M (f v)) : G X ad mi φ pc L (.long e :: st) M (nm e f) := K e
theorem G_jp {κ : Type} {rest : κ} {f : κ → Option β} (P : κ → Prop) (h1 : P rest) (h2 : ∀ k, P k → G X ad mi φ pc L st M (f k)) : G X ad mi φ pc L st M (jp rest f) := h2 rest h1
theorem G_ite {q : Prop} [Decidable q] {a b : Option β} (ht : q → G X ad mi φ pc L st M a) (hf : ¬ q → G X ad mi φ pc L st M b) : G X ad mi φ pc L st M (if q then a else b) := by
  by_cases h : q
  · rw [if_pos h]; exact ht h
  · rw [if_neg h]; exact hf h

theorem G_iconst {n : Int} {v : Int32} (hd : decode (mcc mi) pc = .ok (.iconst n, 1)) (hv : Int32.ofInt n = v) (K : G X ad mi φ (pc + 1) L (.int v :: st) M o) : G X ad mi φ pc L (st) M o :=
  fun ok r hr H locs ls h1 h2 h3 => lv_iconst ok.hx ok.hb hd hv (K ok r hr H locs ls h1 h2 h3)
theorem G_bipush {n : Int} {v : Int32} (hd : decode (mcc mi) pc = .ok (.bipush n, 2)) (hv : (Int8.ofInt n).toInt32 = v) (K : G X ad mi φ (pc + 2) L (.int v :: st) M o) : G X ad mi φ pc L (st) M o :=
  fun ok r hr H locs ls h1 h2 h3 => lv_bipush ok.hx ok.hb hd hv (K ok r hr H locs ls h1 h2 h3)
theorem G_sipush {n : Int} {v : Int32} (hd : decode (mcc mi) pc = .ok (.sipush n, 3)) (hv : (Int16.ofInt n).toInt32 = v) (K : G X ad mi φ (pc + 3) L (.int v :: st) M o) : G X ad mi φ pc L (st) M o :=
  fun ok r hr H locs ls h1 h2 h3 => lv_sipush ok.hx ok.hb hd hv (K ok r hr H locs ls h1 h2 h3)
theorem G_lconst {n : Fin 2} {v : Int64} (hd : decode (mcc mi) pc = .ok (.lconst n, 1)) (hv : Int64.ofNat (n : Nat) = v) (K : G X ad mi φ (pc + 1) L (.long v :: st) M o) : G X ad mi φ pc L (st) M o :=
  fun ok r hr H locs ls h1 h2 h3 => lv_lconst ok.hx ok.hb hd hv (K ok r hr H locs ls h1 h2 h3)
theorem G_iload_n {k : Fin 4} {x : Int32} (hd : decode (mcc mi) pc = .ok (.iload_n k, 1)) (j : Nat) (hl : L[j]? = some ((k : Nat), .int x)) (K : G X ad mi φ (pc + 1) L (.int x :: st) M o) : G X ad mi φ pc L (st) M o :=
  fun ok r hr H locs ls h1 h2 h3 => lv_iload_n ok.hx ok.hb hd rfl (lv_at h1 j hl) (K ok r hr H locs ls h1 h2 h3)
theorem G_iload {i : Nat} {x : Int32} (hd : decode (mcc mi) pc = .ok (.iload i, 2)) (j : Nat) (hl : L[j]? = some (i, .int x)) (K : G X ad mi φ (pc + 2) L (.int x :: st) M o) : G X ad mi φ pc L (st) M o :=
  fun ok r hr H locs ls h1 h2 h3 => lv_iload ok.hx ok.hb hd (lv_at h1 j hl) (K ok r hr H locs ls h1 h2 h3)
theorem G_lload_n {k : Fin 4} {x : Int64} (hd : decode (mcc mi) pc = .ok (.lload_n k, 1)) (j : Nat) (hl : L[j]? = some ((k : Nat), .long x)) (K : G X ad mi φ (pc + 1) L (.long x :: st) M o) : G X ad mi φ pc L (st) M o :=
  fun ok r hr H locs ls h1 h2 h3 => lv_lload_n ok.hx ok.hb hd rfl (lv_at h1 j hl) (K ok r hr H locs ls h1 h2 h3)
theorem G_lload {i : Nat} {x : Int64} (hd : decode (mcc mi) pc = .ok (.lload i, 2)) (j : Nat) (hl : L[j]? = some (i, .long x)) (K : G X ad mi φ (pc + 2) L (.long x :: st) M o) : G X ad mi φ pc L (st) M o :=
  fun ok r hr H locs ls h1 h2 h3 => lv_lload ok.hx ok.hb hd (lv_at h1 j hl) (K ok r hr H locs ls h1 h2 h3)
theorem G_aload_n {k : Fin 4} {x : Nat} (hd : decode (mcc mi) pc = .ok (.aload_n k, 1)) (j : Nat) (hl : L[j]? = some ((k : Nat), .ref x)) (K : G X ad mi φ (pc + 1) L (.ref x :: st) M o) : G X ad mi φ pc L (st) M o :=
  fun ok r hr H locs ls h1 h2 h3 => lv_aload_n ok.hx ok.hb hd rfl (lv_at h1 j hl) (K ok r hr H locs ls h1 h2 h3)
theorem G_aload {i : Nat} {x : Nat} (hd : decode (mcc mi) pc = .ok (.aload i, 2)) (j : Nat) (hl : L[j]? = some (i, .ref x)) (K : G X ad mi φ (pc + 2) L (.ref x :: st) M o) : G X ad mi φ pc L (st) M o :=
  fun ok r hr H locs ls h1 h2 h3 => lv_aload ok.hx ok.hb hd (lv_at h1 j hl) (K ok r hr H locs ls h1 h2 h3)
theorem G_istore_n {k : Fin 4} {x : Int32} (i : Nat) (hi : (k : Nat) = i) (hd : decode (mcc mi) pc = .ok (.istore_n k, 1)) (hn : i < mnL mi) (hl : (i, Value.int x) :: L.filter (fun q => !(q.1 == i) && !(q.1 + 1 == i && q.2.category == 2)) = L') (K : G X ad mi φ (pc + 1) L' st M o) : G X ad mi φ pc L (.int x :: st) M o :=
  fun ok r hr H locs ls h1 h2 h3 => lv_istore_n ok.hx ok.hb hd hi h1 hn hl (fun ls' h => K ok r hr H locs ls' h h2 h3)
theorem G_istore {x : Int32} {i : Nat} (hd : decode (mcc mi) pc = .ok (.istore i, 2)) (hn : i < mnL mi) (hl : (i, Value.int x) :: L.filter (fun q => !(q.1 == i) && !(q.1 + 1 == i && q.2.category == 2)) = L') (K : G X ad mi φ (pc + 2) L' st M o) : G X ad mi φ pc L (.int x :: st) M o :=
  fun ok r hr H locs ls h1 h2 h3 => lv_istore ok.hx ok.hb hd h1 hn hl (fun ls' h => K ok r hr H locs ls' h h2 h3)
theorem G_lstore_n {k : Fin 4} {x : Int64} (i : Nat) (hi : (k : Nat) = i) (hd : decode (mcc mi) pc = .ok (.lstore_n k, 1)) (hn : i + 1 < mnL mi) (hl : (i, Value.long x) :: L.filter (fun q => !(q.1 == i) && (!(q.1 == i + 1) && !(q.1 + 1 == i && q.2.category == 2))) = L') (K : G X ad mi φ (pc + 1) L' st M o) : G X ad mi φ pc L (.long x :: st) M o :=
  fun ok r hr H locs ls h1 h2 h3 => lv_lstore_n ok.hx ok.hb hd hi h1 hn hl (fun ls' h => K ok r hr H locs ls' h h2 h3)
theorem G_lstore {x : Int64} {i : Nat} (hd : decode (mcc mi) pc = .ok (.lstore i, 2)) (hn : i + 1 < mnL mi) (hl : (i, Value.long x) :: L.filter (fun q => !(q.1 == i) && (!(q.1 == i + 1) && !(q.1 + 1 == i && q.2.category == 2))) = L') (K : G X ad mi φ (pc + 2) L' st M o) : G X ad mi φ pc L (.long x :: st) M o :=
  fun ok r hr H locs ls h1 h2 h3 => lv_lstore ok.hx ok.hb hd h1 hn hl (fun ls' h => K ok r hr H locs ls' h h2 h3)
theorem G_astore_n {k : Fin 4} {x : Nat} (i : Nat) (hi : (k : Nat) = i) (hd : decode (mcc mi) pc = .ok (.astore_n k, 1)) (hn : i < mnL mi) (hl : (i, Value.ref x) :: L.filter (fun q => !(q.1 == i) && !(q.1 + 1 == i && q.2.category == 2)) = L') (K : G X ad mi φ (pc + 1) L' st M o) : G X ad mi φ pc L (.ref x :: st) M o :=
  fun ok r hr H locs ls h1 h2 h3 => lv_astore_n ok.hx ok.hb hd hi h1 hn hl (fun ls' h => K ok r hr H locs ls' h h2 h3)
theorem G_astore {x : Nat} {i : Nat} (hd : decode (mcc mi) pc = .ok (.astore i, 2)) (hn : i < mnL mi) (hl : (i, Value.ref x) :: L.filter (fun q => !(q.1 == i) && !(q.1 + 1 == i && q.2.category == 2)) = L') (K : G X ad mi φ (pc + 2) L' st M o) : G X ad mi φ pc L (.ref x :: st) M o :=
  fun ok r hr H locs ls h1 h2 h3 => lv_astore ok.hx ok.hb hd h1 hn hl (fun ls' h => K ok r hr H locs ls' h h2 h3)
theorem G_iinc {i : Nat} {n : Int} {x : Int32} (v : Int32) (hd : decode (mcc mi) pc = .ok (.iinc i n, 3)) (j : Nat) (hk : L[j]? = some (i, .int x)) (hv : x + Int32.ofInt n = v) (hn : i < mnL mi) (hl : (i, Value.int v) :: L.filter (fun q => !(q.1 == i) && !(q.1 + 1 == i && q.2.category == 2)) = L') (K : G X ad mi φ (pc + 3) L' st M o) : G X ad mi φ pc L st M o :=
  fun ok r hr H locs ls h1 h2 h3 => lv_iinc ok.hx ok.hb hd h1 hk hv hn hl (fun ls' h => K ok r hr H locs ls' h h2 h3)
theorem G_iadd {x y : Int32} (hd : decode (mcc mi) pc = .ok (.iadd, 1)) (K : G X ad mi φ (pc + 1) L (.int (x + y) :: st) M o) : G X ad mi φ pc L (.int y :: .int x :: st) M o :=
  fun ok r hr H locs ls h1 h2 h3 => lv_iadd ok.hx ok.hb hd (K ok r hr H locs ls h1 h2 h3)
theorem G_isub {x y : Int32} (hd : decode (mcc mi) pc = .ok (.isub, 1)) (K : G X ad mi φ (pc + 1) L (.int (x - y) :: st) M o) : G X ad mi φ pc L (.int y :: .int x :: st) M o :=
  fun ok r hr H locs ls h1 h2 h3 => lv_isub ok.hx ok.hb hd (K ok r hr H locs ls h1 h2 h3)
theorem G_imul {x y : Int32} (hd : decode (mcc mi) pc = .ok (.imul, 1)) (K : G X ad mi φ (pc + 1) L (.int (x * y) :: st) M o) : G X ad mi φ pc L (.int y :: .int x :: st) M o :=
  fun ok r hr H locs ls h1 h2 h3 => lv_imul ok.hx ok.hb hd (K ok r hr H locs ls h1 h2 h3)
theorem G_iand {x y : Int32} (hd : decode (mcc mi) pc = .ok (.iand, 1)) (K : G X ad mi φ (pc + 1) L (.int (x &&& y) :: st) M o) : G X ad mi φ pc L (.int y :: .int x :: st) M o :=
  fun ok r hr H locs ls h1 h2 h3 => lv_iand ok.hx ok.hb hd (K ok r hr H locs ls h1 h2 h3)
theorem G_ior {x y : Int32} (hd : decode (mcc mi) pc = .ok (.ior, 1)) (K : G X ad mi φ (pc + 1) L (.int (x ||| y) :: st) M o) : G X ad mi φ pc L (.int y :: .int x :: st) M o :=
  fun ok r hr H locs ls h1 h2 h3 => lv_ior ok.hx ok.hb hd (K ok r hr H locs ls h1 h2 h3)
theorem G_ixor {x y : Int32} (hd : decode (mcc mi) pc = .ok (.ixor, 1)) (K : G X ad mi φ (pc + 1) L (.int (x ^^^ y) :: st) M o) : G X ad mi φ pc L (.int y :: .int x :: st) M o :=
  fun ok r hr H locs ls h1 h2 h3 => lv_ixor ok.hx ok.hb hd (K ok r hr H locs ls h1 h2 h3)
theorem G_ishl {x y : Int32} (hd : decode (mcc mi) pc = .ok (.ishl, 1)) (K : G X ad mi φ (pc + 1) L (.int (x <<< (y &&& 31)) :: st) M o) : G X ad mi φ pc L (.int y :: .int x :: st) M o :=
  fun ok r hr H locs ls h1 h2 h3 => lv_ishl ok.hx ok.hb hd (K ok r hr H locs ls h1 h2 h3)
theorem G_ishr {x y : Int32} (hd : decode (mcc mi) pc = .ok (.ishr, 1)) (K : G X ad mi φ (pc + 1) L (.int (x >>> (y &&& 31)) :: st) M o) : G X ad mi φ pc L (.int y :: .int x :: st) M o :=
  fun ok r hr H locs ls h1 h2 h3 => lv_ishr ok.hx ok.hb hd (K ok r hr H locs ls h1 h2 h3)
theorem G_ladd {x y : Int64} (hd : decode (mcc mi) pc = .ok (.ladd, 1)) (K : G X ad mi φ (pc + 1) L (.long (x + y) :: st) M o) : G X ad mi φ pc L (.long y :: .long x :: st) M o :=
  fun ok r hr H locs ls h1 h2 h3 => lv_ladd ok.hx ok.hb hd (K ok r hr H locs ls h1 h2 h3)
theorem G_lsub {x y : Int64} (hd : decode (mcc mi) pc = .ok (.lsub, 1)) (K : G X ad mi φ (pc + 1) L (.long (x - y) :: st) M o) : G X ad mi φ pc L (.long y :: .long x :: st) M o :=
  fun ok r hr H locs ls h1 h2 h3 => lv_lsub ok.hx ok.hb hd (K ok r hr H locs ls h1 h2 h3)
theorem G_lmul {x y : Int64} (hd : decode (mcc mi) pc = .ok (.lmul, 1)) (K : G X ad mi φ (pc + 1) L (.long (x * y) :: st) M o) : G X ad mi φ pc L (.long y :: .long x :: st) M o :=
  fun ok r hr H locs ls h1 h2 h3 => lv_lmul ok.hx ok.hb hd (K ok r hr H locs ls h1 h2 h3)
theorem G_land {x y : Int64} (hd : decode (mcc mi) pc = .ok (.land, 1)) (K : G X ad mi φ (pc + 1) L (.long (x &&& y) :: st) M o) : G X ad mi φ pc L (.long y :: .long x :: st) M o :=
  fun ok r hr H locs ls h1 h2 h3 => lv_land ok.hx ok.hb hd (K ok r hr H locs ls h1 h2 h3)
theorem G_lor {x y : Int64} (hd : decode (mcc mi) pc = .ok (.lor, 1)) (K : G X ad mi φ (pc + 1) L (.long (x ||| y) :: st) M o) : G X ad mi φ pc L (.long y :: .long x :: st) M o :=
  fun ok r hr H locs ls h1 h2 h3 => lv_lor ok.hx ok.hb hd (K ok r hr H locs ls h1 h2 h3)
theorem G_lxor {x y : Int64} (hd : decode (mcc mi) pc = .ok (.lxor, 1)) (K : G X ad mi φ (pc + 1) L (.long (x ^^^ y) :: st) M o) : G X ad mi φ pc L (.long y :: .long x :: st) M o :=
  fun ok r hr H locs ls h1 h2 h3 => lv_lxor ok.hx ok.hb hd (K ok r hr H locs ls h1 h2 h3)
theorem G_lcmp {x y : Int64} (hd : decode (mcc mi) pc = .ok (.lcmp, 1)) (K : G X ad mi φ (pc + 1) L (.int (lg_cmp x y) :: st) M o) : G X ad mi φ pc L (.long y :: .long x :: st) M o :=
  fun ok r hr H locs ls h1 h2 h3 => W.lcmp ok.hx ok.hb hd (K ok r hr H locs ls h1 h2 h3)
theorem G_ineg {x : Int32} (hd : decode (mcc mi) pc = .ok (.ineg, 1)) (K : G X ad mi φ (pc + 1) L (.int (-x) :: st) M o) : G X ad mi φ pc L (.int x :: st) M o :=
  fun ok r hr H locs ls h1 h2 h3 => lv_ineg ok.hx ok.hb hd (K ok r hr H locs ls h1 h2 h3)
theorem G_i2l {x : Int32} (hd : decode (mcc mi) pc = .ok (.i2l, 1)) (K : G X ad mi φ (pc + 1) L (.long x.toInt64 :: st) M o) : G X ad mi φ pc L (.int x :: st) M o :=
  fun ok r hr H locs ls h1 h2 h3 => lv_i2l ok.hx ok.hb hd rfl (K ok r hr H locs ls h1 h2 h3)
theorem G_l2i {x : Int64} (hd : decode (mcc mi) pc = .ok (.l2i, 1)) (K : G X ad mi φ (pc + 1) L (.int x.toInt32 :: st) M o) : G X ad mi φ pc L (.long x :: st) M o :=
  fun ok r hr H locs ls h1 h2 h3 => lv_l2i ok.hx ok.hb hd rfl (K ok r hr H locs ls h1 h2 h3)
theorem G_lushr {x : Int64} {y : Int32} (hd : decode (mcc mi) pc = .ok (.lushr, 1)) (K : G X ad mi φ (pc + 1) L (.long ((x.toUInt64 >>> (y.toInt64.toUInt64 &&& Int64.toUInt64 63)).toInt64) :: st) M o) : G X ad mi φ pc L (.int y :: .long x :: st) M o :=
  fun ok r hr H locs ls h1 h2 h3 => lv_lushr ok.hx ok.hb hd rfl (K ok r hr H locs ls h1 h2 h3)
theorem G_lshl {x : Int64} {y : Int32} (hd : decode (mcc mi) pc = .ok (.lshl, 1)) (K : G X ad mi φ (pc + 1) L (.long (x <<< (y.toInt64 &&& 63)) :: st) M o) : G X ad mi φ pc L (.int y :: .long x :: st) M o :=
  fun ok r hr H locs ls h1 h2 h3 => lv_lshl ok.hx ok.hb hd rfl (K ok r hr H locs ls h1 h2 h3)
theorem G_lshr {x : Int64} {y : Int32} (hd : decode (mcc mi) pc = .ok (.lshr, 1)) (K : G X ad mi φ (pc + 1) L (.long (x >>> (y.toInt64 &&& 63)) :: st) M o) : G X ad mi φ pc L (.int y :: .long x :: st) M o :=
  fun ok r hr H locs ls h1 h2 h3 => lv_lshr ok.hx ok.hb hd rfl (K ok r hr H locs ls h1 h2 h3)
def jrem (x y : Int32) : Int32 := x - x / y * y
def jrml (x y : Int64) : Int64 := x - x / y * y
theorem G_irem {x y : Int32} (hd : decode (mcc mi) pc = .ok (.irem, 1)) (hne : ¬ y = 0) (K : G X ad mi φ (pc + 1) L (.int (jrem x y) :: st) M o) : G X ad mi φ pc L (.int y :: .int x :: st) M o :=
  fun ok r hr H locs ls h1 h2 h3 => lv_irem ok.hx ok.hb hd hne (K ok r hr H locs ls h1 h2 h3)
theorem G_lrem {x y : Int64} (hd : decode (mcc mi) pc = .ok (.lrem, 1)) (hne : ¬ y = 0) (K : G X ad mi φ (pc + 1) L (.long (jrml x y) :: st) M o) : G X ad mi φ pc L (.long y :: .long x :: st) M o :=
  fun ok r hr H locs ls h1 h2 h3 => lv_lrem ok.hx ok.hb hd hne (K ok r hr H locs ls h1 h2 h3)
theorem G_idiv {x y : Int32} (hd : decode (mcc mi) pc = .ok (.idiv, 1)) (hne : ¬ y = 0) (K : G X ad mi φ (pc + 1) L (.int (x / y) :: st) M o) : G X ad mi φ pc L (.int y :: .int x :: st) M o :=
  fun ok r hr H locs ls h1 h2 h3 => lv_idiv ok.hx ok.hb hd hne (K ok r hr H locs ls h1 h2 h3)
theorem G_dup {va : Value} (hd : decode (mcc mi) pc = .ok (.dup, 1)) (hva : va.category = 1) (K : G X ad mi φ (pc + 1) L (va :: va :: st) M o) : G X ad mi φ pc L (va :: st) M o :=
  fun ok r hr H locs ls h1 h2 h3 => lv_dup ok.hx ok.hb hd hva (K ok r hr H locs ls h1 h2 h3)
theorem G_dup2 {va vb : Value} (hd : decode (mcc mi) pc = .ok (.dup2, 1)) (hva : va.category = 1) (hvb : vb.category = 1) (K : G X ad mi φ (pc + 1) L (va :: vb :: va :: vb :: st) M o) : G X ad mi φ pc L (va :: vb :: st) M o :=
  fun ok r hr H locs ls h1 h2 h3 => lv_dup2_11 ok.hx ok.hb hd hva hvb (K ok r hr H locs ls h1 h2 h3)
theorem G_pop {va : Value} (hd : decode (mcc mi) pc = .ok (.pop, 1)) (hva : va.category = 1) (K : G X ad mi φ (pc + 1) L (st) M o) : G X ad mi φ pc L (va :: st) M o :=
  fun ok r hr H locs ls h1 h2 h3 => lv_pop ok.hx ok.hb hd hva (K ok r hr H locs ls h1 h2 h3)
theorem G_if_eq {x : Int32} {off : Int} (tgt : Nat) {a b : Option β} (hd : decode (mcc mi) pc = .ok (.ifCond .eq off, 3)) (ht : (pc : Int) + off = (tgt : Int)) (kt : x = 0 → G X ad mi φ tgt L st M a) (kf : ¬ x = 0 → G X ad mi φ (pc + 3) L st M b) : G X ad mi φ pc L (.int x :: st) M (if x = 0 then a else b) := by
  intro ok r hr H locs ls h1 h2 h3
  refine lv_if_eq ok.hx ok.hb hd ht (fun c => ?_) (fun c => ?_)
  · rw [if_pos c] at hr; exact kt c ok r hr H locs ls h1 h2 h3
  · rw [if_neg c] at hr; exact kf c ok r hr H locs ls h1 h2 h3
theorem G_icmp_eq {x y : Int32} {off : Int} (tgt : Nat) {a b : Option β} (hd : decode (mcc mi) pc = .ok (.if_icmp .eq off, 3)) (ht : (pc : Int) + off = (tgt : Int)) (kt : x = y → G X ad mi φ tgt L st M a) (kf : ¬ x = y → G X ad mi φ (pc + 3) L st M b) : G X ad mi φ pc L (.int y :: .int x :: st) M (if x = y then a else b) := by
  intro ok r hr H locs ls h1 h2 h3
  refine lv_icmp_eq ok.hx ok.hb hd ht (fun c => ?_) (fun c => ?_)
  · rw [if_pos c] at hr; exact kt c ok r hr H locs ls h1 h2 h3
  · rw [if_neg c] at hr; exact kf c ok r hr H locs ls h1 h2 h3
theorem G_if_ne {x : Int32} {off : Int} (tgt : Nat) {a b : Option β} (hd : decode (mcc mi) pc = .ok (.ifCond .ne off, 3)) (ht : (pc : Int) + off = (tgt : Int)) (kf : x = 0 → G X ad mi φ (pc + 3) L st M a) (kt : ¬ x = 0 → G X ad mi φ tgt L st M b) : G X ad mi φ pc L (.int x :: st) M (if x = 0 then a else b) := by
  intro ok r hr H locs ls h1 h2 h3
  refine lv_if_ne ok.hx ok.hb hd ht (fun c => ?_) (fun c => ?_)
  · rw [if_neg c] at hr; exact kt c ok r hr H locs ls h1 h2 h3
  · rw [if_pos c] at hr; exact kf c ok r hr H locs ls h1 h2 h3
theorem G_icmp_ne {x y : Int32} {off : Int} (tgt : Nat) {a b : Option β} (hd : decode (mcc mi) pc = .ok (.if_icmp .ne off, 3)) (ht : (pc : Int) + off = (tgt : Int)) (kf : x = y → G X ad mi φ (pc + 3) L st M a) (kt : ¬ x = y → G X ad mi φ tgt L st M b) : G X ad mi φ pc L (.int y :: .int x :: st) M (if x = y then a else b) := by
  intro ok r hr H locs ls h1 h2 h3
  refine lv_icmp_ne ok.hx ok.hb hd ht (fun c => ?_) (fun c => ?_)
  · rw [if_neg c] at hr; exact kt c ok r hr H locs ls h1 h2 h3
  · rw [if_pos c] at hr; exact kf c ok r hr H locs ls h1 h2 h3
theorem G_if_lt {x : Int32} {off : Int} (tgt : Nat) {a b : Option β} (hd : decode (mcc mi) pc = .ok (.ifCond .lt off, 3)) (ht : (pc : Int) + off = (tgt : Int)) (kt : x < 0 → G X ad mi φ tgt L st M a) (kf : ¬ x < 0 → G X ad mi φ (pc + 3) L st M b) : G X ad mi φ pc L (.int x :: st) M (if x < 0 then a else b) := by
  intro ok r hr H locs ls h1 h2 h3
  refine lv_if_lt ok.hx ok.hb hd ht (fun c => ?_) (fun c => ?_)
  · rw [if_pos c] at hr; exact kt c ok r hr H locs ls h1 h2 h3
  · rw [if_neg c] at hr; exact kf c ok r hr H locs ls h1 h2 h3
theorem G_icmp_lt {x y : Int32} {off : Int} (tgt : Nat) {a b : Option β} (hd : decode (mcc mi) pc = .ok (.if_icmp .lt off, 3)) (ht : (pc : Int) + off = (tgt : Int)) (kt : x < y → G X ad mi φ tgt L st M a) (kf : ¬ x < y → G X ad mi φ (pc + 3) L st M b) : G X ad mi φ pc L (.int y :: .int x :: st) M (if x < y then a else b) := by
  intro ok r hr H locs ls h1 h2 h3
  refine lv_icmp_lt ok.hx ok.hb hd ht (fun c => ?_) (fun c => ?_)
  · rw [if_pos c] at hr; exact kt c ok r hr H locs ls h1 h2 h3
  · rw [if_neg c] at hr; exact kf c ok r hr H locs ls h1 h2 h3
theorem G_if_ge {x : Int32} {off : Int} (tgt : Nat) {a b : Option β} (hd : decode (mcc mi) pc = .ok (.ifCond .ge off, 3)) (ht : (pc : Int) + off = (tgt : Int)) (kt : 0 ≤ x → G X ad mi φ tgt L st M a) (kf : ¬ 0 ≤ x → G X ad mi φ (pc + 3) L st M b) : G X ad mi φ pc L (.int x :: st) M (if 0 ≤ x then a else b) := by
  intro ok r hr H locs ls h1 h2 h3
  refine lv_if_ge ok.hx ok.hb hd ht (fun c => ?_) (fun c => ?_)
  · rw [if_pos c] at hr; exact kt c ok r hr H locs ls h1 h2 h3
  · rw [if_neg c] at hr; exact kf c ok r hr H locs ls h1 h2 h3
theorem G_icmp_ge {x y : Int32} {off : Int} (tgt : Nat) {a b : Option β} (hd : decode (mcc mi) pc = .ok (.if_icmp .ge off, 3)) (ht : (pc : Int) + off = (tgt : Int)) (kt : y ≤ x → G X ad mi φ tgt L st M a) (kf : ¬ y ≤ x → G X ad mi φ (pc + 3) L st M b) : G X ad mi φ pc L (.int y :: .int x :: st) M (if y ≤ x then a else b) := by
  intro ok r hr H locs ls h1 h2 h3
  refine lv_icmp_ge ok.hx ok.hb hd ht (fun c => ?_) (fun c => ?_)
  · rw [if_pos c] at hr; exact kt c ok r hr H locs ls h1 h2 h3
  · rw [if_neg c] at hr; exact kf c ok r hr H locs ls h1 h2 h3
theorem G_if_gt {x : Int32} {off : Int} (tgt : Nat) {a b : Option β} (hd : decode (mcc mi) pc = .ok (.ifCond .gt off, 3)) (ht : (pc : Int) + off = (tgt : Int)) (kt : 0 < x → G X ad mi φ tgt L st M a) (kf : ¬ 0 < x → G X ad mi φ (pc + 3) L st M b) : G X ad mi φ pc L (.int x :: st) M (if 0 < x then a else b) := by
  intro ok r hr H locs ls h1 h2 h3
  refine lv_if_gt ok.hx ok.hb hd ht (fun c => ?_) (fun c => ?_)
  · rw [if_pos c] at hr; exact kt c ok r hr H locs ls h1 h2 h3
  · rw [if_neg c] at hr; exact kf c ok r hr H locs ls h1 h2 h3
theorem G_icmp_gt {x y : Int32} {off : Int} (tgt : Nat) {a b : Option β} (hd : decode (mcc mi) pc = .ok (.if_icmp .gt off, 3)) (ht : (pc : Int) + off = (tgt : Int)) (kt : y < x → G X ad mi φ tgt L st M a) (kf : ¬ y < x → G X ad mi φ (pc + 3) L st M b) : G X ad mi φ pc L (.int y :: .int x :: st) M (if y < x then a else b) := by
  intro ok r hr H locs ls h1 h2 h3
  refine lv_icmp_gt ok.hx ok.hb hd ht (fun c => ?_) (fun c => ?_)
  · rw [if_pos c] at hr; exact kt c ok r hr H locs ls h1 h2 h3
  · rw [if_neg c] at hr; exact kf c ok r hr H locs ls h1 h2 h3
theorem G_if_le {x : Int32} {off : Int} (tgt : Nat) {a b : Option β} (hd : decode (mcc mi) pc = .ok (.ifCond .le off, 3)) (ht : (pc : Int) + off = (tgt : Int)) (kt : x ≤ 0 → G X ad mi φ tgt L st M a) (kf : ¬ x ≤ 0 → G X ad mi φ (pc + 3) L st M b) : G X ad mi φ pc L (.int x :: st) M (if x ≤ 0 then a else b) := by
  intro ok r hr H locs ls h1 h2 h3
  refine lv_if_le ok.hx ok.hb hd ht (fun c => ?_) (fun c => ?_)
  · rw [if_pos c] at hr; exact kt c ok r hr H locs ls h1 h2 h3
  · rw [if_neg c] at hr; exact kf c ok r hr H locs ls h1 h2 h3
theorem G_icmp_le {x y : Int32} {off : Int} (tgt : Nat) {a b : Option β} (hd : decode (mcc mi) pc = .ok (.if_icmp .le off, 3)) (ht : (pc : Int) + off = (tgt : Int)) (kt : x ≤ y → G X ad mi φ tgt L st M a) (kf : ¬ x ≤ y → G X ad mi φ (pc + 3) L st M b) : G X ad mi φ pc L (.int y :: .int x :: st) M (if x ≤ y then a else b) := by
  intro ok r hr H locs ls h1 h2 h3
  refine lv_icmp_le ok.hx ok.hb hd ht (fun c => ?_) (fun c => ?_)
  · rw [if_pos c] at hr; exact kt c ok r hr H locs ls h1 h2 h3
  · rw [if_neg c] at hr; exact kf c ok r hr H locs ls h1 h2 h3
theorem G_goto {off : Int} (tgt : Nat) (hd : decode (mcc mi) pc = .ok (.goto off, 3)) (ht : (pc : Int) + off = (tgt : Int)) (K : G X ad mi φ tgt L st M o) : G X ad mi φ pc L st M o :=
  fun ok r hr H locs ls h1 h2 h3 => lv_goto ok.hx ok.hb hd ht (K ok r hr H locs ls h1 h2 h3)
theorem G_ifnonnull {x : Nat} {off : Int} (tgt : Nat) (hd : decode (mcc mi) pc = .ok (.ifnonnull off, 3)) (ht : (pc : Int) + off = (tgt : Int)) (K : G X ad mi φ tgt L st M o) : G X ad mi φ pc L (.ref x :: st) M o :=
  fun ok r hr H locs ls h1 h2 h3 => lv_ifnonnull ok.hx ok.hb hd ht (K ok r hr H locs ls h1 h2 h3)
theorem G_ifnull {x : Nat} {off : Int} (hd : decode (mcc mi) pc = .ok (.ifnull off, 3)) (K : G X ad mi φ (pc + 3) L st M o) : G X ad mi φ pc L (.ref x :: st) M o :=
  fun ok r hr H locs ls h1 h2 h3 => lv_ifnull ok.hx ok.hb hd (K ok r hr H locs ls h1 h2 h3)
theorem G_ldc {index : Nat} {v : Int32} (hc : Cond.constant (my mi).cls index v ∈ TB) (hd : decode (mcc mi) pc = .ok (.ldc index, 2)) (K : G X ad mi φ (pc + 2) L (.int v :: st) M o) : G X ad mi φ pc L st M o :=
  fun ok r hr H locs ls h1 h2 h3 => lv_ldc ok.hx ok.hb ok.hown (ok.hts _ hc) hd (K ok r hr H locs ls h1 h2 h3)
theorem G_ldc2 {index : Nat} {v : Int64} (hc : Cond.constantLong (my mi).cls index v ∈ TB) (hd : decode (mcc mi) pc = .ok (.ldc2_w index, 3)) (K : G X ad mi φ (pc + 3) L (.long v :: st) M o) : G X ad mi φ pc L st M o :=
  fun ok r hr H locs ls h1 h2 h3 => lv_ldc2 ok.hx ok.hb ok.hown (ok.hts _ hc) hd (K ok r hr H locs ls h1 h2 h3)
theorem G_tswIn {dflt lo hi : Int} {offs : Array Int} {len : Nat} {x : Int32} {off : Int} (v : Int32) (tgt : Nat) (hd : decode (mcc mi) pc = .ok (.tableswitch dflt lo hi offs, len)) (hx : x = v) (h1 : ¬ v.toInt < lo) (h2 : ¬ hi < v.toInt) (ho : offs[(v.toInt - lo).toNat]? = some off) (ht : (pc : Int) + off = (tgt : Int)) (K : G X ad mi φ tgt L st M o) : G X ad mi φ pc L (.int x :: st) M o := by
  subst hx
  exact fun ok r hr H locs ls a1 a2 a3 => lv_tableIn ok.hx ok.hb hd h1 h2 ho ht (K ok r hr H locs ls a1 a2 a3)
theorem G_tswOut {dflt lo hi : Int} {offs : Array Int} {len : Nat} {x : Int32} (tgt : Nat) (hd : decode (mcc mi) pc = .ok (.tableswitch dflt lo hi offs, len)) (h : x.toInt < lo ∨ hi < x.toInt) (ht : (pc : Int) + dflt = (tgt : Int)) (K : G X ad mi φ tgt L st M o) : G X ad mi φ pc L (.int x :: st) M o :=
  fun ok r hr H locs ls a1 a2 a3 => lv_tableOut ok.hx ok.hb hd h ht (K ok r hr H locs ls a1 a2 a3)
/-- what the names say of a class -/
def ClOk (ci : Nat) (C : String) (T : u_T) (N : Nat) : Prop := vwCl[ci]? = some (C, T, N) ∧ (∀ w ∈ u_ws C T N, w ∈ TB) ∧ (∀ a, a < N → ∀ b, b < N → a ≠ b → (T a).2.1 ≠ (T b).2.1) ∧ ∃ ty : Nat → FieldType, ∀ k, k < N → parseFieldDescriptor (T k).2.2.1 = some (ty k)
variable {C : String} {T : u_T} {N ci k j index : Nat} {fs : List (Option Nat)} {ref host : String}
theorem G_getI (hcl : ClOk ci C T N) (hk : k < 61) (ho : ob k = .inl (ci, fs)) (j : Nat) (hj : j < N) (hf : fs[j]? = some none) (hlink : Cond.fieldLink (my mi).cls index (T j).1 (T j).2.1 (T j).2.2.1 ∈ TB) (hd : decode (mcc mi) pc = .ok (.getfield index, 3)) (K : G X ad mi φ (pc + 3) L (.int (M k j) :: st) M o) : G X ad mi φ pc L (.ref (ad k) :: st) M o :=
  fun ok r hr H locs ls h1 h2 h3 => va_get ok.hx ok.hb ok.hts hcl.2.1 ok.hown ok.hK h2 k (by rw [wd_get hk, cel_obj ho]) hcl.1 j hj (ok.hts _ hlink) (fun _ h => h) (by have := fvs_int ad (M k) fs 0 j hf; rwa [Nat.zero_add] at this) hd (K ok r hr H locs ls h1 h2 h3)
theorem G_getR {q : Nat} (hcl : ClOk ci C T N) (hk : k < 61) (ho : ob k = .inl (ci, fs)) (j : Nat) (hj : j < N) (hf : fs[j]? = some (some q)) (hlink : Cond.fieldLink (my mi).cls index (T j).1 (T j).2.1 (T j).2.2.1 ∈ TB) (hd : decode (mcc mi) pc = .ok (.getfield index, 3)) (K : G X ad mi φ (pc + 3) L (.ref (ad q) :: st) M o) : G X ad mi φ pc L (.ref (ad k) :: st) M o :=
  fun ok r hr H locs ls h1 h2 h3 => va_get ok.hx ok.hb ok.hts hcl.2.1 ok.hown ok.hK h2 k (by rw [wd_get hk, cel_obj ho]) hcl.1 j hj (ok.hts _ hlink) (fun _ h => h) (fvs_ref ad (M k) fs 0 j q hf) hd (K ok r hr H locs ls h1 h2 h3)
theorem G_getIN (hcl : ClOk ci C T N) (hk : k < 61) (ho : ob k = .inl (ci, fs)) (j : Nat) (hj : j < N) (hf : fs[j]? = some none) (hlink : Cond.fieldLinkNest (my mi).cls index (T j).1 (T j).2.1 (T j).2.2.1 host ∈ NW) (hd : decode (mcc mi) pc = .ok (.getfield index, 3)) (K : G X ad mi φ (pc + 3) L (.int (M k j) :: st) M o) : G X ad mi φ pc L (.ref (ad k) :: st) M o :=
  fun ok r hr H locs ls h1 h2 h3 => va_getN ok.hx ok.hb ok.hts hcl.2.1 ok.hown ok.hK h2 k (by rw [wd_get hk, cel_obj ho]) hcl.1 j hj (va_Nw.use rfl (ok.hnw _ hlink)) (fun _ h => h) (by have := fvs_int ad (M k) fs 0 j hf; rwa [Nat.zero_add] at this) hd (K ok r hr H locs ls h1 h2 h3)
theorem G_getRN {q : Nat} (hcl : ClOk ci C T N) (hk : k < 61) (ho : ob k = .inl (ci, fs)) (j : Nat) (hj : j < N) (hf : fs[j]? = some (some q)) (hlink : Cond.fieldLinkNest (my mi).cls index (T j).1 (T j).2.1 (T j).2.2.1 host ∈ NW) (hd : decode (mcc mi) pc = .ok (.getfield index, 3)) (K : G X ad mi φ (pc + 3) L (.ref (ad q) :: st) M o) : G X ad mi φ pc L (.ref (ad k) :: st) M o :=
  fun ok r hr H locs ls h1 h2 h3 => va_getN ok.hx ok.hb ok.hts hcl.2.1 ok.hown ok.hK h2 k (by rw [wd_get hk, cel_obj ho]) hcl.1 j hj (va_Nw.use rfl (ok.hnw _ hlink)) (fun _ h => h) (fvs_ref ad (M k) fs 0 j q hf) hd (K ok r hr H locs ls h1 h2 h3)
theorem wd_put {cI cZ : ClassId} (hk : k < 61) (ho : ob k = .inl (ci, fs)) (hf : fs[j]? = some none) (v : Int32) : (wd ad cI cZ M).set k (ad k, .inr (ci, (fvs ad (M k) 0 fs).set j (.int v))) = wd ad cI cZ (st2 M k j v) := by
  refine wd_set hk ?_
  rw [cel_obj ho, fvs_set ad (M k) v fs 0 j hf, Nat.zero_add]
  simp [st2]
theorem G_put {v : Int32} {f : Mem → Option β} (hcl : ClOk ci C T N) (hk : k < 61) (ho : ob k = .inl (ci, fs)) (j : Nat) (hj : j < N) (hf : fs[j]? = some none) (hfin : (T j).2.2.2 = false) (hty : parseFieldDescriptor (T j).2.2.1 = some .int) (hlink : Cond.fieldLink (my mi).cls index (T j).1 (T j).2.1 (T j).2.2.1 ∈ TB) (hd : decode (mcc mi) pc = .ok (.putfield index, 3)) (K : ∀ M' : Mem, G X ad mi φ (pc + 3) L st M' (f M')) : G X ad mi φ pc L (.int v :: .ref (ad k) :: st) M (nm (st2 M k j v) f) := by
  intro ok r hr H locs ls h1 h2 h3
  obtain ⟨ty, hty0⟩ := hcl.2.2.2
  refine va_put ok.hx ok.hb ok.hts hcl.2.1 ty hty0 hcl.2.2.1 ok.hown ok.hK h2 ok.hD h3 k (by rw [wd_get hk, cel_obj ho]) hcl.1 j hj (ok.hts _ hlink) (fun _ h => h) hfin hty rfl rfl (by rw [fvs_len]; exact (List.getElem?_eq_some_iff.mp hf).1) hd (fun H1 locs1 a1 _ a3 => ?_)
  rw [wd_put hk ho hf v] at a1
  exact K _ ok r hr H1 locs1 ls h1 a1 a3
theorem G_putN {v : Int32} {f : Mem → Option β} (hcl : ClOk ci C T N) (hk : k < 61) (ho : ob k = .inl (ci, fs)) (j : Nat) (hj : j < N) (hf : fs[j]? = some none) (hfin : (T j).2.2.2 = false) (hty : parseFieldDescriptor (T j).2.2.1 = some .int) (hlink : Cond.fieldLinkNest (my mi).cls index (T j).1 (T j).2.1 (T j).2.2.1 host ∈ NW) (hd : decode (mcc mi) pc = .ok (.putfield index, 3)) (K : ∀ M' : Mem, G X ad mi φ (pc + 3) L st M' (f M')) : G X ad mi φ pc L (.int v :: .ref (ad k) :: st) M (nm (st2 M k j v) f) := by
  intro ok r hr H locs ls h1 h2 h3
  obtain ⟨ty, hty0⟩ := hcl.2.2.2
  refine va_putN ok.hx ok.hb ok.hts hcl.2.1 ty hty0 hcl.2.2.1 ok.hown ok.hK h2 ok.hD h3 k (by rw [wd_get hk, cel_obj ho]) hcl.1 j hj (va_Nw.use rfl (ok.hnw _ hlink)) (fun _ h => h) hfin hty rfl rfl (by rw [fvs_len]; exact (List.getElem?_eq_some_iff.mp hf).1) hd (fun H1 locs1 a1 _ a3 => ?_)
  rw [wd_put hk ho hf v] at a1
  exact K _ ok r hr H1 locs1 ls h1 a1 a3
theorem G_iald {n : Nat} {i : Int32} (hk : k < 61) (ho : ob k = .inr (n, false)) (hd : decode (mcc mi) pc = .ok (.iaload, 1)) (K : G X ad mi φ (pc + 1) L (.int (rd M k i) :: st) M o) : G X ad mi φ pc L (.int i :: .ref (ad k) :: st) M (if inb i n then o else none) := by
  intro ok r hr H locs ls h1 h2 h3
  by_cases hb : inb i n
  · rw [if_pos hb] at hr
    exact va_iald ok.hx ok.hb ok.hK h2 k 0 (by rw [wd_get hk, cel_arr ho]) rfl hb hd (K ok r hr H locs ls h1 h2 h3)
  · rw [if_neg hb] at hr; cases hr
theorem G_zald {n : Nat} {i : Int32} (hk : k < 61) (ho : ob k = .inr (n, true)) (hd : decode (mcc mi) pc = .ok (.baload, 1)) (K : G X ad mi φ (pc + 1) L (.int (rd M k i) :: st) M o) : G X ad mi φ pc L (.int i :: .ref (ad k) :: st) M (if inb i n then o else none) := by
  intro ok r hr H locs ls h1 h2 h3
  by_cases hb : inb i n
  · rw [if_pos hb] at hr
    exact va_zald ok.hx ok.hb ok.hK h2 k 1 (by rw [wd_get hk, cel_arrZ ho]) rfl hb hd (K ok r hr H locs ls h1 h2 h3)
  · rw [if_neg hb] at hr; cases hr
theorem G_iast {n : Nat} {i x : Int32} {f : Mem → Option β} (hk : k < 61) (ho : ob k = .inr (n, false)) (hd : decode (mcc mi) pc = .ok (.iastore, 1)) (K : ∀ M' : Mem, G X ad mi φ (pc + 1) L st M' (f M')) : G X ad mi φ pc L (.int x :: .int i :: .ref (ad k) :: st) M (if inb i n then nm (wr M k i x) f else none) := by
  intro ok r hr H locs ls h1 h2 h3
  by_cases hb : inb i n
  · rw [if_pos hb] at hr
    refine va_iast ok.hx ok.hb ok.hK h2 ok.hD h3 k 0 (by rw [wd_get hk, cel_arr ho]) rfl hb hd (fun H1 locs1 a1 _ a3 => ?_)
    rw [wd_set hk (v := x) (j := i.toNatClampNeg) (M := M) (by rw [cel_arr ho]; simp [st2])] at a1
    exact K _ ok r hr H1 locs1 ls h1 a1 a3
  · rw [if_neg hb] at hr; cases hr
theorem G_zast {n : Nat} {i x : Int32} {f : Mem → Option β} (hk : k < 61) (ho : ob k = .inr (n, true)) (hd : decode (mcc mi) pc = .ok (.bastore, 1)) (K : ∀ M' : Mem, G X ad mi φ (pc + 1) L st M' (f M')) : G X ad mi φ pc L (.int x :: .int i :: .ref (ad k) :: st) M (if inb i n then nm (wr M k i (bz x)) f else none) := by
  intro ok r hr H locs ls h1 h2 h3
  by_cases hb : inb i n
  · rw [if_pos hb] at hr
    refine va_zast ok.hx ok.hb ok.hK h2 ok.hD h3 k 1 (by rw [wd_get hk, cel_arrZ ho]) rfl hb hd (fun H1 locs1 a1 _ a3 => ?_)
    rw [wd_set hk (v := bz x) (j := i.toNatClampNeg) (M := M) (by rw [cel_arrZ ho]; simp [st2, bz, vp_nar, narrow])] at a1
    exact K _ ok r hr H1 locs1 ls h1 a1 a3
  · rw [if_neg hb] at hr; cases hr
theorem G_alen {n : Nat} (hk : k < 61) (ho : ob k = .inr (n, false)) (hd : decode (mcc mi) pc = .ok (.arraylength, 1)) (K : G X ad mi φ (pc + 1) L (.int (Int32.ofNat n) :: st) M o) : G X ad mi φ pc L (.ref (ad k) :: st) M o :=
  fun ok r hr H locs ls h1 h2 h3 => va_alen ok.hx ok.hb ok.hK h2 k 0 (by rw [wd_get hk, cel_arr ho]) (ty := .int) rfl rfl hd (K ok r hr H locs ls h1 h2 h3)
end GR
section RET
variable {p : Program} {l : Launch} {e : Env} {R : Room} {s : State} {m : MethodId} {args : Array Value} {below : List Frame} {meth : Method} {c : Code} {H : Heap} {locs : List Loc} {cells slots : Nat} {Q : State → Prop}
theorem W_zret {cc : ByteArray} {Qc : Array Value → State → Outcome → State → Prop} {free : Addr → Prop} {v : Int32} (hexec : p.tables.exec = Jvm.exec) (hb : c.code = cc) (hr : meth.sig.returnType = some .boolean)
    (hq : ∀ t : State, t.heap = H → s.WarmedH t.vm → Qc args s (.returned (some (.int (bz v)))) t) (hf : ∀ q ∈ locs, free q.base)
    {pc : Nat} {ls : Array Slot} (hdg : decode cc pc = .ok (.ireturn, 1)) (hlocks : meth.locks = false) : W p l e R s m args below meth c H locs cells slots (MQ below Qc args s cells slots free) (F0 m pc ls [.int v]) := by
  intro T hT X
  have hlocks : meth.locks = false := hlocks
  obtain ⟨fs, hret, hrun, hended, hW, hframe⟩ := X.leave (v := some (.int (bz v))) (fun h => by rw [hr] at h; cases h)
  have hmeth' : T.vm.method? m = some meth := X.method'
  have hn : narrow .boolean (.int v) = .int (bz v) := rfl
  refine ⟨T.setFrames fs, ?_, .returned (some (.int (bz v))), hrun, hended, hq _ hT hW, locs, ⟨⟨_, rfl⟩, hW, hframe⟩, hf⟩
  jvm_step X.here [X.here.top, hexec, hb, hdg, hmeth', hr, hn]
  (try refine ⟨rfl, ?_⟩); (try refine ⟨rfl, ?_⟩)
  first | (intro acts; rw [hret _ acts rfl rfl rfl]) | rw [hret _ _ rfl rfl rfl]
  exact Steps.refl _
theorem W_callw {D : va_G} {ad : Nat → Nat} {cI cZ : ClassId} {A : Nat → Prop} {pc : Nat} {ls : Array Slot} {rest st0 : List Value} {a : Array Value} {r : Option Value × Mem} (hr : va_Run p l e R s m args below meth c H locs cells slots 0 0 (F0 m pc ls st0) rest (Qw ad D cI cZ (Aw ad) r a) (Aw ad)) (hS : va_S A s.heap H locs) (hA : ∀ q, Aw ad q → A q)
    (kk : ∀ (H1 : Heap) (locs1 : List Loc), va_P D vwCl (wd ad cI cZ r.2) H1 → va_S A s.heap H1 locs1 → W p l e R s m args below meth c H1 locs1 cells slots Q (F0 m (pc + 3) ls (r.1.toList ++ rest))) : W p l e R s m args below meth c H locs cells slots Q (F0 m pc ls st0) := by
  intro T hT X
  obtain ⟨v, st₀, t, T', Lc, h0, X', hL, e1, e2, ⟨⟨hv, hP⟩, hz, hk⟩, st⟩ := hr T hT X
  injection hv with hv
  subst hv
  rw [h0] at hz hk
  obtain ⟨t2, a1, b1⟩ := kk T'.heap (locs ++ Lc) (by rw [e1]; exact hP)
    ⟨Nat.le_trans hS.1 (by rw [e1]; exact hz), fun q h1 h2 => by rw [e1, hk q (Nat.lt_of_lt_of_le h1 hS.1) (fun z => h2 (hA q z))]; exact hS.2.1 q h1 h2, fun q hq => by
      rcases List.mem_append.mp hq with h | h
      · exact hS.2.2 q h
      · exact hA _ (hL q h)⟩ T' rfl X'
  exact ⟨t2, st t2 a1, b1⟩
end RET
theorem Bw_blind {ad : Nat → Nat} {D : va_G} {cI cZ : ClassId} {M : Mem} {av : List Value} : FrameBlind (va_Pc av (Bw ad D cI cZ M)) := fun a U g mk q => by
  obtain ⟨q0, q1, q2, q3, q4⟩ := q
  exact ⟨q0, q1, va_K.moved (u := U) (U := U.calling g mk a) (Vm.Alike.refl U.vm) q2, q3, fun w hw => va_Nw.same (u := U) (U := U.calling g mk a) (nest_on w (List.mem_filter.mp hw).2) rfl (q4 w hw)⟩
/-- what a caller needs to know of a method -/
def CalOk (mi : Mi) (n : Nat) : Prop := Cond.code (my mi) (mcc mi) (mnL mi) (mret mi) ∈ TB ∧ Cond.initialized (my mi).cls ∈ TB ∧ ((my mi).cls ≠ "java/lang/invoke/MethodHandle" ∧ (my mi).cls ≠ "java/lang/invoke/VarHandle") ∧ (parseMethodDescriptor (my mi).desc).map (fun d => d.parameters.length) = some n
def CalV (mi : Mi) (n : Nat) : Prop := CalOk mi n ∧ Cond.instanceMethod (my mi) ∈ TB ∧ Cond.selects (my mi).cls (my mi) (my mi) ∈ TB
def CalS (mi : Mi) (n : Nat) : Prop := CalOk mi n ∧ Cond.static (my mi) ∈ TB
section CALL
variable {β β' : Type} {X : Cx} {ad : Nat → Nat} {mi mj : Mi} {φ : β → Option Value × Mem} {φ' : β' → Option Value × Mem} {pc n index : Nat} {L : List (Nat × Value)} {st stk : List Value} {M : Mem} {o' : Option β'} {f : β' → Option β} {as : (Nat → Nat) → List Value} {C : String} {T : u_T} {N ci k : Nat} {fs : List (Option Nat)} {host : String}
abbrev RoomOk (mi mj : Mi) : Prop := mfr mj + 1 ≤ mfr mi ∧ 8 + (mnL mj + 11) + mlo mj ≤ mlo mi
theorem call_ws (hc : CalOk mj n) : GoodIn TB (mws mj) := fun w hw => by
  rcases List.mem_cons.mp hw with rfl | h
  · exact TB_good _ hc.1
  · exact TB_good _ h
theorem call_cb (ok : Ok X ad mi) (hc : CalOk mj n) (hr : RoomOk mi mj) (hl : Cond.methodLink (my mi).cls index (my mj) ∈ TB) : CallB (xR X) (xS X) (xG X) (my mi).cls index (my mj) (mcc mj) (mnL mj) (mret mj) (mws mj) (mrm mj) 0 0 n := by
  obtain ⟨h1, h2, h3, h4⟩ := hc
  refine ⟨rfl, rfl, by rw [ok.hR.1]; exact hr.1, by rw [ok.hR.2.1]; exact hr.2, pay_in ok.hts (call_ws (n := n) ⟨h1, h2, h3, h4⟩), List.mem_cons_self, ok.hts _ h1, ok.hts _ h2, h3, fun sig h => ?_, ok.hts _ hl⟩
  rw [h] at h4
  exact (Option.some.inj h4).symm
theorem call_cn (ok : Ok X ad mi) (hc : CalOk mj n) (hr : RoomOk mi mj) (hl : Cond.methodLinkNest (my mi).cls index (my mj) host ∈ NW) : va_CN (xR X) (xS X) (xG X) (my mi).cls index (my mj) host (mcc mj) (mnL mj) (mret mj) (mws mj) (mrm mj) 0 0 n := by
  obtain ⟨h1, h2, h3, h4⟩ := hc
  refine ⟨⟨rfl, rfl, by rw [ok.hR.1]; exact hr.1, by rw [ok.hR.2.1]; exact hr.2, pay_in ok.hts (call_ws (n := n) ⟨h1, h2, h3, h4⟩), List.mem_cons_self⟩, ok.hts _ h1, ok.hts _ h2, h3, fun sig h => ?_, va_Nw.use rfl (ok.hnw _ hl)⟩
  rw [h] at h4
  exact (Option.some.inj h4).symm
theorem call_pre (ok : Ok X ad mi) {H : Heap} {As : List Value} (h2 : va_P (xD X) vwCl (wd ad (xI X) (xZ X) M) H) (U : State) (hU : U.heap = H) (hW : (xS X).WarmedH U.vm) : Bw ad (xD X) (xI X) (xZ X) M U :=
  ⟨by rw [hU]; exact h2, va_K.moved hW.alike ok.hK, ok.hin, fun w hw => nest_warm hW w (List.mem_filter.mp hw).2 (ok.hnw w hw)⟩
theorem G_callV (hM : MC mj φ' as M o') (hc : CalV mj n) (hr : RoomOk mi mj) (hl : Cond.methodLink (my mi).cls index (my mj) ∈ TB) (hcl : ClOk ci (my mj).cls T N) (hk : k < 61) (ho : ob k = .inl (ci, fs)) (As : List Value) (has : as ad = .ref (ad k) :: As) (hn : As.length = n) (hst : stk = As.reverse ++ .ref (ad k) :: st) (hcat : (st.map fun v => v.category).sum ≤ 8) (hd : decode (mcc mi) pc = .ok (.invokevirtual index, 3))
    (K : ∀ r, G X ad mi φ (pc + 3) L ((φ' r).1.toList ++ st) (φ' r).2 (f r)) : G X ad mi φ pc L stk M (Option.bind o' f) := by
  subst hst
  intro ok r hr' H locs ls h1 h2 h3
  cases ho' : o' with
  | none => rw [ho'] at hr'; cases hr'
  | some r' =>
    rw [ho'] at hr'
    have hMet := hM (xL X) ad (xD X) (xI X) (xZ X) r' ho'
    have hrun := va_runV (H := H) (locs := locs) (cells := xK X) (slots := xN X) (e := xE X) (meth := xMe X) (below := xB X) (As := As) (rest := st) (b := ad k) (C := (my mj).cls) (g := F0 (xM X) pc ls (As.reverse ++ .ref (ad k) :: st)) ⟨ok.hx, ok.hb, ok.hml, ok.hown, ok.hts⟩ hMet ⟨call_cb ok hc.1 hr hl, ok.hts _ hc.2.1, ok.hts _ hc.2.2⟩ ⟨Bw_blind, va_recv (q := ((my mj).cls, T, N)) ok.hK h2 hcl.1 (by rw [wd_get hk, cel_obj ho]), fun U hU hW => ⟨by rw [has], call_pre ok (As := As) h2 U hU hW⟩⟩ rfl hn h1.1 rfl (lv_room hcat) hd ⟨ok.hR.2.2.1, ok.hR.2.2.2⟩
    exact W_callw hrun h3 ok.hA (fun H1 locs1 a1 a2 => K r' ok r hr' H1 locs1 ls h1 a1 a2)
theorem G_callVN (hM : MC mj φ' as M o') (hc : CalV mj n) (hr : RoomOk mi mj) (hl : Cond.methodLinkNest (my mi).cls index (my mj) host ∈ NW) (hcl : ClOk ci (my mj).cls T N) (hk : k < 61) (ho : ob k = .inl (ci, fs)) (As : List Value) (has : as ad = .ref (ad k) :: As) (hn : As.length = n) (hst : stk = As.reverse ++ .ref (ad k) :: st) (hcat : (st.map fun v => v.category).sum ≤ 8) (hd : decode (mcc mi) pc = .ok (.invokevirtual index, 3))
    (K : ∀ r, G X ad mi φ (pc + 3) L ((φ' r).1.toList ++ st) (φ' r).2 (f r)) : G X ad mi φ pc L stk M (Option.bind o' f) := by
  subst hst
  intro ok r hr' H locs ls h1 h2 h3
  cases ho' : o' with
  | none => rw [ho'] at hr'; cases hr'
  | some r' =>
    rw [ho'] at hr'
    have hMet := hM (xL X) ad (xD X) (xI X) (xZ X) r' ho'
    have hrun := va_runVN (H := H) (locs := locs) (cells := xK X) (slots := xN X) (e := xE X) (meth := xMe X) (below := xB X) (As := As) (rest := st) (b := ad k) (C := (my mj).cls) (g := F0 (xM X) pc ls (As.reverse ++ .ref (ad k) :: st)) ⟨ok.hx, ok.hb, ok.hml, ok.hown, ok.hts⟩ hMet ⟨call_cn ok hc.1 hr hl, ok.hts _ hc.2.1, ok.hts _ hc.2.2⟩ ⟨Bw_blind, va_recv (q := ((my mj).cls, T, N)) ok.hK h2 hcl.1 (by rw [wd_get hk, cel_obj ho]), fun U hU hW => ⟨by rw [has], call_pre ok (As := As) h2 U hU hW⟩⟩ rfl hn h1.1 rfl (lv_room hcat) hd ⟨ok.hR.2.2.1, ok.hR.2.2.2⟩
    exact W_callw hrun h3 ok.hA (fun H1 locs1 a1 a2 => K r' ok r hr' H1 locs1 ls h1 a1 a2)
theorem G_callS (hM : MC mj φ' as M o') (hc : CalS mj n) (hr : RoomOk mi mj) (hl : Cond.methodLink (my mi).cls index (my mj) ∈ TB) (hn : (as ad).length = n) (hst : stk = (as ad).reverse ++ st) (hcat : (st.map fun v => v.category).sum ≤ 8) (hd : decode (mcc mi) pc = .ok (.invokestatic index, 3))
    (K : ∀ r, G X ad mi φ (pc + 3) L ((φ' r).1.toList ++ st) (φ' r).2 (f r)) : G X ad mi φ pc L stk M (Option.bind o' f) := by
  subst hst
  intro ok r hr' H locs ls h1 h2 h3
  cases ho' : o' with
  | none => rw [ho'] at hr'; cases hr'
  | some r' =>
    rw [ho'] at hr'
    have hMet := hM (xL X) ad (xD X) (xI X) (xZ X) r' ho'
    have hrun := va_runS (H := H) (locs := locs) (cells := xK X) (slots := xN X) (e := xE X) (meth := xMe X) (below := xB X) (As := as ad) (rest := st) (g := F0 (xM X) pc ls ((as ad).reverse ++ st)) ⟨ok.hx, ok.hb, ok.hml, ok.hown, ok.hts⟩ hMet ⟨call_cb ok hc.1 hr hl, ok.hts _ hc.2⟩ ⟨Bw_blind, fun U hU hW => ⟨rfl, call_pre ok (As := as ad) h2 U hU hW⟩⟩ rfl hn h1.1 rfl (lv_room hcat) hd ⟨ok.hR.2.2.1, ok.hR.2.2.2⟩
    exact W_callw hrun h3 ok.hA (fun H1 locs1 a1 a2 => K r' ok r hr' H1 locs1 ls h1 a1 a2)
theorem G_callSN (hM : MC mj φ' as M o') (hc : CalS mj n) (hr : RoomOk mi mj) (hl : Cond.methodLinkNest (my mi).cls index (my mj) host ∈ NW) (hn : (as ad).length = n) (hst : stk = (as ad).reverse ++ st) (hcat : (st.map fun v => v.category).sum ≤ 8) (hd : decode (mcc mi) pc = .ok (.invokestatic index, 3))
    (K : ∀ r, G X ad mi φ (pc + 3) L ((φ' r).1.toList ++ st) (φ' r).2 (f r)) : G X ad mi φ pc L stk M (Option.bind o' f) := by
  subst hst
  intro ok r hr' H locs ls h1 h2 h3
  cases ho' : o' with
  | none => rw [ho'] at hr'; cases hr'
  | some r' =>
    rw [ho'] at hr'
    have hMet := hM (xL X) ad (xD X) (xI X) (xZ X) r' ho'
    have hrun := va_runSN (H := H) (locs := locs) (cells := xK X) (slots := xN X) (e := xE X) (meth := xMe X) (below := xB X) (As := as ad) (rest := st) (g := F0 (xM X) pc ls ((as ad).reverse ++ st)) ⟨ok.hx, ok.hb, ok.hml, ok.hown, ok.hts⟩ hMet ⟨call_cn ok hc.1 hr hl, ok.hts _ hc.2, trivial⟩ ⟨Bw_blind, fun U hU hW => ⟨rfl, call_pre ok (As := as ad) h2 U hU hW⟩⟩ rfl hn h1.1 rfl (lv_room hcat) hd ⟨ok.hR.2.2.1, ok.hR.2.2.2⟩
    exact W_callw hrun h3 ok.hA (fun H1 locs1 a1 a2 => K r' ok r hr' H1 locs1 ls h1 a1 a2)
theorem G_ireturn {v : Int32} {x : β} (hM : mi.1 = true) (hret : mret mi = some .int) (hd : decode (mcc mi) pc = .ok (.ireturn, 1)) (hφ : φ x = (some (.int v), M)) : G X ad mi φ pc L [.int v] M (some x) := by
  intro ok r hr H locs ls h1 h2 h3
  cases hr
  rw [ok.hQ hM, hφ]
  exact W.iret ok.hx ok.hb (ok.hr.trans hret) (fun t ht _ => ⟨⟨rfl, by rw [ht]; exact h2⟩, h3.F ht⟩) h3.2.2 hd ok.hlk
theorem G_zreturn {v : Int32} {x : β} (hM : mi.1 = true) (hret : mret mi = some .boolean) (hd : decode (mcc mi) pc = .ok (.ireturn, 1)) (hφ : φ x = (some (.int (bz v)), M)) : G X ad mi φ pc L [.int v] M (some x) := by
  intro ok r hr H locs ls h1 h2 h3
  cases hr
  rw [ok.hQ hM, hφ]
  exact W_zret ok.hx ok.hb (ok.hr.trans hret) (fun t ht _ => ⟨⟨rfl, by rw [ht]; exact h2⟩, h3.F ht⟩) h3.2.2 hd ok.hlk
theorem G_lreturn {v : Int64} {x : β} (hM : mi.1 = true) (hret : mret mi = some .long) (hd : decode (mcc mi) pc = .ok (.lreturn, 1)) (hφ : φ x = (some (.long v), M)) : G X ad mi φ pc L [.long v] M (some x) := by
  intro ok r hr H locs ls h1 h2 h3
  cases hr
  rw [ok.hQ hM, hφ]
  exact W.lret ok.hx ok.hb (ok.hr.trans hret) (fun t ht _ => ⟨⟨rfl, by rw [ht]; exact h2⟩, h3.F ht⟩) h3.2.2 hd ok.hlk
theorem G_return {x : β} (hM : mi.1 = true) (hret : mret mi = none) (hd : decode (mcc mi) pc = .ok (.return_, 1)) (hφ : φ x = (none, M)) : G X ad mi φ pc L [] M (some x) := by
  intro ok r hr H locs ls h1 h2 h3
  cases hr
  rw [ok.hQ hM, hφ]
  exact W.vret ok.hx ok.hb (ok.hr.trans hret) (fun t ht _ => ⟨⟨rfl, by rw [ht]; exact h2⟩, h3.F ht⟩) h3.2.2 hd ok.hlk
end CALL
end
