section
-- ===== PART A: goes FIRST, ahead of the names: the tables' words, and 'selects' of the private methods out of them =====
/-- a private method of a class that the tables say can be made, by its rows of tables_1 -/
def lw_okq (q : MethodName × Nat) : Prop := (q.1.cls ≠ "java/lang/invoke/MethodHandle" ∧ q.1.cls ≠ "java/lang/invoke/VarHandle") ∧ Cond.instantiable q.1.cls q.2 ∈ tables_1 ∧ Cond.privateMethod q.1 ∈ tables_1 ∧ Cond.instanceMethod q.1 ∈ tables_1
theorem lw_p0 : lw_okq (⟨"LineRules$Text", "fault", "()I"⟩, 9) := ⟨⟨by decide +kernel, by decide +kernel⟩, List.mem_of_getElem? (i := 23) (by decide +kernel), List.mem_of_getElem? (i := 348) (by decide +kernel), List.mem_of_getElem? (i := 349) (by decide +kernel)⟩
theorem lw_p1 : lw_okq (⟨"LineRules$Text", "fitsHead", "(IC)Z"⟩, 9) := ⟨⟨by decide +kernel, by decide +kernel⟩, List.mem_of_getElem? (i := 23) (by decide +kernel), List.mem_of_getElem? (i := 352) (by decide +kernel), List.mem_of_getElem? (i := 353) (by decide +kernel)⟩
theorem lw_p2 : lw_okq (⟨"LineRules$Text", "digitsFault", "(I)I"⟩, 9) := ⟨⟨by decide +kernel, by decide +kernel⟩, List.mem_of_getElem? (i := 23) (by decide +kernel), List.mem_of_getElem? (i := 359) (by decide +kernel), List.mem_of_getElem? (i := 360) (by decide +kernel)⟩
theorem lw_p3 : lw_okq (⟨"LineRules$Text", "valueFor", "(I)I"⟩, 9) := ⟨⟨by decide +kernel, by decide +kernel⟩, List.mem_of_getElem? (i := 23) (by decide +kernel), List.mem_of_getElem? (i := 363) (by decide +kernel), List.mem_of_getElem? (i := 364) (by decide +kernel)⟩
theorem lw_p4 : lw_okq (⟨"LineRules$Text", "choice", "()I"⟩, 9) := ⟨⟨by decide +kernel, by decide +kernel⟩, List.mem_of_getElem? (i := 23) (by decide +kernel), List.mem_of_getElem? (i := 367) (by decide +kernel), List.mem_of_getElem? (i := 368) (by decide +kernel)⟩
theorem lw_p5 : lw_okq (⟨"LineRules$Text", "joined", "(I)I"⟩, 9) := ⟨⟨by decide +kernel, by decide +kernel⟩, List.mem_of_getElem? (i := 23) (by decide +kernel), List.mem_of_getElem? (i := 371) (by decide +kernel), List.mem_of_getElem? (i := 372) (by decide +kernel)⟩
theorem lw_p6 : lw_okq (⟨"LineRules$Text", "part", "()I"⟩, 9) := ⟨⟨by decide +kernel, by decide +kernel⟩, List.mem_of_getElem? (i := 23) (by decide +kernel), List.mem_of_getElem? (i := 375) (by decide +kernel), List.mem_of_getElem? (i := 376) (by decide +kernel)⟩
theorem lw_p7 : lw_okq (⟨"LineRules$Text", "here", "()C"⟩, 9) := ⟨⟨by decide +kernel, by decide +kernel⟩, List.mem_of_getElem? (i := 23) (by decide +kernel), List.mem_of_getElem? (i := 379) (by decide +kernel), List.mem_of_getElem? (i := 380) (by decide +kernel)⟩
theorem lw_p8 : lw_okq (⟨"LineRules$Text", "unturned", "()I"⟩, 9) := ⟨⟨by decide +kernel, by decide +kernel⟩, List.mem_of_getElem? (i := 23) (by decide +kernel), List.mem_of_getElem? (i := 383) (by decide +kernel), List.mem_of_getElem? (i := 384) (by decide +kernel)⟩
theorem lw_p9 : lw_okq (⟨"LineRules$Text", "bracket", "()I"⟩, 9) := ⟨⟨by decide +kernel, by decide +kernel⟩, List.mem_of_getElem? (i := 23) (by decide +kernel), List.mem_of_getElem? (i := 387) (by decide +kernel), List.mem_of_getElem? (i := 388) (by decide +kernel)⟩
theorem lw_p10 : lw_okq (⟨"LineRules$Text", "opens", "()Z"⟩, 9) := ⟨⟨by decide +kernel, by decide +kernel⟩, List.mem_of_getElem? (i := 23) (by decide +kernel), List.mem_of_getElem? (i := 391) (by decide +kernel), List.mem_of_getElem? (i := 392) (by decide +kernel)⟩
theorem lw_p11 : lw_okq (⟨"LineRules$Text", "together", "(ICI)I"⟩, 9) := ⟨⟨by decide +kernel, by decide +kernel⟩, List.mem_of_getElem? (i := 23) (by decide +kernel), List.mem_of_getElem? (i := 398) (by decide +kernel), List.mem_of_getElem? (i := 399) (by decide +kernel)⟩
theorem lw_p12 : lw_okq (⟨"LineRules$Text", "fill", "(LLineRules$Rule;)V"⟩, 9) := ⟨⟨by decide +kernel, by decide +kernel⟩, List.mem_of_getElem? (i := 23) (by decide +kernel), List.mem_of_getElem? (i := 408) (by decide +kernel), List.mem_of_getElem? (i := 409) (by decide +kernel)⟩
theorem lw_p13 : lw_okq (⟨"LineRules$Text", "made", "(I)I"⟩, 9) := ⟨⟨by decide +kernel, by decide +kernel⟩, List.mem_of_getElem? (i := 23) (by decide +kernel), List.mem_of_getElem? (i := 417) (by decide +kernel), List.mem_of_getElem? (i := 418) (by decide +kernel)⟩
theorem lw_p14 : lw_okq (⟨"LineRules$Text", "sumOf", "(I)I"⟩, 9) := ⟨⟨by decide +kernel, by decide +kernel⟩, List.mem_of_getElem? (i := 23) (by decide +kernel), List.mem_of_getElem? (i := 421) (by decide +kernel), List.mem_of_getElem? (i := 422) (by decide +kernel)⟩
theorem lw_p15 : lw_okq (⟨"LineRules$Rule", "enter", "(II)V"⟩, 10) := ⟨⟨by decide +kernel, by decide +kernel⟩, List.mem_of_getElem? (i := 59) (by decide +kernel), List.mem_of_getElem? (i := 432) (by decide +kernel), List.mem_of_getElem? (i := 433) (by decide +kernel)⟩
def lw_privs_1 : List (MethodName × Nat) := [(⟨"LineRules$Text", "fault", "()I"⟩, 9), (⟨"LineRules$Text", "fitsHead", "(IC)Z"⟩, 9), (⟨"LineRules$Text", "digitsFault", "(I)I"⟩, 9), (⟨"LineRules$Text", "valueFor", "(I)I"⟩, 9), (⟨"LineRules$Text", "choice", "()I"⟩, 9), (⟨"LineRules$Text", "joined", "(I)I"⟩, 9), (⟨"LineRules$Text", "part", "()I"⟩, 9), (⟨"LineRules$Text", "here", "()C"⟩, 9), (⟨"LineRules$Text", "unturned", "()I"⟩, 9), (⟨"LineRules$Text", "bracket", "()I"⟩, 9), (⟨"LineRules$Text", "opens", "()Z"⟩, 9), (⟨"LineRules$Text", "together", "(ICI)I"⟩, 9), (⟨"LineRules$Text", "fill", "(LLineRules$Rule;)V"⟩, 9), (⟨"LineRules$Text", "made", "(I)I"⟩, 9), (⟨"LineRules$Text", "sumOf", "(I)I"⟩, 9), (⟨"LineRules$Rule", "enter", "(II)V"⟩, 10)]
theorem lw_r1 : ∀ q ∈ lw_privs_1, lw_okq q := List.forall_mem_cons.mpr ⟨lw_p0, List.forall_mem_cons.mpr ⟨lw_p1, List.forall_mem_cons.mpr ⟨lw_p2, List.forall_mem_cons.mpr ⟨lw_p3, List.forall_mem_cons.mpr ⟨lw_p4, List.forall_mem_cons.mpr ⟨lw_p5, List.forall_mem_cons.mpr ⟨lw_p6, List.forall_mem_cons.mpr ⟨lw_p7, List.forall_mem_cons.mpr ⟨lw_p8, List.forall_mem_cons.mpr ⟨lw_p9, List.forall_mem_cons.mpr ⟨lw_p10, List.forall_mem_cons.mpr ⟨lw_p11, List.forall_mem_cons.mpr ⟨lw_p12, List.forall_mem_cons.mpr ⟨lw_p13, List.forall_mem_cons.mpr ⟨lw_p14, List.forall_mem_cons.mpr ⟨lw_p15, fun _ h => absurd h List.not_mem_nil⟩⟩⟩⟩⟩⟩⟩⟩⟩⟩⟩⟩⟩⟩⟩⟩
theorem lw_p16 : lw_okq (⟨"LineRules$Ring", "stepOnce", "()V"⟩, 5) := ⟨⟨by decide +kernel, by decide +kernel⟩, List.mem_of_getElem? (i := 127) (by decide +kernel), List.mem_of_getElem? (i := 507) (by decide +kernel), List.mem_of_getElem? (i := 508) (by decide +kernel)⟩
theorem lw_p17 : lw_okq (⟨"LineRules$Pairs", "partAndMeet", "()Z"⟩, 7) := ⟨⟨by decide +kernel, by decide +kernel⟩, List.mem_of_getElem? (i := 153) (by decide +kernel), List.mem_of_getElem? (i := 535) (by decide +kernel), List.mem_of_getElem? (i := 536) (by decide +kernel)⟩
theorem lw_p18 : lw_okq (⟨"LineRules$Pairs", "partAt", "(I)V"⟩, 7) := ⟨⟨by decide +kernel, by decide +kernel⟩, List.mem_of_getElem? (i := 153) (by decide +kernel), List.mem_of_getElem? (i := 540) (by decide +kernel), List.mem_of_getElem? (i := 541) (by decide +kernel)⟩
theorem lw_p19 : lw_okq (⟨"LineRules$Pairs", "meetsBehind", "(IJ)Z"⟩, 7) := ⟨⟨by decide +kernel, by decide +kernel⟩, List.mem_of_getElem? (i := 153) (by decide +kernel), List.mem_of_getElem? (i := 546) (by decide +kernel), List.mem_of_getElem? (i := 547) (by decide +kernel)⟩
theorem lw_p20 : lw_okq (⟨"LineRules$Pairs", "stayApart", "()Z"⟩, 7) := ⟨⟨by decide +kernel, by decide +kernel⟩, List.mem_of_getElem? (i := 153) (by decide +kernel), List.mem_of_getElem? (i := 563) (by decide +kernel), List.mem_of_getElem? (i := 564) (by decide +kernel)⟩
theorem lw_p21 : lw_okq (⟨"LineRules$Pairs", "lasting", "(I)J"⟩, 7) := ⟨⟨by decide +kernel, by decide +kernel⟩, List.mem_of_getElem? (i := 153) (by decide +kernel), List.mem_of_getElem? (i := 572) (by decide +kernel), List.mem_of_getElem? (i := 573) (by decide +kernel)⟩
theorem lw_p22 : lw_okq (⟨"LineRules$Inverse", "find", "()V"⟩, 6) := ⟨⟨by decide +kernel, by decide +kernel⟩, List.mem_of_getElem? (i := 181) (by decide +kernel), List.mem_of_getElem? (i := 584) (by decide +kernel), List.mem_of_getElem? (i := 585) (by decide +kernel)⟩
theorem lw_p23 : lw_okq (⟨"LineRules$Inverse", "placesTold", "(I)I"⟩, 6) := ⟨⟨by decide +kernel, by decide +kernel⟩, List.mem_of_getElem? (i := 181) (by decide +kernel), List.mem_of_getElem? (i := 589) (by decide +kernel), List.mem_of_getElem? (i := 590) (by decide +kernel)⟩
theorem lw_p24 : lw_okq (⟨"LineRules$Inverse", "madeOf", "(II)I"⟩, 6) := ⟨⟨by decide +kernel, by decide +kernel⟩, List.mem_of_getElem? (i := 181) (by decide +kernel), List.mem_of_getElem? (i := 595) (by decide +kernel), List.mem_of_getElem? (i := 596) (by decide +kernel)⟩
theorem lw_p25 : lw_okq (⟨"LineRules$Inverse", "samePlaces", "(III)I"⟩, 6) := ⟨⟨by decide +kernel, by decide +kernel⟩, List.mem_of_getElem? (i := 181) (by decide +kernel), List.mem_of_getElem? (i := 599) (by decide +kernel), List.mem_of_getElem? (i := 600) (by decide +kernel)⟩
theorem lw_p26 : lw_okq (⟨"LineRules$Inverse", "takeLeast", "(II)V"⟩, 6) := ⟨⟨by decide +kernel, by decide +kernel⟩, List.mem_of_getElem? (i := 181) (by decide +kernel), List.mem_of_getElem? (i := 603) (by decide +kernel), List.mem_of_getElem? (i := 604) (by decide +kernel)⟩
theorem lw_p27 : lw_okq (⟨"LineRules$Weights", "find", "()V"⟩, 6) := ⟨⟨by decide +kernel, by decide +kernel⟩, List.mem_of_getElem? (i := 206) (by decide +kernel), List.mem_of_getElem? (i := 627) (by decide +kernel), List.mem_of_getElem? (i := 628) (by decide +kernel)⟩
theorem lw_p28 : lw_okq (⟨"LineRules$Weights", "writeEquation", "(I)V"⟩, 6) := ⟨⟨by decide +kernel, by decide +kernel⟩, List.mem_of_getElem? (i := 206) (by decide +kernel), List.mem_of_getElem? (i := 632) (by decide +kernel), List.mem_of_getElem? (i := 633) (by decide +kernel)⟩
theorem lw_p29 : lw_okq (⟨"LineRules$Weights", "addGain", "(II)V"⟩, 6) := ⟨⟨by decide +kernel, by decide +kernel⟩, List.mem_of_getElem? (i := 206) (by decide +kernel), List.mem_of_getElem? (i := 637) (by decide +kernel), List.mem_of_getElem? (i := 638) (by decide +kernel)⟩
theorem lw_p30 : lw_okq (⟨"LineRules$Weights", "tie", "()V"⟩, 6) := ⟨⟨by decide +kernel, by decide +kernel⟩, List.mem_of_getElem? (i := 206) (by decide +kernel), List.mem_of_getElem? (i := 641) (by decide +kernel), List.mem_of_getElem? (i := 642) (by decide +kernel)⟩
theorem lw_p31 : lw_okq (⟨"LineRules$Weights", "shorten", "([J)V"⟩, 6) := ⟨⟨by decide +kernel, by decide +kernel⟩, List.mem_of_getElem? (i := 206) (by decide +kernel), List.mem_of_getElem? (i := 646) (by decide +kernel), List.mem_of_getElem? (i := 647) (by decide +kernel)⟩
def lw_privs_2 : List (MethodName × Nat) := [(⟨"LineRules$Ring", "stepOnce", "()V"⟩, 5), (⟨"LineRules$Pairs", "partAndMeet", "()Z"⟩, 7), (⟨"LineRules$Pairs", "partAt", "(I)V"⟩, 7), (⟨"LineRules$Pairs", "meetsBehind", "(IJ)Z"⟩, 7), (⟨"LineRules$Pairs", "stayApart", "()Z"⟩, 7), (⟨"LineRules$Pairs", "lasting", "(I)J"⟩, 7), (⟨"LineRules$Inverse", "find", "()V"⟩, 6), (⟨"LineRules$Inverse", "placesTold", "(I)I"⟩, 6), (⟨"LineRules$Inverse", "madeOf", "(II)I"⟩, 6), (⟨"LineRules$Inverse", "samePlaces", "(III)I"⟩, 6), (⟨"LineRules$Inverse", "takeLeast", "(II)V"⟩, 6), (⟨"LineRules$Weights", "find", "()V"⟩, 6), (⟨"LineRules$Weights", "writeEquation", "(I)V"⟩, 6), (⟨"LineRules$Weights", "addGain", "(II)V"⟩, 6), (⟨"LineRules$Weights", "tie", "()V"⟩, 6), (⟨"LineRules$Weights", "shorten", "([J)V"⟩, 6)]
theorem lw_r2 : ∀ q ∈ lw_privs_2, lw_okq q := List.forall_mem_cons.mpr ⟨lw_p16, List.forall_mem_cons.mpr ⟨lw_p17, List.forall_mem_cons.mpr ⟨lw_p18, List.forall_mem_cons.mpr ⟨lw_p19, List.forall_mem_cons.mpr ⟨lw_p20, List.forall_mem_cons.mpr ⟨lw_p21, List.forall_mem_cons.mpr ⟨lw_p22, List.forall_mem_cons.mpr ⟨lw_p23, List.forall_mem_cons.mpr ⟨lw_p24, List.forall_mem_cons.mpr ⟨lw_p25, List.forall_mem_cons.mpr ⟨lw_p26, List.forall_mem_cons.mpr ⟨lw_p27, List.forall_mem_cons.mpr ⟨lw_p28, List.forall_mem_cons.mpr ⟨lw_p29, List.forall_mem_cons.mpr ⟨lw_p30, List.forall_mem_cons.mpr ⟨lw_p31, fun _ h => absurd h List.not_mem_nil⟩⟩⟩⟩⟩⟩⟩⟩⟩⟩⟩⟩⟩⟩⟩⟩
theorem lw_p32 : lw_okq (⟨"LineRules$Weights", "writeWeight", "(I[J)V"⟩, 6) := ⟨⟨by decide +kernel, by decide +kernel⟩, List.mem_of_getElem? (i := 206) (by decide +kernel), List.mem_of_getElem? (i := 656) (by decide +kernel), List.mem_of_getElem? (i := 657) (by decide +kernel)⟩
theorem lw_p33 : lw_okq (⟨"LineRules$Orphan", "find", "()V"⟩, 10) := ⟨⟨by decide +kernel, by decide +kernel⟩, List.mem_of_getElem? (i := 233) (by decide +kernel), List.mem_of_getElem? (i := 677) (by decide +kernel), List.mem_of_getElem? (i := 678) (by decide +kernel)⟩
theorem lw_p34 : lw_okq (⟨"LineRules$Orphan", "search", "()I"⟩, 10) := ⟨⟨by decide +kernel, by decide +kernel⟩, List.mem_of_getElem? (i := 233) (by decide +kernel), List.mem_of_getElem? (i := 682) (by decide +kernel), List.mem_of_getElem? (i := 683) (by decide +kernel)⟩
theorem lw_p35 : lw_okq (⟨"LineRules$Orphan", "meet", "(JII)V"⟩, 10) := ⟨⟨by decide +kernel, by decide +kernel⟩, List.mem_of_getElem? (i := 233) (by decide +kernel), List.mem_of_getElem? (i := 687) (by decide +kernel), List.mem_of_getElem? (i := 688) (by decide +kernel)⟩
theorem lw_p36 : lw_okq (⟨"LineRules$Orphan", "spread", "(J)V"⟩, 10) := ⟨⟨by decide +kernel, by decide +kernel⟩, List.mem_of_getElem? (i := 233) (by decide +kernel), List.mem_of_getElem? (i := 691) (by decide +kernel), List.mem_of_getElem? (i := 692) (by decide +kernel)⟩
theorem lw_p37 : lw_okq (⟨"LineRules$Orphan", "write", "(II)I"⟩, 10) := ⟨⟨by decide +kernel, by decide +kernel⟩, List.mem_of_getElem? (i := 233) (by decide +kernel), List.mem_of_getElem? (i := 697) (by decide +kernel), List.mem_of_getElem? (i := 698) (by decide +kernel)⟩
theorem lw_p38 : lw_okq (⟨"LineRules$Past", "find", "()V"⟩, 10) := ⟨⟨by decide +kernel, by decide +kernel⟩, List.mem_of_getElem? (i := 270) (by decide +kernel), List.mem_of_getElem? (i := 717) (by decide +kernel), List.mem_of_getElem? (i := 718) (by decide +kernel)⟩
theorem lw_p39 : lw_okq (⟨"LineRules$Past", "comesBackTo", "(I)Z"⟩, 10) := ⟨⟨by decide +kernel, by decide +kernel⟩, List.mem_of_getElem? (i := 270) (by decide +kernel), List.mem_of_getElem? (i := 721) (by decide +kernel), List.mem_of_getElem? (i := 722) (by decide +kernel)⟩
theorem lw_p40 : lw_okq (⟨"LineRules$Past", "due", "(I)I"⟩, 10) := ⟨⟨by decide +kernel, by decide +kernel⟩, List.mem_of_getElem? (i := 270) (by decide +kernel), List.mem_of_getElem? (i := 725) (by decide +kernel), List.mem_of_getElem? (i := 726) (by decide +kernel)⟩
theorem lw_p41 : lw_okq (⟨"LineRules$Past", "leadingInto", "(JI)J"⟩, 10) := ⟨⟨by decide +kernel, by decide +kernel⟩, List.mem_of_getElem? (i := 270) (by decide +kernel), List.mem_of_getElem? (i := 730) (by decide +kernel), List.mem_of_getElem? (i := 731) (by decide +kernel)⟩
theorem lw_p42 : lw_okq (⟨"LineRules$Past", "trace", "(I)V"⟩, 10) := ⟨⟨by decide +kernel, by decide +kernel⟩, List.mem_of_getElem? (i := 270) (by decide +kernel), List.mem_of_getElem? (i := 735) (by decide +kernel), List.mem_of_getElem? (i := 736) (by decide +kernel)⟩
theorem lw_p43 : lw_okq (⟨"LineRules$Past", "leastCell", "(II)I"⟩, 10) := ⟨⟨by decide +kernel, by decide +kernel⟩, List.mem_of_getElem? (i := 270) (by decide +kernel), List.mem_of_getElem? (i := 739) (by decide +kernel), List.mem_of_getElem? (i := 740) (by decide +kernel)⟩
theorem lw_p44 : lw_okq (⟨"LineRules$Past", "walksBackTo", "(I)J"⟩, 10) := ⟨⟨by decide +kernel, by decide +kernel⟩, List.mem_of_getElem? (i := 270) (by decide +kernel), List.mem_of_getElem? (i := 761) (by decide +kernel), List.mem_of_getElem? (i := 762) (by decide +kernel)⟩
theorem lw_p45 : lw_okq (⟨"LineRules$Past", "goOn", "(I)V"⟩, 10) := ⟨⟨by decide +kernel, by decide +kernel⟩, List.mem_of_getElem? (i := 270) (by decide +kernel), List.mem_of_getElem? (i := 766) (by decide +kernel), List.mem_of_getElem? (i := 767) (by decide +kernel)⟩
theorem lw_p46 : lw_okq (⟨"LineRulesModel", "readAll", "()I"⟩, 54) := ⟨⟨by decide +kernel, by decide +kernel⟩, List.mem_of_getElem? (i := 777) (by decide +kernel), List.mem_of_getElem? (i := 955) (by decide +kernel), List.mem_of_getElem? (i := 956) (by decide +kernel)⟩
theorem lw_p47 : lw_okq (⟨"LineRulesModel", "readRow", "(I)I"⟩, 54) := ⟨⟨by decide +kernel, by decide +kernel⟩, List.mem_of_getElem? (i := 777) (by decide +kernel), List.mem_of_getElem? (i := 962) (by decide +kernel), List.mem_of_getElem? (i := 963) (by decide +kernel)⟩
def lw_privs_3 : List (MethodName × Nat) := [(⟨"LineRules$Weights", "writeWeight", "(I[J)V"⟩, 6), (⟨"LineRules$Orphan", "find", "()V"⟩, 10), (⟨"LineRules$Orphan", "search", "()I"⟩, 10), (⟨"LineRules$Orphan", "meet", "(JII)V"⟩, 10), (⟨"LineRules$Orphan", "spread", "(J)V"⟩, 10), (⟨"LineRules$Orphan", "write", "(II)I"⟩, 10), (⟨"LineRules$Past", "find", "()V"⟩, 10), (⟨"LineRules$Past", "comesBackTo", "(I)Z"⟩, 10), (⟨"LineRules$Past", "due", "(I)I"⟩, 10), (⟨"LineRules$Past", "leadingInto", "(JI)J"⟩, 10), (⟨"LineRules$Past", "trace", "(I)V"⟩, 10), (⟨"LineRules$Past", "leastCell", "(II)I"⟩, 10), (⟨"LineRules$Past", "walksBackTo", "(I)J"⟩, 10), (⟨"LineRules$Past", "goOn", "(I)V"⟩, 10), (⟨"LineRulesModel", "readAll", "()I"⟩, 54), (⟨"LineRulesModel", "readRow", "(I)I"⟩, 54)]
theorem lw_r3 : ∀ q ∈ lw_privs_3, lw_okq q := List.forall_mem_cons.mpr ⟨lw_p32, List.forall_mem_cons.mpr ⟨lw_p33, List.forall_mem_cons.mpr ⟨lw_p34, List.forall_mem_cons.mpr ⟨lw_p35, List.forall_mem_cons.mpr ⟨lw_p36, List.forall_mem_cons.mpr ⟨lw_p37, List.forall_mem_cons.mpr ⟨lw_p38, List.forall_mem_cons.mpr ⟨lw_p39, List.forall_mem_cons.mpr ⟨lw_p40, List.forall_mem_cons.mpr ⟨lw_p41, List.forall_mem_cons.mpr ⟨lw_p42, List.forall_mem_cons.mpr ⟨lw_p43, List.forall_mem_cons.mpr ⟨lw_p44, List.forall_mem_cons.mpr ⟨lw_p45, List.forall_mem_cons.mpr ⟨lw_p46, List.forall_mem_cons.mpr ⟨lw_p47, fun _ h => absurd h List.not_mem_nil⟩⟩⟩⟩⟩⟩⟩⟩⟩⟩⟩⟩⟩⟩⟩⟩
theorem lw_p48 : lw_okq (⟨"LineRulesModel", "work", "(I)I"⟩, 54) := ⟨⟨by decide +kernel, by decide +kernel⟩, List.mem_of_getElem? (i := 777) (by decide +kernel), List.mem_of_getElem? (i := 966) (by decide +kernel), List.mem_of_getElem? (i := 967) (by decide +kernel)⟩
theorem lw_p49 : lw_okq (⟨"LineRulesModel", "fresh", "(I)V"⟩, 54) := ⟨⟨by decide +kernel, by decide +kernel⟩, List.mem_of_getElem? (i := 777) (by decide +kernel), List.mem_of_getElem? (i := 970) (by decide +kernel), List.mem_of_getElem? (i := 971) (by decide +kernel)⟩
theorem lw_p50 : lw_okq (⟨"LineRulesModel", "begins", "(II)Z"⟩, 54) := ⟨⟨by decide +kernel, by decide +kernel⟩, List.mem_of_getElem? (i := 777) (by decide +kernel), List.mem_of_getElem? (i := 974) (by decide +kernel), List.mem_of_getElem? (i := 975) (by decide +kernel)⟩
theorem lw_p51 : lw_okq (⟨"LineRulesModel", "operand", "(I)V"⟩, 54) := ⟨⟨by decide +kernel, by decide +kernel⟩, List.mem_of_getElem? (i := 777) (by decide +kernel), List.mem_of_getElem? (i := 978) (by decide +kernel), List.mem_of_getElem? (i := 979) (by decide +kernel)⟩
theorem lw_p52 : lw_okq (⟨"LineRulesModel", "open", "(II)V"⟩, 54) := ⟨⟨by decide +kernel, by decide +kernel⟩, List.mem_of_getElem? (i := 777) (by decide +kernel), List.mem_of_getElem? (i := 982) (by decide +kernel), List.mem_of_getElem? (i := 983) (by decide +kernel)⟩
theorem lw_p53 : lw_okq (⟨"LineRulesModel", "goesOn", "(I)Z"⟩, 54) := ⟨⟨by decide +kernel, by decide +kernel⟩, List.mem_of_getElem? (i := 777) (by decide +kernel), List.mem_of_getElem? (i := 986) (by decide +kernel), List.mem_of_getElem? (i := 987) (by decide +kernel)⟩
theorem lw_p54 : lw_okq (⟨"LineRulesModel", "endProduct", "()V"⟩, 54) := ⟨⟨by decide +kernel, by decide +kernel⟩, List.mem_of_getElem? (i := 777) (by decide +kernel), List.mem_of_getElem? (i := 990) (by decide +kernel), List.mem_of_getElem? (i := 991) (by decide +kernel)⟩
theorem lw_p55 : lw_okq (⟨"LineRulesModel", "endSum", "()I"⟩, 54) := ⟨⟨by decide +kernel, by decide +kernel⟩, List.mem_of_getElem? (i := 777) (by decide +kernel), List.mem_of_getElem? (i := 994) (by decide +kernel), List.mem_of_getElem? (i := 995) (by decide +kernel)⟩
theorem lw_p56 : lw_okq (⟨"LineRulesModel", "endTest", "()V"⟩, 54) := ⟨⟨by decide +kernel, by decide +kernel⟩, List.mem_of_getElem? (i := 777) (by decide +kernel), List.mem_of_getElem? (i := 998) (by decide +kernel), List.mem_of_getElem? (i := 999) (by decide +kernel)⟩
theorem lw_p57 : lw_okq (⟨"LineRulesModel", "endBoth", "()V"⟩, 54) := ⟨⟨by decide +kernel, by decide +kernel⟩, List.mem_of_getElem? (i := 777) (by decide +kernel), List.mem_of_getElem? (i := 1002) (by decide +kernel), List.mem_of_getElem? (i := 1003) (by decide +kernel)⟩
theorem lw_p58 : lw_okq (⟨"LineRulesModel", "endEither", "()I"⟩, 54) := ⟨⟨by decide +kernel, by decide +kernel⟩, List.mem_of_getElem? (i := 777) (by decide +kernel), List.mem_of_getElem? (i := 1006) (by decide +kernel), List.mem_of_getElem? (i := 1007) (by decide +kernel)⟩
theorem lw_p59 : lw_okq (⟨"LineRulesModel", "endChoice", "()I"⟩, 54) := ⟨⟨by decide +kernel, by decide +kernel⟩, List.mem_of_getElem? (i := 777) (by decide +kernel), List.mem_of_getElem? (i := 1010) (by decide +kernel), List.mem_of_getElem? (i := 1011) (by decide +kernel)⟩
theorem lw_p60 : lw_okq (⟨"LineRulesModel", "turn", "()V"⟩, 54) := ⟨⟨by decide +kernel, by decide +kernel⟩, List.mem_of_getElem? (i := 777) (by decide +kernel), List.mem_of_getElem? (i := 1037) (by decide +kernel), List.mem_of_getElem? (i := 1038) (by decide +kernel)⟩
theorem lw_p61 : lw_okq (⟨"LineRulesModel", "makesAll", "()Z"⟩, 54) := ⟨⟨by decide +kernel, by decide +kernel⟩, List.mem_of_getElem? (i := 777) (by decide +kernel), List.mem_of_getElem? (i := 1049) (by decide +kernel), List.mem_of_getElem? (i := 1050) (by decide +kernel)⟩
theorem lw_p62 : lw_okq (⟨"LineRulesModel", "losesSomewhere", "()Z"⟩, 54) := ⟨⟨by decide +kernel, by decide +kernel⟩, List.mem_of_getElem? (i := 777) (by decide +kernel), List.mem_of_getElem? (i := 1053) (by decide +kernel), List.mem_of_getElem? (i := 1054) (by decide +kernel)⟩
theorem lw_p63 : lw_okq (⟨"LineRulesModel", "comesFrom", "(II)Z"⟩, 54) := ⟨⟨by decide +kernel, by decide +kernel⟩, List.mem_of_getElem? (i := 777) (by decide +kernel), List.mem_of_getElem? (i := 1057) (by decide +kernel), List.mem_of_getElem? (i := 1058) (by decide +kernel)⟩
def lw_privs_4 : List (MethodName × Nat) := [(⟨"LineRulesModel", "work", "(I)I"⟩, 54), (⟨"LineRulesModel", "fresh", "(I)V"⟩, 54), (⟨"LineRulesModel", "begins", "(II)Z"⟩, 54), (⟨"LineRulesModel", "operand", "(I)V"⟩, 54), (⟨"LineRulesModel", "open", "(II)V"⟩, 54), (⟨"LineRulesModel", "goesOn", "(I)Z"⟩, 54), (⟨"LineRulesModel", "endProduct", "()V"⟩, 54), (⟨"LineRulesModel", "endSum", "()I"⟩, 54), (⟨"LineRulesModel", "endTest", "()V"⟩, 54), (⟨"LineRulesModel", "endBoth", "()V"⟩, 54), (⟨"LineRulesModel", "endEither", "()I"⟩, 54), (⟨"LineRulesModel", "endChoice", "()I"⟩, 54), (⟨"LineRulesModel", "turn", "()V"⟩, 54), (⟨"LineRulesModel", "makesAll", "()Z"⟩, 54), (⟨"LineRulesModel", "losesSomewhere", "()Z"⟩, 54), (⟨"LineRulesModel", "comesFrom", "(II)Z"⟩, 54)]
theorem lw_r4 : ∀ q ∈ lw_privs_4, lw_okq q := List.forall_mem_cons.mpr ⟨lw_p48, List.forall_mem_cons.mpr ⟨lw_p49, List.forall_mem_cons.mpr ⟨lw_p50, List.forall_mem_cons.mpr ⟨lw_p51, List.forall_mem_cons.mpr ⟨lw_p52, List.forall_mem_cons.mpr ⟨lw_p53, List.forall_mem_cons.mpr ⟨lw_p54, List.forall_mem_cons.mpr ⟨lw_p55, List.forall_mem_cons.mpr ⟨lw_p56, List.forall_mem_cons.mpr ⟨lw_p57, List.forall_mem_cons.mpr ⟨lw_p58, List.forall_mem_cons.mpr ⟨lw_p59, List.forall_mem_cons.mpr ⟨lw_p60, List.forall_mem_cons.mpr ⟨lw_p61, List.forall_mem_cons.mpr ⟨lw_p62, List.forall_mem_cons.mpr ⟨lw_p63, fun _ h => absurd h List.not_mem_nil⟩⟩⟩⟩⟩⟩⟩⟩⟩⟩⟩⟩⟩⟩⟩⟩
theorem lw_p64 : lw_okq (⟨"LineRulesModel", "leadsOn", "(IIZZ)Z"⟩, 54) := ⟨⟨by decide +kernel, by decide +kernel⟩, List.mem_of_getElem? (i := 777) (by decide +kernel), List.mem_of_getElem? (i := 1061) (by decide +kernel), List.mem_of_getElem? (i := 1062) (by decide +kernel)⟩
theorem lw_p65 : lw_okq (⟨"LineRulesModel", "anyPair", "()Z"⟩, 54) := ⟨⟨by decide +kernel, by decide +kernel⟩, List.mem_of_getElem? (i := 777) (by decide +kernel), List.mem_of_getElem? (i := 1069) (by decide +kernel), List.mem_of_getElem? (i := 1070) (by decide +kernel)⟩
theorem lw_p66 : lw_okq (⟨"LineRulesModel", "findInverse", "()V"⟩, 54) := ⟨⟨by decide +kernel, by decide +kernel⟩, List.mem_of_getElem? (i := 777) (by decide +kernel), List.mem_of_getElem? (i := 1077) (by decide +kernel), List.mem_of_getElem? (i := 1078) (by decide +kernel)⟩
theorem lw_p67 : lw_okq (⟨"LineRulesModel", "tells", "(II)Z"⟩, 54) := ⟨⟨by decide +kernel, by decide +kernel⟩, List.mem_of_getElem? (i := 777) (by decide +kernel), List.mem_of_getElem? (i := 1081) (by decide +kernel), List.mem_of_getElem? (i := 1082) (by decide +kernel)⟩
theorem lw_p68 : lw_okq (⟨"LineRulesModel", "madeOf", "(II)I"⟩, 54) := ⟨⟨by decide +kernel, by decide +kernel⟩, List.mem_of_getElem? (i := 777) (by decide +kernel), List.mem_of_getElem? (i := 1085) (by decide +kernel), List.mem_of_getElem? (i := 1086) (by decide +kernel)⟩
theorem lw_p69 : lw_okq (⟨"LineRulesModel", "findWeights", "()V"⟩, 54) := ⟨⟨by decide +kernel, by decide +kernel⟩, List.mem_of_getElem? (i := 777) (by decide +kernel), List.mem_of_getElem? (i := 1097) (by decide +kernel), List.mem_of_getElem? (i := 1098) (by decide +kernel)⟩
theorem lw_p70 : lw_okq (⟨"LineRulesModel", "equation", "(I)V"⟩, 54) := ⟨⟨by decide +kernel, by decide +kernel⟩, List.mem_of_getElem? (i := 777) (by decide +kernel), List.mem_of_getElem? (i := 1101) (by decide +kernel), List.mem_of_getElem? (i := 1102) (by decide +kernel)⟩
theorem lw_p71 : lw_okq (⟨"LineRulesModel", "keep", "()V"⟩, 54) := ⟨⟨by decide +kernel, by decide +kernel⟩, List.mem_of_getElem? (i := 777) (by decide +kernel), List.mem_of_getElem? (i := 1105) (by decide +kernel), List.mem_of_getElem? (i := 1106) (by decide +kernel)⟩
theorem lw_p72 : lw_okq (⟨"LineRulesModel", "reduce", "(II)V"⟩, 54) := ⟨⟨by decide +kernel, by decide +kernel⟩, List.mem_of_getElem? (i := 777) (by decide +kernel), List.mem_of_getElem? (i := 1109) (by decide +kernel), List.mem_of_getElem? (i := 1110) (by decide +kernel)⟩
theorem lw_p73 : lw_okq (⟨"LineRulesModel", "clearRow", "(I)V"⟩, 54) := ⟨⟨by decide +kernel, by decide +kernel⟩, List.mem_of_getElem? (i := 777) (by decide +kernel), List.mem_of_getElem? (i := 1116) (by decide +kernel), List.mem_of_getElem? (i := 1117) (by decide +kernel)⟩
theorem lw_p74 : lw_okq (⟨"LineRulesModel", "findOrphan", "()V"⟩, 54) := ⟨⟨by decide +kernel, by decide +kernel⟩, List.mem_of_getElem? (i := 777) (by decide +kernel), List.mem_of_getElem? (i := 1128) (by decide +kernel), List.mem_of_getElem? (i := 1129) (by decide +kernel)⟩
theorem lw_p75 : lw_okq (⟨"LineRulesModel", "behind", "(JI)J"⟩, 54) := ⟨⟨by decide +kernel, by decide +kernel⟩, List.mem_of_getElem? (i := 777) (by decide +kernel), List.mem_of_getElem? (i := 1134) (by decide +kernel), List.mem_of_getElem? (i := 1135) (by decide +kernel)⟩
theorem lw_p76 : lw_okq (⟨"LineRulesModel", "spell", "(II)V"⟩, 54) := ⟨⟨by decide +kernel, by decide +kernel⟩, List.mem_of_getElem? (i := 777) (by decide +kernel), List.mem_of_getElem? (i := 1138) (by decide +kernel), List.mem_of_getElem? (i := 1139) (by decide +kernel)⟩
theorem lw_p77 : lw_okq (⟨"LineRulesModel", "findBefore", "()V"⟩, 54) := ⟨⟨by decide +kernel, by decide +kernel⟩, List.mem_of_getElem? (i := 777) (by decide +kernel), List.mem_of_getElem? (i := 1150) (by decide +kernel), List.mem_of_getElem? (i := 1151) (by decide +kernel)⟩
theorem lw_p78 : lw_okq (⟨"LineRulesModel", "lookBack", "(I)V"⟩, 54) := ⟨⟨by decide +kernel, by decide +kernel⟩, List.mem_of_getElem? (i := 777) (by decide +kernel), List.mem_of_getElem? (i := 1154) (by decide +kernel), List.mem_of_getElem? (i := 1155) (by decide +kernel)⟩
theorem lw_p79 : lw_okq (⟨"LineRulesModel", "wanted", "(I)I"⟩, 54) := ⟨⟨by decide +kernel, by decide +kernel⟩, List.mem_of_getElem? (i := 777) (by decide +kernel), List.mem_of_getElem? (i := 1158) (by decide +kernel), List.mem_of_getElem? (i := 1159) (by decide +kernel)⟩
def lw_privs_5 : List (MethodName × Nat) := [(⟨"LineRulesModel", "leadsOn", "(IIZZ)Z"⟩, 54), (⟨"LineRulesModel", "anyPair", "()Z"⟩, 54), (⟨"LineRulesModel", "findInverse", "()V"⟩, 54), (⟨"LineRulesModel", "tells", "(II)Z"⟩, 54), (⟨"LineRulesModel", "madeOf", "(II)I"⟩, 54), (⟨"LineRulesModel", "findWeights", "()V"⟩, 54), (⟨"LineRulesModel", "equation", "(I)V"⟩, 54), (⟨"LineRulesModel", "keep", "()V"⟩, 54), (⟨"LineRulesModel", "reduce", "(II)V"⟩, 54), (⟨"LineRulesModel", "clearRow", "(I)V"⟩, 54), (⟨"LineRulesModel", "findOrphan", "()V"⟩, 54), (⟨"LineRulesModel", "behind", "(JI)J"⟩, 54), (⟨"LineRulesModel", "spell", "(II)V"⟩, 54), (⟨"LineRulesModel", "findBefore", "()V"⟩, 54), (⟨"LineRulesModel", "lookBack", "(I)V"⟩, 54), (⟨"LineRulesModel", "wanted", "(I)I"⟩, 54)]
theorem lw_r5 : ∀ q ∈ lw_privs_5, lw_okq q := List.forall_mem_cons.mpr ⟨lw_p64, List.forall_mem_cons.mpr ⟨lw_p65, List.forall_mem_cons.mpr ⟨lw_p66, List.forall_mem_cons.mpr ⟨lw_p67, List.forall_mem_cons.mpr ⟨lw_p68, List.forall_mem_cons.mpr ⟨lw_p69, List.forall_mem_cons.mpr ⟨lw_p70, List.forall_mem_cons.mpr ⟨lw_p71, List.forall_mem_cons.mpr ⟨lw_p72, List.forall_mem_cons.mpr ⟨lw_p73, List.forall_mem_cons.mpr ⟨lw_p74, List.forall_mem_cons.mpr ⟨lw_p75, List.forall_mem_cons.mpr ⟨lw_p76, List.forall_mem_cons.mpr ⟨lw_p77, List.forall_mem_cons.mpr ⟨lw_p78, List.forall_mem_cons.mpr ⟨lw_p79, fun _ h => absurd h List.not_mem_nil⟩⟩⟩⟩⟩⟩⟩⟩⟩⟩⟩⟩⟩⟩⟩⟩
theorem lw_p80 : lw_okq (⟨"LineRulesModel", "spellRing", "(I)V"⟩, 54) := ⟨⟨by decide +kernel, by decide +kernel⟩, List.mem_of_getElem? (i := 777) (by decide +kernel), List.mem_of_getElem? (i := 1162) (by decide +kernel), List.mem_of_getElem? (i := 1163) (by decide +kernel)⟩
theorem lw_p81 : lw_okq (⟨"LineRulesModel", "waysFrom", "(I)J"⟩, 54) := ⟨⟨by decide +kernel, by decide +kernel⟩, List.mem_of_getElem? (i := 777) (by decide +kernel), List.mem_of_getElem? (i := 1166) (by decide +kernel), List.mem_of_getElem? (i := 1167) (by decide +kernel)⟩
def lw_privs_6 : List (MethodName × Nat) := [(⟨"LineRulesModel", "spellRing", "(I)V"⟩, 54), (⟨"LineRulesModel", "waysFrom", "(I)J"⟩, 54)]
theorem lw_r6 : ∀ q ∈ lw_privs_6, lw_okq q := List.forall_mem_cons.mpr ⟨lw_p80, List.forall_mem_cons.mpr ⟨lw_p81, fun _ h => absurd h List.not_mem_nil⟩⟩
def lw_privs : List (MethodName × Nat) := lw_privs_1 ++ (lw_privs_2 ++ (lw_privs_3 ++ (lw_privs_4 ++ (lw_privs_5 ++ (lw_privs_6)))))
def lw_tbl : List Cond := k2_sels lw_privs ++ tables_1
theorem lw_privs_ok : ∀ q ∈ lw_privs, lw_okq q := by
  show ∀ q ∈ lw_privs_1 ++ (lw_privs_2 ++ (lw_privs_3 ++ (lw_privs_4 ++ (lw_privs_5 ++ (lw_privs_6))))), lw_okq q
  exact List.forall_mem_append.mpr ⟨lw_r1, List.forall_mem_append.mpr ⟨lw_r2, List.forall_mem_append.mpr ⟨lw_r3, List.forall_mem_append.mpr ⟨lw_r4, List.forall_mem_append.mpr ⟨lw_r5, lw_r6⟩⟩⟩⟩⟩
end
section
/-! Java's own operations -/
def jR (x y : Int32) : Int32 := x - x / y * y
def jRL (x y : Int64) : Int64 := x - x / y * y
def jSI (x y : Int32) : Int32 := x <<< (y &&& 31)
def jAI (x y : Int32) : Int32 := x >>> (y &&& 31)
def jU (x : Int64) (y : Int32) : Int64 := (x.toUInt64 >>> (y.toInt64.toUInt64 &&& Int64.toUInt64 63)).toInt64
def jS (x : Int64) (y : Int32) : Int64 := x <<< (y.toInt64 &&& 63)
def jA (x : Int64) (y : Int32) : Int64 := x >>> (y.toInt64 &&& 63)
/-! The judgement that all walks are made with: a world of fixed shape (a layout), its contents a state of numbers. -/
-- a state: ints of an object's fields or an array's elements by (place, index); longs; the places that changing references name
abbrev gs_S : Type := (Nat → Nat → Int32) × (Nat → Nat → Int64) × (Nat → Nat → Nat)
-- a layout: a place is an array (kind, length, first place of its rows) or an object (class number, kinds of its fields)
abbrev gs_L : Type := Nat → (Nat × Nat × Nat) ⊕ (Nat × List Nat)
-- where: class ids and slots; ids of array classes by kind; addresses of places
abbrev gs_V : Type := va_G × (Nat → ClassId) × (Nat → Nat)
-- a method: name, code, locals, return
abbrev gs_M : Type := MethodName × ByteArray × Nat × Option FieldType
def gs_f (v : gs_V) (σ : gs_S) (k j : Nat) (fd : Nat) : Value := match fd with
  | 0 => .int (σ.1 k j)
  | 1 => .long (σ.2.1 k j)
  | 2 => .ref (v.2.2 (σ.2.2 k j))
  | q + 3 => .ref (v.2.2 q)
def gs_fs (v : gs_V) (σ : gs_S) (k : Nat) : Nat → List Nat → List Value
  | _, [] => []
  | j, fd :: r => gs_f v σ k j fd :: gs_fs v σ k (j + 1) r
def gs_a (v : gs_V) (σ : gs_S) (k t n b : Nat) : ClassId × vp_A := match t with
  | 1 => (v.2.1 1, n, .inr (.inl (σ.2.1 k)))
  | 4 => (v.2.1 4, n, .inr (.inr (.inr (.inr (fun i => some (v.2.2 (b + i)))))))
  | t => (v.2.1 t, n, .inl (σ.1 k))
def gs_e (v : gs_V) (ly : gs_L) (σ : gs_S) (k : Nat) : va_E := match ly k with
  | .inl x => .inl (gs_a v σ k x.1 x.2.1 x.2.2)
  | .inr x => .inr (x.1, gs_fs v σ k 0 x.2)
def gs_w (v : gs_V) (ly : gs_L) (N : Nat) (σ : gs_S) : va_W := (List.range N).map (fun k => (v.2.2 k, gs_e v ly σ k))
def gs_t (v : gs_V) : List (ClassId × FieldType) := [(v.2.1 0, .int), (v.2.1 1, .long), (v.2.1 2, .boolean), (v.2.1 3, .char), (v.2.1 4, .array .long)]
def gs_ty (t : Nat) : FieldType := match t with
  | 0 => .int
  | 1 => .long
  | 2 => .boolean
  | 3 => .char
  | _ => .array .long
-- writing
def gs_pI (σ : gs_S) (k j : Nat) (x : Int32) : gs_S := (va_up σ.1 k (upd (σ.1 k) j x), σ.2)
def gs_pL (σ : gs_S) (k j : Nat) (x : Int64) : gs_S := (σ.1, va_up σ.2.1 k (vp_updL (σ.2.1 k) j x), σ.2.2)
def gs_pR (σ : gs_S) (k j : Nat) (x : Nat) : gs_S := (σ.1, σ.2.1, va_up σ.2.2 k (va_up (σ.2.2 k) j x))
def gs_pA (σ : gs_S) (k : Nat) (f : Nat → Int32) : gs_S := (va_up σ.1 k f, σ.2)
def gs_pB (σ : gs_S) (k : Nat) (f : Nat → Int64) : gs_S := (σ.1, va_up σ.2.1 k f, σ.2.2)
theorem gs_w_get {v : gs_V} {ly : gs_L} {N : Nat} {σ : gs_S} {k : Nat} (h : k < N) : (gs_w v ly N σ)[k]? = some (v.2.2 k, gs_e v ly σ k) := by
  simp [gs_w, h]
theorem gs_w_len {v : gs_V} {ly : gs_L} {N : Nat} {σ : gs_S} : (gs_w v ly N σ).length = N := by simp [gs_w]
theorem gs_w_set {v : gs_V} {ly : gs_L} {N : Nat} {σ σ' : gs_S} {k : Nat} {e : va_E} (he : gs_e v ly σ' k = e) (ho : ∀ q, q ≠ k → gs_e v ly σ' q = gs_e v ly σ q) : (gs_w v ly N σ).set k (v.2.2 k, e) = gs_w v ly N σ' := by
  apply List.ext_getElem?
  intro i
  by_cases hi : i < N
  · rw [gs_w_get (σ := σ') hi]
    by_cases hk : i = k
    · subst hk
      rw [List.getElem?_set_self (by rw [gs_w_len]; exact hi), he]
    · rw [List.getElem?_set_ne (Ne.symm hk), gs_w_get hi, ho i hk]
  · rw [List.getElem?_eq_none (by rw [List.length_set, gs_w_len]; omega), List.getElem?_eq_none (by rw [gs_w_len]; omega)]
theorem gs_D {v : gs_V} {ly : gs_L} {N : Nat} {σ σ' : gs_S} {A : Nat → Prop} (h : va_D A (gs_w v ly N σ)) : va_D A (gs_w v ly N σ') := by
  have key : ∀ (i : Nat) (q : Nat × va_E), (gs_w v ly N σ')[i]? = some q → ∃ q0, (gs_w v ly N σ)[i]? = some q0 ∧ q0.1 = q.1 := by
    intro i q hq
    have hi : i < N := by
      have := (List.getElem?_eq_some_iff.mp hq).1
      rwa [gs_w_len] at this
    rw [gs_w_get hi] at hq
    cases hq
    exact ⟨_, gs_w_get hi, rfl⟩
  refine ⟨fun i j x y hi hj hxy => ?_, fun k q hk => ?_⟩
  · obtain ⟨x0, a1, a2⟩ := key i x hi
    obtain ⟨y0, b1, b2⟩ := key j y hj
    exact h.1 i j x0 y0 a1 b1 (a2.trans (hxy.trans b2.symm))
  · obtain ⟨q0, a1, a2⟩ := key k q hk
    rw [← a2]
    exact h.2 k q0 a1
theorem gs_A {v : gs_V} {ly : gs_L} {N : Nat} {σ σ' : gs_S} {sz : Nat} : va_A (gs_w v ly N σ) sz = va_A (gs_w v ly N σ') sz := by
  have key : ∀ (σ σ' : gs_S) (q : Nat), va_A (gs_w v ly N σ) sz q → va_A (gs_w v ly N σ') sz q := by
    intro σ σ' q h
    rcases h with ⟨k, e, h⟩ | h
    · have hi : k < N := by
        have := (List.getElem?_eq_some_iff.mp h).1
        rwa [gs_w_len] at this
      rw [gs_w_get hi] at h
      cases h
      exact Or.inl ⟨k, _, gs_w_get hi⟩
    · exact Or.inr h
  funext q
  exact propext ⟨key σ σ' q, key σ' σ q⟩
theorem gs_up1 {α : Type} {f : Nat → α} {k : Nat} {x : α} : va_up f k x k = x := va_up_self f k x
theorem gs_upn {α : Type} {f : Nat → α} {k q : Nat} {x : α} (h : q ≠ k) : va_up f k x q = f q := va_up_ne f x h
theorem gs_fs_congr {v : gs_V} {σ σ' : gs_S} {k : Nat} (h1 : σ'.1 k = σ.1 k) (h2 : σ'.2.1 k = σ.2.1 k) (h3 : σ'.2.2 k = σ.2.2 k) : ∀ (r : List Nat) (j : Nat), gs_fs v σ' k j r = gs_fs v σ k j r
  | [], _ => rfl
  | fd :: r, j => by
    rw [gs_fs, gs_fs, gs_fs_congr h1 h2 h3 r (j + 1)]
    congr 1
    unfold gs_f
    split
    · rw [h1]
    · rw [h2]
    · rw [h3]
    · rfl
theorem gs_e_congr {v : gs_V} {ly : gs_L} {σ σ' : gs_S} {k : Nat} (h1 : σ'.1 k = σ.1 k) (h2 : σ'.2.1 k = σ.2.1 k) (h3 : σ'.2.2 k = σ.2.2 k) : gs_e v ly σ' k = gs_e v ly σ k := by
  unfold gs_e
  split
  · unfold gs_a
    split
    · rw [h2]
    · rfl
    · rw [h1]
  · rw [gs_fs_congr h1 h2 h3]
theorem gs_fs_get {v : gs_V} {σ : gs_S} {k : Nat} : ∀ (r : List Nat) (j i : Nat) (fd : Nat), r[i]? = some fd → (gs_fs v σ k j r)[i]? = some (gs_f v σ k (j + i) fd)
  | [], _, _, _, h => by simp at h
  | fd :: r, j, 0, fd', h => by simp at h; subst h; simp [gs_fs]
  | fd :: r, j, i + 1, fd', h => by
    simp only [List.getElem?_cons_succ] at h
    rw [gs_fs, List.getElem?_cons_succ, gs_fs_get r (j + 1) i fd' h]
    congr 2
    omega
theorem gs_fs_len {v : gs_V} {σ : gs_S} {k : Nat} : ∀ (r : List Nat) (j : Nat), (gs_fs v σ k j r).length = r.length
  | [], _ => rfl
  | fd :: r, j => by rw [gs_fs, List.length_cons, List.length_cons, gs_fs_len r (j + 1)]
theorem gs_fs_set {v : gs_V} {σ σ' : gs_S} {k : Nat} {r : List Nat} {i fd : Nat} {x : Value} (h : r[i]? = some fd) (hx : gs_f v σ' k i fd = x) (ho : ∀ i' fd', i' ≠ i → r[i']? = some fd' → gs_f v σ' k i' fd' = gs_f v σ k i' fd') : (gs_fs v σ k 0 r).set i x = gs_fs v σ' k 0 r := by
  apply List.ext_getElem?
  intro i'
  cases hr : r[i']? with
  | none =>
    have hl : r.length ≤ i' := List.getElem?_eq_none_iff.mp hr
    rw [List.getElem?_eq_none (by rw [List.length_set, gs_fs_len]; exact hl), List.getElem?_eq_none (by rw [gs_fs_len]; exact hl)]
  | some fd' =>
    rw [gs_fs_get (σ := σ') r 0 i' fd' hr]
    by_cases e : i' = i
    · subst e
      rw [h] at hr
      cases hr
      rw [List.getElem?_set_self (by rw [gs_fs_len]; exact (List.getElem?_eq_some_iff.mp h).1), Nat.zero_add, hx]
    · rw [List.getElem?_set_ne (Ne.symm e), gs_fs_get r 0 i' fd' hr, Nat.zero_add, ho i' fd' e hr]
theorem gs_e_arr {v : gs_V} {ly : gs_L} {σ : gs_S} {k : Nat} {x : Nat × Nat × Nat} (h : ly k = .inl x) : gs_e v ly σ k = .inl (gs_a v σ k x.1 x.2.1 x.2.2) := by
  unfold gs_e
  rw [h]
theorem gs_e_obj {v : gs_V} {ly : gs_L} {σ : gs_S} {k : Nat} {x : Nat × List Nat} (h : ly k = .inr x) : gs_e v ly σ k = .inr (x.1, gs_fs v σ k 0 x.2) := by
  unfold gs_e
  rw [h]
theorem gs_ai {v : gs_V} {ly : gs_L} {N : Nat} {σ : gs_S} {k n b : Nat} (hk : k < N) (h : ly k = .inl (0, n, b)) : (gs_w v ly N σ)[k]? = some (v.2.2 k, .inl (v.2.1 0, n, .inl (σ.1 k))) := by
  rw [gs_w_get hk, gs_e_arr h]; rfl
theorem gs_al {v : gs_V} {ly : gs_L} {N : Nat} {σ : gs_S} {k n b : Nat} (hk : k < N) (h : ly k = .inl (1, n, b)) : (gs_w v ly N σ)[k]? = some (v.2.2 k, .inl (v.2.1 1, n, .inr (.inl (σ.2.1 k)))) := by
  rw [gs_w_get hk, gs_e_arr h]; rfl
theorem gs_az {v : gs_V} {ly : gs_L} {N : Nat} {σ : gs_S} {k n b : Nat} (hk : k < N) (h : ly k = .inl (2, n, b)) : (gs_w v ly N σ)[k]? = some (v.2.2 k, .inl (v.2.1 2, n, .inl (σ.1 k))) := by
  rw [gs_w_get hk, gs_e_arr h]; rfl
theorem gs_ac {v : gs_V} {ly : gs_L} {N : Nat} {σ : gs_S} {k n b : Nat} (hk : k < N) (h : ly k = .inl (3, n, b)) : (gs_w v ly N σ)[k]? = some (v.2.2 k, .inl (v.2.1 3, n, .inl (σ.1 k))) := by
  rw [gs_w_get hk, gs_e_arr h]; rfl
theorem gs_aq {v : gs_V} {ly : gs_L} {N : Nat} {σ : gs_S} {k n b : Nat} (hk : k < N) (h : ly k = .inl (4, n, b)) : (gs_w v ly N σ)[k]? = some (v.2.2 k, .inl (v.2.1 4, n, .inr (.inr (.inr (.inr (fun i => some (v.2.2 (b + i)))))))) := by
  rw [gs_w_get hk, gs_e_arr h]; rfl
theorem gs_ob {v : gs_V} {ly : gs_L} {N : Nat} {σ : gs_S} {k ci : Nat} {fds : List Nat} (hk : k < N) (h : ly k = .inr (ci, fds)) : (gs_w v ly N σ)[k]? = some (v.2.2 k, .inr (ci, gs_fs v σ k 0 fds)) := by
  rw [gs_w_get hk, gs_e_obj h]
-- what writing does to the world
theorem gs_set_A {v : gs_V} {ly : gs_L} {N : Nat} {σ : gs_S} {k t n b : Nat} (h : ly k = .inl (t, n, b)) (h1 : t ≠ 1) (h4 : t ≠ 4) (f : Nat → Int32) : (gs_w v ly N σ).set k (v.2.2 k, .inl (v.2.1 t, n, .inl f)) = gs_w v ly N (gs_pA σ k f) := by
  refine gs_w_set ?_ (fun q hq => ?_)
  · rw [gs_e_arr h]
    show Sum.inl (gs_a v (gs_pA σ k f) k t n b) = _
    unfold gs_a
    split
    · exact absurd rfl h1
    · exact absurd rfl h4
    · show Sum.inl (_, n, Sum.inl (va_up σ.1 k f k)) = _
      rw [gs_up1]
  · exact gs_e_congr (gs_upn hq) rfl rfl
theorem gs_set_B {v : gs_V} {ly : gs_L} {N : Nat} {σ : gs_S} {k n b : Nat} (h : ly k = .inl (1, n, b)) (f : Nat → Int64) : (gs_w v ly N σ).set k (v.2.2 k, .inl (v.2.1 1, n, .inr (.inl f))) = gs_w v ly N (gs_pB σ k f) := by
  refine gs_w_set ?_ (fun q hq => ?_)
  · rw [gs_e_arr h]
    show Sum.inl (_, n, Sum.inr (Sum.inl (va_up σ.2.1 k f k))) = _
    rw [gs_up1]
  · exact gs_e_congr rfl (gs_upn hq) rfl
theorem gs_set_I {v : gs_V} {ly : gs_L} {N : Nat} {σ : gs_S} {k ci j : Nat} {fds : List Nat} (h : ly k = .inr (ci, fds)) (hj : fds[j]? = some 0) (x : Int32) : (gs_w v ly N σ).set k (v.2.2 k, .inr (ci, (gs_fs v σ k 0 fds).set j (.int x))) = gs_w v ly N (gs_pI σ k j x) := by
  refine gs_w_set ?_ (fun q hq => ?_)
  · rw [gs_e_obj h]
    congr 2
    refine (gs_fs_set hj ?_ (fun i fd hi _ => ?_)).symm
    · show Value.int (va_up σ.1 k (upd (σ.1 k) j x) k j) = _
      rw [gs_up1, pk_us]
    · unfold gs_f
      split
      · show Value.int (va_up σ.1 k (upd (σ.1 k) j x) k i) = _
        rw [gs_up1, pk_un hi]
      · rfl
      · rfl
      · rfl
  · exact gs_e_congr (gs_upn hq) rfl rfl
theorem gs_set_J {v : gs_V} {ly : gs_L} {N : Nat} {σ : gs_S} {k ci j : Nat} {fds : List Nat} (h : ly k = .inr (ci, fds)) (hj : fds[j]? = some 1) (x : Int64) : (gs_w v ly N σ).set k (v.2.2 k, .inr (ci, (gs_fs v σ k 0 fds).set j (.long x))) = gs_w v ly N (gs_pL σ k j x) := by
  refine gs_w_set ?_ (fun q hq => ?_)
  · rw [gs_e_obj h]
    congr 2
    refine (gs_fs_set hj ?_ (fun i fd hi _ => ?_)).symm
    · show Value.long (va_up σ.2.1 k (vp_updL (σ.2.1 k) j x) k j) = _
      rw [gs_up1, pk_uLs]
    · unfold gs_f
      split
      · rfl
      · show Value.long (va_up σ.2.1 k (vp_updL (σ.2.1 k) j x) k i) = _
        rw [gs_up1, pk_uLn hi]
      · rfl
      · rfl
  · exact gs_e_congr rfl (gs_upn hq) rfl
theorem gs_set_R {v : gs_V} {ly : gs_L} {N : Nat} {σ : gs_S} {k ci j : Nat} {fds : List Nat} (h : ly k = .inr (ci, fds)) (hj : fds[j]? = some 2) (x : Nat) : (gs_w v ly N σ).set k (v.2.2 k, .inr (ci, (gs_fs v σ k 0 fds).set j (.ref (v.2.2 x)))) = gs_w v ly N (gs_pR σ k j x) := by
  refine gs_w_set ?_ (fun q hq => ?_)
  · rw [gs_e_obj h]
    congr 2
    refine (gs_fs_set hj ?_ (fun i fd hi _ => ?_)).symm
    · show Value.ref (v.2.2 (va_up σ.2.2 k (va_up (σ.2.2 k) j x) k j)) = _
      rw [gs_up1, gs_up1]
    · unfold gs_f
      split
      · rfl
      · rfl
      · show Value.ref (v.2.2 (va_up σ.2.2 k (va_up (σ.2.2 k) j x) k i)) = _
        rw [gs_up1, gs_upn hi]
      · rfl
  · exact gs_e_congr rfl rfl (gs_upn hq)
end
section
/-! names, words and layouts, written by program out of the claim (wip/whole/mkall.py) -/
def TX0 : u_T := fun k => match k with
  | 0 => ("LineRules", "text", "LLineRules$Text;", true)
  | 1 => ("LineRules", "current", "LLineRules$Rule;", true)
  | 2 => ("LineRules", "circle", "LLineRules$Ring;", true)
  | 3 => ("LineRules", "pairs", "LLineRules$Pairs;", true)
  | 4 => ("LineRules", "reverse", "LLineRules$Inverse;", true)
  | 5 => ("LineRules", "weights", "LLineRules$Weights;", true)
  | 6 => ("LineRules", "missing", "LLineRules$Orphan;", true)
  | _ => ("LineRules", "past", "LLineRules$Past;", true)
def tyX0 : Nat → FieldType := fun k => match k with
  | 0 => (.object "LineRules$Text")
  | 1 => (.object "LineRules$Rule")
  | 2 => (.object "LineRules$Ring")
  | 3 => (.object "LineRules$Pairs")
  | 4 => (.object "LineRules$Inverse")
  | 5 => (.object "LineRules$Weights")
  | 6 => (.object "LineRules$Orphan")
  | _ => (.object "LineRules$Past")
theorem nmX0 : ∀ a, a < 8 → ∀ b, b < 8 → a ≠ b → (TX0 a).2.1 ≠ (TX0 b).2.1 := by decide +kernel
theorem tyX0_ok : ∀ k, k < 8 → parseFieldDescriptor (TX0 k).2.2.1 = some (tyX0 k) := by decide +kernel
def TX1 : u_T := fun k => match k with
  | 0 => ("LineRules$Text", "characters", "[C", true)
  | 1 => ("LineRules$Text", "letters", "[I", true)
  | 2 => ("LineRules$Text", "length", "I", false)
  | 3 => ("LineRules$Text", "states", "I", false)
  | 4 => ("LineRules$Text", "width", "I", false)
  | 5 => ("LineRules$Text", "kind", "C", false)
  | 6 => ("LineRules$Text", "place", "I", false)
  | 7 => ("LineRules$Text", "open", "I", false)
  | _ => ("LineRules$Text", "faulty", "Z", false)
def tyX1 : Nat → FieldType := fun k => match k with
  | 0 => (.array .char)
  | 1 => (.array .int)
  | 2 => .int
  | 3 => .int
  | 4 => .int
  | 5 => .char
  | 6 => .int
  | 7 => .int
  | _ => .boolean
theorem nmX1 : ∀ a, a < 9 → ∀ b, b < 9 → a ≠ b → (TX1 a).2.1 ≠ (TX1 b).2.1 := by decide +kernel
theorem tyX1_ok : ∀ k, k < 9 → parseFieldDescriptor (TX1 k).2.2.1 = some (tyX1 k) := by decide +kernel
def TX2 : u_T := fun k => match k with
  | 0 => ("LineRules$Rule", "table", "[I", true)
  | 1 => ("LineRules$Rule", "followers", "[J", true)
  | 2 => ("LineRules$Rule", "starts", "[I", true)
  | 3 => ("LineRules$Rule", "ends", "[I", true)
  | 4 => ("LineRules$Rule", "sorted", "[I", true)
  | 5 => ("LineRules$Rule", "present", "Z", false)
  | 6 => ("LineRules$Rule", "states", "I", false)
  | 7 => ("LineRules$Rule", "width", "I", false)
  | 8 => ("LineRules$Rule", "windows", "I", false)
  | _ => ("LineRules$Rule", "nodes", "I", false)
def tyX2 : Nat → FieldType := fun k => match k with
  | 0 => (.array .int)
  | 1 => (.array .long)
  | 2 => (.array .int)
  | 3 => (.array .int)
  | 4 => (.array .int)
  | 5 => .boolean
  | 6 => .int
  | 7 => .int
  | 8 => .int
  | _ => .int
theorem nmX2 : ∀ a, a < 10 → ∀ b, b < 10 → a ≠ b → (TX2 a).2.1 ≠ (TX2 b).2.1 := by decide +kernel
theorem tyX2_ok : ∀ k, k < 10 → parseFieldDescriptor (TX2 k).2.2.1 = some (tyX2 k) := by decide +kernel
def TX3 : u_T := fun k => match k with
  | 0 => ("LineRules$Ring", "row", "[I", true)
  | 1 => ("LineRules$Ring", "count", "I", false)
  | 2 => ("LineRules$Ring", "rule", "LLineRules$Rule;", true)
  | 3 => ("LineRules$Ring", "made", "[I", true)
  | _ => ("LineRules$Ring", "old", "[I", true)
def tyX3 : Nat → FieldType := fun k => match k with
  | 0 => (.array .int)
  | 1 => .int
  | 2 => (.object "LineRules$Rule")
  | 3 => (.array .int)
  | _ => (.array .int)
theorem nmX3 : ∀ a, a < 5 → ∀ b, b < 5 → a ≠ b → (TX3 a).2.1 ≠ (TX3 b).2.1 := by decide +kernel
theorem tyX3_ok : ∀ k, k < 5 → parseFieldDescriptor (TX3 k).2.2.1 = some (tyX3 k) := by decide +kernel
def TX4 : u_T := fun k => match k with
  | 0 => ("LineRules$Pairs", "rule", "LLineRules$Rule;", true)
  | 1 => ("LineRules$Pairs", "met", "[J", true)
  | 2 => ("LineRules$Pairs", "done", "[J", true)
  | 3 => ("LineRules$Pairs", "missKnown", "Z", false)
  | 4 => ("LineRules$Pairs", "surjective", "Z", false)
  | 5 => ("LineRules$Pairs", "lossKnown", "Z", false)
  | _ => ("LineRules$Pairs", "injective", "Z", false)
def tyX4 : Nat → FieldType := fun k => match k with
  | 0 => (.object "LineRules$Rule")
  | 1 => (.array .long)
  | 2 => (.array .long)
  | 3 => .boolean
  | 4 => .boolean
  | 5 => .boolean
  | _ => .boolean
theorem nmX4 : ∀ a, a < 7 → ∀ b, b < 7 → a ≠ b → (TX4 a).2.1 ≠ (TX4 b).2.1 := by decide +kernel
theorem tyX4_ok : ∀ k, k < 7 → parseFieldDescriptor (TX4 k).2.2.1 = some (tyX4 k) := by decide +kernel
def TX5 : u_T := fun k => match k with
  | 0 => ("LineRules$Inverse", "rule", "LLineRules$Rule;", true)
  | 1 => ("LineRules$Inverse", "pairs", "LLineRules$Pairs;", true)
  | 2 => ("LineRules$Inverse", "origin", "[I", true)
  | 3 => ("LineRules$Inverse", "known", "Z", false)
  | 4 => ("LineRules$Inverse", "foundWidth", "I", false)
  | _ => ("LineRules$Inverse", "foundPlace", "I", false)
def tyX5 : Nat → FieldType := fun k => match k with
  | 0 => (.object "LineRules$Rule")
  | 1 => (.object "LineRules$Pairs")
  | 2 => (.array .int)
  | 3 => .boolean
  | 4 => .int
  | _ => .int
theorem nmX5 : ∀ a, a < 6 → ∀ b, b < 6 → a ≠ b → (TX5 a).2.1 ≠ (TX5 b).2.1 := by decide +kernel
theorem tyX5_ok : ∀ k, k < 6 → parseFieldDescriptor (TX5 k).2.2.1 = some (tyX5 k) := by decide +kernel
def TX6 : u_T := fun k => match k with
  | 0 => ("LineRules$Weights", "rule", "LLineRules$Rule;", true)
  | 1 => ("LineRules$Weights", "ties", "[[J", true)
  | 2 => ("LineRules$Weights", "basis", "[[J", true)
  | 3 => ("LineRules$Weights", "equation", "[J", true)
  | 4 => ("LineRules$Weights", "known", "Z", false)
  | _ => ("LineRules$Weights", "found", "I", false)
def tyX6 : Nat → FieldType := fun k => match k with
  | 0 => (.object "LineRules$Rule")
  | 1 => (.array (.array .long))
  | 2 => (.array (.array .long))
  | 3 => (.array .long)
  | 4 => .boolean
  | _ => .int
theorem nmX6 : ∀ a, a < 6 → ∀ b, b < 6 → a ≠ b → (TX6 a).2.1 ≠ (TX6 b).2.1 := by decide +kernel
theorem tyX6_ok : ∀ k, k < 6 → parseFieldDescriptor (TX6 k).2.2.1 = some (tyX6 k) := by decide +kernel
def TX7 : u_T := fun k => match k with
  | 0 => ("LineRules$Orphan", "rule", "LLineRules$Rule;", true)
  | 1 => ("LineRules$Orphan", "pairs", "LLineRules$Pairs;", true)
  | 2 => ("LineRules$Orphan", "sets", "[J", true)
  | 3 => ("LineRules$Orphan", "source", "[I", true)
  | 4 => ("LineRules$Orphan", "reason", "[I", true)
  | 5 => ("LineRules$Orphan", "ends", "[J", true)
  | 6 => ("LineRules$Orphan", "row", "[I", true)
  | 7 => ("LineRules$Orphan", "met", "I", false)
  | 8 => ("LineRules$Orphan", "known", "Z", false)
  | _ => ("LineRules$Orphan", "found", "I", false)
def tyX7 : Nat → FieldType := fun k => match k with
  | 0 => (.object "LineRules$Rule")
  | 1 => (.object "LineRules$Pairs")
  | 2 => (.array .long)
  | 3 => (.array .int)
  | 4 => (.array .int)
  | 5 => (.array .long)
  | 6 => (.array .int)
  | 7 => .int
  | 8 => .boolean
  | _ => .int
theorem nmX7 : ∀ a, a < 10 → ∀ b, b < 10 → a ≠ b → (TX7 a).2.1 ≠ (TX7 b).2.1 := by decide +kernel
theorem tyX7_ok : ∀ k, k < 10 → parseFieldDescriptor (TX7 k).2.2.1 = some (tyX7 k) := by decide +kernel
def TX8 : u_T := fun k => match k with
  | 0 => ("LineRules$Past", "rule", "LLineRules$Rule;", true)
  | 1 => ("LineRules$Past", "ring", "LLineRules$Ring;", true)
  | 2 => ("LineRules$Past", "open", "[J", true)
  | 3 => ("LineRules$Past", "least", "[I", true)
  | 4 => ("LineRules$Past", "counts", "[J", false)
  | 5 => ("LineRules$Past", "later", "[J", false)
  | 6 => ("LineRules$Past", "known", "Z", false)
  | 7 => ("LineRules$Past", "found", "Z", false)
  | 8 => ("LineRules$Past", "counted", "Z", false)
  | _ => ("LineRules$Past", "total", "J", false)
def tyX8 : Nat → FieldType := fun k => match k with
  | 0 => (.object "LineRules$Rule")
  | 1 => (.object "LineRules$Ring")
  | 2 => (.array .long)
  | 3 => (.array .int)
  | 4 => (.array .long)
  | 5 => (.array .long)
  | 6 => .boolean
  | 7 => .boolean
  | 8 => .boolean
  | _ => .long
theorem nmX8 : ∀ a, a < 10 → ∀ b, b < 10 → a ≠ b → (TX8 a).2.1 ≠ (TX8 b).2.1 := by decide +kernel
theorem tyX8_ok : ∀ k, k < 10 → parseFieldDescriptor (TX8 k).2.2.1 = some (tyX8 k) := by decide +kernel
def TX9 : u_T := fun k => match k with
  | 0 => ("LineRulesModel", "size", "I", false)
  | 1 => ("LineRulesModel", "text", "[I", true)
  | 2 => ("LineRulesModel", "k", "I", false)
  | 3 => ("LineRulesModel", "w", "I", false)
  | 4 => ("LineRulesModel", "blocks", "I", false)
  | 5 => ("LineRulesModel", "all", "I", false)
  | 6 => ("LineRulesModel", "table", "[I", true)
  | 7 => ("LineRulesModel", "cells", "I", false)
  | 8 => ("LineRulesModel", "ring", "[I", true)
  | 9 => ("LineRulesModel", "turned", "[I", true)
  | 10 => ("LineRulesModel", "readK", "I", false)
  | 11 => ("LineRulesModel", "readW", "I", false)
  | 12 => ("LineRulesModel", "fault", "I", false)
  | 13 => ("LineRulesModel", "level", "I", false)
  | 14 => ("LineRulesModel", "kinds", "[I", true)
  | 15 => ("LineRulesModel", "conditions", "[I", true)
  | 16 => ("LineRulesModel", "firsts", "[I", true)
  | 17 => ("LineRulesModel", "nots", "[I", true)
  | 18 => ("LineRulesModel", "products", "[I", true)
  | 19 => ("LineRulesModel", "hasProduct", "[Z", true)
  | 20 => ("LineRulesModel", "sums", "[I", true)
  | 21 => ("LineRulesModel", "sumBy", "[I", true)
  | 22 => ("LineRulesModel", "lefts", "[I", true)
  | 23 => ("LineRulesModel", "compares", "[I", true)
  | 24 => ("LineRulesModel", "boths", "[I", true)
  | 25 => ("LineRulesModel", "hasBoth", "[Z", true)
  | 26 => ("LineRulesModel", "eithers", "[I", true)
  | 27 => ("LineRulesModel", "hasEither", "[Z", true)
  | 28 => ("LineRulesModel", "isSurjective", "I", false)
  | 29 => ("LineRulesModel", "isInjective", "I", false)
  | 30 => ("LineRulesModel", "marked", "[Z", true)
  | 31 => ("LineRulesModel", "knowsInverse", "Z", false)
  | 32 => ("LineRulesModel", "inverseWidth", "I", false)
  | 33 => ("LineRulesModel", "inversePlace", "I", false)
  | 34 => ("LineRulesModel", "undone", "[I", true)
  | 35 => ("LineRulesModel", "knowsWeights", "Z", false)
  | 36 => ("LineRulesModel", "weights", "I", false)
  | 37 => ("LineRulesModel", "weightAt", "[I", true)
  | 38 => ("LineRulesModel", "hasRow", "[Z", true)
  | 39 => ("LineRulesModel", "rows", "[J", true)
  | 40 => ("LineRulesModel", "row", "[J", true)
  | 41 => ("LineRulesModel", "knowsOrphan", "Z", false)
  | 42 => ("LineRulesModel", "orphanSize", "I", false)
  | 43 => ("LineRulesModel", "orphanCells", "[I", true)
  | 44 => ("LineRulesModel", "sets", "[J", true)
  | 45 => ("LineRulesModel", "setFrom", "[I", true)
  | 46 => ("LineRulesModel", "setBy", "[I", true)
  | 47 => ("LineRulesModel", "knowsBefore", "Z", false)
  | 48 => ("LineRulesModel", "hasBefore", "Z", false)
  | 49 => ("LineRulesModel", "rings", "J", false)
  | 50 => ("LineRulesModel", "least", "[I", true)
  | 51 => ("LineRulesModel", "counts", "[J", true)
  | 52 => ("LineRulesModel", "later", "[J", true)
  | _ => ("LineRulesModel", "can", "[J", true)
def tyX9 : Nat → FieldType := fun k => match k with
  | 0 => .int
  | 1 => (.array .int)
  | 2 => .int
  | 3 => .int
  | 4 => .int
  | 5 => .int
  | 6 => (.array .int)
  | 7 => .int
  | 8 => (.array .int)
  | 9 => (.array .int)
  | 10 => .int
  | 11 => .int
  | 12 => .int
  | 13 => .int
  | 14 => (.array .int)
  | 15 => (.array .int)
  | 16 => (.array .int)
  | 17 => (.array .int)
  | 18 => (.array .int)
  | 19 => (.array .boolean)
  | 20 => (.array .int)
  | 21 => (.array .int)
  | 22 => (.array .int)
  | 23 => (.array .int)
  | 24 => (.array .int)
  | 25 => (.array .boolean)
  | 26 => (.array .int)
  | 27 => (.array .boolean)
  | 28 => .int
  | 29 => .int
  | 30 => (.array .boolean)
  | 31 => .boolean
  | 32 => .int
  | 33 => .int
  | 34 => (.array .int)
  | 35 => .boolean
  | 36 => .int
  | 37 => (.array .int)
  | 38 => (.array .boolean)
  | 39 => (.array .long)
  | 40 => (.array .long)
  | 41 => .boolean
  | 42 => .int
  | 43 => (.array .int)
  | 44 => (.array .long)
  | 45 => (.array .int)
  | 46 => (.array .int)
  | 47 => .boolean
  | 48 => .boolean
  | 49 => .long
  | 50 => (.array .int)
  | 51 => (.array .long)
  | 52 => (.array .long)
  | _ => (.array .long)
theorem nmX9 : ∀ a, a < 54 → ∀ b, b < 54 → a ≠ b → (TX9 a).2.1 ≠ (TX9 b).2.1 := by decide +kernel
theorem tyX9_ok : ∀ k, k < 54 → parseFieldDescriptor (TX9 k).2.2.1 = some (tyX9 k) := by decide +kernel
abbrev vwCl : List vw_C := [("LineRules", TX0, 8), ("LineRules$Text", TX1, 9), ("LineRules$Rule", TX2, 10), ("LineRules$Ring", TX3, 5), ("LineRules$Pairs", TX4, 7), ("LineRules$Inverse", TX5, 6), ("LineRules$Weights", TX6, 6), ("LineRules$Orphan", TX7, 10), ("LineRules$Past", TX8, 10), ("LineRulesModel", TX9, 54)]
def gw : List Cond := lw_tbl.filter goodWord
theorem gw_good : ∀ w ∈ gw, (w.onTables && w.keeps) = true ∨ ∃ ty, w = .arrayClass ty := fun w h => good_of_word (List.mem_filter.mp h).2
theorem gw_lw : ∀ w ∈ gw, w ∈ lw_tbl := fun w h => (List.mem_filter.mp h).1
theorem gw_of {w : Cond} (h : w ∈ tables_1) (hg : goodWord w = true) : w ∈ gw := List.mem_filter.mpr ⟨List.mem_append_right _ h, hg⟩
theorem gw_t1 {w : Cond} (h : w ∈ tables_1_1) (hg : goodWord w = true) : w ∈ gw := gw_of (show w ∈ tables_1 from (List.mem_append_left _ h)) hg
theorem gw_t2 {w : Cond} (h : w ∈ tables_1_2) (hg : goodWord w = true) : w ∈ gw := gw_of (show w ∈ tables_1 from (List.mem_append_right _ (List.mem_append_left _ h))) hg
theorem gw_t3 {w : Cond} (h : w ∈ tables_1_3) (hg : goodWord w = true) : w ∈ gw := gw_of (show w ∈ tables_1 from (List.mem_append_right _ (List.mem_append_right _ (List.mem_append_left _ h)))) hg
theorem gw_t4 {w : Cond} (h : w ∈ tables_1_4) (hg : goodWord w = true) : w ∈ gw := gw_of (show w ∈ tables_1 from (List.mem_append_right _ (List.mem_append_right _ (List.mem_append_right _ (List.mem_append_left _ h))))) hg
theorem gw_t5 {w : Cond} (h : w ∈ tables_1_5) (hg : goodWord w = true) : w ∈ gw := gw_of (show w ∈ tables_1 from (List.mem_append_right _ (List.mem_append_right _ (List.mem_append_right _ (List.mem_append_right _ h))))) hg
theorem gw_s {q : MethodName × Nat} (h : q ∈ lw_privs) (hg : goodWord (Cond.selects q.1.cls q.1 q.1) = true) : Cond.selects q.1.cls q.1 q.1 ∈ gw := List.mem_filter.mpr ⟨List.mem_append_left _ (List.mem_map.mpr ⟨q, h, rfl⟩), hg⟩
def gw_n : List (String × Nat × MethodName × String) := [("LineRules", 9, ⟨"LineRules$Text", "<init>", "()V"⟩, "LineRules"), ("LineRules", 18, ⟨"LineRules$Rule", "<init>", "()V"⟩, "LineRules"), ("LineRules$Text", 55, ⟨"LineRules", "power", "(II)I"⟩, "LineRules"), ("LineRules$Rule", 45, ⟨"LineRules", "power", "(II)I"⟩, "LineRules"), ("LineRules$Inverse", 42, ⟨"LineRules", "power", "(II)I"⟩, "LineRules")]
theorem gw_nt : ∀ q ∈ gw_n, Cond.methodLinkNest q.1 q.2.1 q.2.2.1 q.2.2.2 ∈ tables_1 := List.forall_mem_cons.mpr ⟨(show Cond.methodLinkNest "LineRules" 9 ⟨"LineRules$Text", "<init>", "()V"⟩ "LineRules" ∈ tables_1 from (List.mem_append_left _ (List.mem_of_getElem? (i := 24) rfl))), List.forall_mem_cons.mpr ⟨(show Cond.methodLinkNest "LineRules" 18 ⟨"LineRules$Rule", "<init>", "()V"⟩ "LineRules" ∈ tables_1 from (List.mem_append_left _ (List.mem_of_getElem? (i := 60) rfl))), List.forall_mem_cons.mpr ⟨(show Cond.methodLinkNest "LineRules$Text" 55 ⟨"LineRules", "power", "(II)I"⟩ "LineRules" ∈ tables_1 from (List.mem_append_right _ (List.mem_append_left _ (List.mem_of_getElem? (i := 115) rfl)))), List.forall_mem_cons.mpr ⟨(show Cond.methodLinkNest "LineRules$Rule" 45 ⟨"LineRules", "power", "(II)I"⟩ "LineRules" ∈ tables_1 from (List.mem_append_right _ (List.mem_append_left _ (List.mem_of_getElem? (i := 175) rfl)))), List.forall_mem_cons.mpr ⟨(show Cond.methodLinkNest "LineRules$Inverse" 42 ⟨"LineRules", "power", "(II)I"⟩ "LineRules" ∈ tables_1 from (List.mem_append_right _ (List.mem_append_right _ (List.mem_append_left _ (List.mem_of_getElem? (i := 113) rfl))))), fun _ h => absurd h List.not_mem_nil⟩⟩⟩⟩⟩
set_option maxRecDepth 20000 in
theorem inX0 : ∀ w ∈ u_ws "LineRules" TX0 8, w ∈ gw := by
  show ∀ w ∈ List.map (u_lay "LineRules" TX0) [0, 1, 2, 3, 4, 5, 6, 7], w ∈ gw
  exact List.forall_mem_cons.mpr ⟨(gw_t2 (List.mem_of_getElem? (i := 74) rfl) rfl), List.forall_mem_cons.mpr ⟨(gw_t2 (List.mem_of_getElem? (i := 76) rfl) rfl), List.forall_mem_cons.mpr ⟨(gw_t2 (List.mem_of_getElem? (i := 78) rfl) rfl), List.forall_mem_cons.mpr ⟨(gw_t2 (List.mem_of_getElem? (i := 80) rfl) rfl), List.forall_mem_cons.mpr ⟨(gw_t2 (List.mem_of_getElem? (i := 82) rfl) rfl), List.forall_mem_cons.mpr ⟨(gw_t2 (List.mem_of_getElem? (i := 84) rfl) rfl), List.forall_mem_cons.mpr ⟨(gw_t2 (List.mem_of_getElem? (i := 86) rfl) rfl), List.forall_mem_cons.mpr ⟨(gw_t2 (List.mem_of_getElem? (i := 88) rfl) rfl), fun _ h => absurd h List.not_mem_nil⟩⟩⟩⟩⟩⟩⟩⟩
set_option maxRecDepth 20000 in
theorem inX1 : ∀ w ∈ u_ws "LineRules$Text" TX1 9, w ∈ gw := by
  show ∀ w ∈ List.map (u_lay "LineRules$Text" TX1) [0, 1, 2, 3, 4, 5, 6, 7, 8], w ∈ gw
  exact List.forall_mem_cons.mpr ⟨(gw_t1 (List.mem_of_getElem? (i := 37) rfl) rfl), List.forall_mem_cons.mpr ⟨(gw_t1 (List.mem_of_getElem? (i := 39) rfl) rfl), List.forall_mem_cons.mpr ⟨(gw_t1 (List.mem_of_getElem? (i := 41) rfl) rfl), List.forall_mem_cons.mpr ⟨(gw_t1 (List.mem_of_getElem? (i := 43) rfl) rfl), List.forall_mem_cons.mpr ⟨(gw_t1 (List.mem_of_getElem? (i := 45) rfl) rfl), List.forall_mem_cons.mpr ⟨(gw_t1 (List.mem_of_getElem? (i := 47) rfl) rfl), List.forall_mem_cons.mpr ⟨(gw_t1 (List.mem_of_getElem? (i := 49) rfl) rfl), List.forall_mem_cons.mpr ⟨(gw_t1 (List.mem_of_getElem? (i := 51) rfl) rfl), List.forall_mem_cons.mpr ⟨(gw_t1 (List.mem_of_getElem? (i := 53) rfl) rfl), fun _ h => absurd h List.not_mem_nil⟩⟩⟩⟩⟩⟩⟩⟩⟩
set_option maxRecDepth 20000 in
theorem inX2 : ∀ w ∈ u_ws "LineRules$Rule" TX2 10, w ∈ gw := by
  show ∀ w ∈ List.map (u_lay "LineRules$Rule" TX2) [0, 1, 2, 3, 4, 5, 6, 7, 8, 9], w ∈ gw
  exact List.forall_mem_cons.mpr ⟨(gw_t1 (List.mem_of_getElem? (i := 104) rfl) rfl), List.forall_mem_cons.mpr ⟨(gw_t1 (List.mem_of_getElem? (i := 106) rfl) rfl), List.forall_mem_cons.mpr ⟨(gw_t1 (List.mem_of_getElem? (i := 108) rfl) rfl), List.forall_mem_cons.mpr ⟨(gw_t1 (List.mem_of_getElem? (i := 110) rfl) rfl), List.forall_mem_cons.mpr ⟨(gw_t1 (List.mem_of_getElem? (i := 112) rfl) rfl), List.forall_mem_cons.mpr ⟨(gw_t1 (List.mem_of_getElem? (i := 114) rfl) rfl), List.forall_mem_cons.mpr ⟨(gw_t1 (List.mem_of_getElem? (i := 116) rfl) rfl), List.forall_mem_cons.mpr ⟨(gw_t1 (List.mem_of_getElem? (i := 118) rfl) rfl), List.forall_mem_cons.mpr ⟨(gw_t1 (List.mem_of_getElem? (i := 120) rfl) rfl), List.forall_mem_cons.mpr ⟨(gw_t1 (List.mem_of_getElem? (i := 122) rfl) rfl), fun _ h => absurd h List.not_mem_nil⟩⟩⟩⟩⟩⟩⟩⟩⟩⟩
set_option maxRecDepth 20000 in
theorem inX3 : ∀ w ∈ u_ws "LineRules$Ring" TX3 5, w ∈ gw := by
  show ∀ w ∈ List.map (u_lay "LineRules$Ring" TX3) [0, 1, 2, 3, 4], w ∈ gw
  exact List.forall_mem_cons.mpr ⟨(gw_t1 (List.mem_of_getElem? (i := 141) rfl) rfl), List.forall_mem_cons.mpr ⟨(gw_t1 (List.mem_of_getElem? (i := 143) rfl) rfl), List.forall_mem_cons.mpr ⟨(gw_t1 (List.mem_of_getElem? (i := 145) rfl) rfl), List.forall_mem_cons.mpr ⟨(gw_t1 (List.mem_of_getElem? (i := 147) rfl) rfl), List.forall_mem_cons.mpr ⟨(gw_t1 (List.mem_of_getElem? (i := 149) rfl) rfl), fun _ h => absurd h List.not_mem_nil⟩⟩⟩⟩⟩
set_option maxRecDepth 20000 in
theorem inX4 : ∀ w ∈ u_ws "LineRules$Pairs" TX4 7, w ∈ gw := by
  show ∀ w ∈ List.map (u_lay "LineRules$Pairs" TX4) [0, 1, 2, 3, 4, 5, 6], w ∈ gw
  exact List.forall_mem_cons.mpr ⟨(gw_t1 (List.mem_of_getElem? (i := 165) rfl) rfl), List.forall_mem_cons.mpr ⟨(gw_t1 (List.mem_of_getElem? (i := 167) rfl) rfl), List.forall_mem_cons.mpr ⟨(gw_t1 (List.mem_of_getElem? (i := 169) rfl) rfl), List.forall_mem_cons.mpr ⟨(gw_t1 (List.mem_of_getElem? (i := 171) rfl) rfl), List.forall_mem_cons.mpr ⟨(gw_t1 (List.mem_of_getElem? (i := 173) rfl) rfl), List.forall_mem_cons.mpr ⟨(gw_t1 (List.mem_of_getElem? (i := 175) rfl) rfl), List.forall_mem_cons.mpr ⟨(gw_t1 (List.mem_of_getElem? (i := 177) rfl) rfl), fun _ h => absurd h List.not_mem_nil⟩⟩⟩⟩⟩⟩⟩
set_option maxRecDepth 20000 in
theorem inX5 : ∀ w ∈ u_ws "LineRules$Inverse" TX5 6, w ∈ gw := by
  show ∀ w ∈ List.map (u_lay "LineRules$Inverse" TX5) [0, 1, 2, 3, 4, 5], w ∈ gw
  exact List.forall_mem_cons.mpr ⟨(gw_t1 (List.mem_of_getElem? (i := 192) rfl) rfl), List.forall_mem_cons.mpr ⟨(gw_t1 (List.mem_of_getElem? (i := 194) rfl) rfl), List.forall_mem_cons.mpr ⟨(gw_t1 (List.mem_of_getElem? (i := 196) rfl) rfl), List.forall_mem_cons.mpr ⟨(gw_t1 (List.mem_of_getElem? (i := 198) rfl) rfl), List.forall_mem_cons.mpr ⟨(gw_t1 (List.mem_of_getElem? (i := 200) rfl) rfl), List.forall_mem_cons.mpr ⟨(gw_t1 (List.mem_of_getElem? (i := 202) rfl) rfl), fun _ h => absurd h List.not_mem_nil⟩⟩⟩⟩⟩⟩
set_option maxRecDepth 20000 in
theorem inX6 : ∀ w ∈ u_ws "LineRules$Weights" TX6 6, w ∈ gw := by
  show ∀ w ∈ List.map (u_lay "LineRules$Weights" TX6) [0, 1, 2, 3, 4, 5], w ∈ gw
  exact List.forall_mem_cons.mpr ⟨(gw_t1 (List.mem_of_getElem? (i := 219) rfl) rfl), List.forall_mem_cons.mpr ⟨(gw_t1 (List.mem_of_getElem? (i := 221) rfl) rfl), List.forall_mem_cons.mpr ⟨(gw_t1 (List.mem_of_getElem? (i := 223) rfl) rfl), List.forall_mem_cons.mpr ⟨(gw_t1 (List.mem_of_getElem? (i := 225) rfl) rfl), List.forall_mem_cons.mpr ⟨(gw_t1 (List.mem_of_getElem? (i := 227) rfl) rfl), List.forall_mem_cons.mpr ⟨(gw_t1 (List.mem_of_getElem? (i := 229) rfl) rfl), fun _ h => absurd h List.not_mem_nil⟩⟩⟩⟩⟩⟩
set_option maxRecDepth 20000 in
theorem inX7 : ∀ w ∈ u_ws "LineRules$Orphan" TX7 10, w ∈ gw := by
  show ∀ w ∈ List.map (u_lay "LineRules$Orphan" TX7) [0, 1, 2, 3, 4, 5, 6, 7, 8, 9], w ∈ gw
  exact List.forall_mem_cons.mpr ⟨(gw_t2 (List.mem_of_getElem? (i := 8) rfl) rfl), List.forall_mem_cons.mpr ⟨(gw_t2 (List.mem_of_getElem? (i := 10) rfl) rfl), List.forall_mem_cons.mpr ⟨(gw_t2 (List.mem_of_getElem? (i := 12) rfl) rfl), List.forall_mem_cons.mpr ⟨(gw_t2 (List.mem_of_getElem? (i := 14) rfl) rfl), List.forall_mem_cons.mpr ⟨(gw_t2 (List.mem_of_getElem? (i := 16) rfl) rfl), List.forall_mem_cons.mpr ⟨(gw_t2 (List.mem_of_getElem? (i := 18) rfl) rfl), List.forall_mem_cons.mpr ⟨(gw_t2 (List.mem_of_getElem? (i := 20) rfl) rfl), List.forall_mem_cons.mpr ⟨(gw_t2 (List.mem_of_getElem? (i := 22) rfl) rfl), List.forall_mem_cons.mpr ⟨(gw_t2 (List.mem_of_getElem? (i := 24) rfl) rfl), List.forall_mem_cons.mpr ⟨(gw_t2 (List.mem_of_getElem? (i := 26) rfl) rfl), fun _ h => absurd h List.not_mem_nil⟩⟩⟩⟩⟩⟩⟩⟩⟩⟩
set_option maxRecDepth 20000 in
theorem inX8 : ∀ w ∈ u_ws "LineRules$Past" TX8 10, w ∈ gw := by
  show ∀ w ∈ List.map (u_lay "LineRules$Past" TX8) [0, 1, 2, 3, 4, 5, 6, 7, 8, 9], w ∈ gw
  exact List.forall_mem_cons.mpr ⟨(gw_t2 (List.mem_of_getElem? (i := 45) rfl) rfl), List.forall_mem_cons.mpr ⟨(gw_t2 (List.mem_of_getElem? (i := 47) rfl) rfl), List.forall_mem_cons.mpr ⟨(gw_t2 (List.mem_of_getElem? (i := 49) rfl) rfl), List.forall_mem_cons.mpr ⟨(gw_t2 (List.mem_of_getElem? (i := 51) rfl) rfl), List.forall_mem_cons.mpr ⟨(gw_t2 (List.mem_of_getElem? (i := 53) rfl) rfl), List.forall_mem_cons.mpr ⟨(gw_t2 (List.mem_of_getElem? (i := 55) rfl) rfl), List.forall_mem_cons.mpr ⟨(gw_t2 (List.mem_of_getElem? (i := 57) rfl) rfl), List.forall_mem_cons.mpr ⟨(gw_t2 (List.mem_of_getElem? (i := 59) rfl) rfl), List.forall_mem_cons.mpr ⟨(gw_t2 (List.mem_of_getElem? (i := 61) rfl) rfl), List.forall_mem_cons.mpr ⟨(gw_t2 (List.mem_of_getElem? (i := 63) rfl) rfl), fun _ h => absurd h List.not_mem_nil⟩⟩⟩⟩⟩⟩⟩⟩⟩⟩
set_option maxRecDepth 20000 in
theorem inX9 : ∀ w ∈ u_ws "LineRulesModel" TX9 54, w ∈ gw := by
  show ∀ w ∈ List.map (u_lay "LineRulesModel" TX9) [0, 1, 2, 3, 4, 5, 6, 7, 8, 9, 10, 11, 12, 13, 14, 15, 16, 17, 18, 19, 20, 21, 22, 23, 24, 25, 26, 27, 28, 29, 30, 31, 32, 33, 34, 35, 36, 37, 38, 39, 40, 41, 42, 43, 44, 45, 46, 47, 48, 49, 50, 51, 52, 53], w ∈ gw
  exact List.forall_mem_cons.mpr ⟨(gw_t4 (List.mem_of_getElem? (i := 116) rfl) rfl), List.forall_mem_cons.mpr ⟨(gw_t4 (List.mem_of_getElem? (i := 118) rfl) rfl), List.forall_mem_cons.mpr ⟨(gw_t4 (List.mem_of_getElem? (i := 120) rfl) rfl), List.forall_mem_cons.mpr ⟨(gw_t4 (List.mem_of_getElem? (i := 122) rfl) rfl), List.forall_mem_cons.mpr ⟨(gw_t4 (List.mem_of_getElem? (i := 124) rfl) rfl), List.forall_mem_cons.mpr ⟨(gw_t4 (List.mem_of_getElem? (i := 126) rfl) rfl), List.forall_mem_cons.mpr ⟨(gw_t4 (List.mem_of_getElem? (i := 128) rfl) rfl), List.forall_mem_cons.mpr ⟨(gw_t4 (List.mem_of_getElem? (i := 130) rfl) rfl), List.forall_mem_cons.mpr ⟨(gw_t4 (List.mem_of_getElem? (i := 132) rfl) rfl), List.forall_mem_cons.mpr ⟨(gw_t4 (List.mem_of_getElem? (i := 134) rfl) rfl), List.forall_mem_cons.mpr ⟨(gw_t4 (List.mem_of_getElem? (i := 136) rfl) rfl), List.forall_mem_cons.mpr ⟨(gw_t4 (List.mem_of_getElem? (i := 138) rfl) rfl), List.forall_mem_cons.mpr ⟨(gw_t4 (List.mem_of_getElem? (i := 140) rfl) rfl), List.forall_mem_cons.mpr ⟨(gw_t4 (List.mem_of_getElem? (i := 142) rfl) rfl), List.forall_mem_cons.mpr ⟨(gw_t4 (List.mem_of_getElem? (i := 144) rfl) rfl), List.forall_mem_cons.mpr ⟨(gw_t4 (List.mem_of_getElem? (i := 146) rfl) rfl), List.forall_mem_cons.mpr ⟨(gw_t4 (List.mem_of_getElem? (i := 148) rfl) rfl), List.forall_mem_cons.mpr ⟨(gw_t4 (List.mem_of_getElem? (i := 150) rfl) rfl), List.forall_mem_cons.mpr ⟨(gw_t4 (List.mem_of_getElem? (i := 152) rfl) rfl), List.forall_mem_cons.mpr ⟨(gw_t4 (List.mem_of_getElem? (i := 154) rfl) rfl), List.forall_mem_cons.mpr ⟨(gw_t4 (List.mem_of_getElem? (i := 156) rfl) rfl), List.forall_mem_cons.mpr ⟨(gw_t4 (List.mem_of_getElem? (i := 158) rfl) rfl), List.forall_mem_cons.mpr ⟨(gw_t4 (List.mem_of_getElem? (i := 160) rfl) rfl), List.forall_mem_cons.mpr ⟨(gw_t4 (List.mem_of_getElem? (i := 162) rfl) rfl), List.forall_mem_cons.mpr ⟨(gw_t4 (List.mem_of_getElem? (i := 164) rfl) rfl), List.forall_mem_cons.mpr ⟨(gw_t4 (List.mem_of_getElem? (i := 166) rfl) rfl), List.forall_mem_cons.mpr ⟨(gw_t4 (List.mem_of_getElem? (i := 168) rfl) rfl), List.forall_mem_cons.mpr ⟨(gw_t4 (List.mem_of_getElem? (i := 170) rfl) rfl), List.forall_mem_cons.mpr ⟨(gw_t4 (List.mem_of_getElem? (i := 172) rfl) rfl), List.forall_mem_cons.mpr ⟨(gw_t4 (List.mem_of_getElem? (i := 174) rfl) rfl), List.forall_mem_cons.mpr ⟨(gw_t4 (List.mem_of_getElem? (i := 176) rfl) rfl), List.forall_mem_cons.mpr ⟨(gw_t4 (List.mem_of_getElem? (i := 178) rfl) rfl), List.forall_mem_cons.mpr ⟨(gw_t4 (List.mem_of_getElem? (i := 180) rfl) rfl), List.forall_mem_cons.mpr ⟨(gw_t4 (List.mem_of_getElem? (i := 182) rfl) rfl), List.forall_mem_cons.mpr ⟨(gw_t4 (List.mem_of_getElem? (i := 184) rfl) rfl), List.forall_mem_cons.mpr ⟨(gw_t4 (List.mem_of_getElem? (i := 186) rfl) rfl), List.forall_mem_cons.mpr ⟨(gw_t4 (List.mem_of_getElem? (i := 188) rfl) rfl), List.forall_mem_cons.mpr ⟨(gw_t4 (List.mem_of_getElem? (i := 190) rfl) rfl), List.forall_mem_cons.mpr ⟨(gw_t4 (List.mem_of_getElem? (i := 192) rfl) rfl), List.forall_mem_cons.mpr ⟨(gw_t4 (List.mem_of_getElem? (i := 194) rfl) rfl), List.forall_mem_cons.mpr ⟨(gw_t4 (List.mem_of_getElem? (i := 196) rfl) rfl), List.forall_mem_cons.mpr ⟨(gw_t4 (List.mem_of_getElem? (i := 198) rfl) rfl), List.forall_mem_cons.mpr ⟨(gw_t4 (List.mem_of_getElem? (i := 200) rfl) rfl), List.forall_mem_cons.mpr ⟨(gw_t4 (List.mem_of_getElem? (i := 202) rfl) rfl), List.forall_mem_cons.mpr ⟨(gw_t4 (List.mem_of_getElem? (i := 204) rfl) rfl), List.forall_mem_cons.mpr ⟨(gw_t4 (List.mem_of_getElem? (i := 206) rfl) rfl), List.forall_mem_cons.mpr ⟨(gw_t4 (List.mem_of_getElem? (i := 208) rfl) rfl), List.forall_mem_cons.mpr ⟨(gw_t4 (List.mem_of_getElem? (i := 210) rfl) rfl), List.forall_mem_cons.mpr ⟨(gw_t4 (List.mem_of_getElem? (i := 212) rfl) rfl), List.forall_mem_cons.mpr ⟨(gw_t4 (List.mem_of_getElem? (i := 214) rfl) rfl), List.forall_mem_cons.mpr ⟨(gw_t4 (List.mem_of_getElem? (i := 216) rfl) rfl), List.forall_mem_cons.mpr ⟨(gw_t4 (List.mem_of_getElem? (i := 218) rfl) rfl), List.forall_mem_cons.mpr ⟨(gw_t4 (List.mem_of_getElem? (i := 220) rfl) rfl), List.forall_mem_cons.mpr ⟨(gw_t4 (List.mem_of_getElem? (i := 222) rfl) rfl), fun _ h => absurd h List.not_mem_nil⟩⟩⟩⟩⟩⟩⟩⟩⟩⟩⟩⟩⟩⟩⟩⟩⟩⟩⟩⟩⟩⟩⟩⟩⟩⟩⟩⟩⟩⟩⟩⟩⟩⟩⟩⟩⟩⟩⟩⟩⟩⟩⟩⟩⟩⟩⟩⟩⟩⟩⟩⟩⟩⟩
theorem gw_cpn : Cond.native arraycopyName ∈ gw := (gw_t3 (List.mem_of_getElem? (i := 25) rfl) rfl)
theorem gw_cps : Cond.static arraycopyName ∈ gw := (gw_t3 (List.mem_of_getElem? (i := 24) rfl) rfl)
theorem gw_cpi : Cond.initialized "java/lang/System" ∈ gw := (gw_t1 (List.mem_of_getElem? (i := 13) rfl) rfl)
end
section
theorem g_cmp_eq {x y : Int64} : lg_cmp x y = 0 ↔ x = y := by
  unfold lg_cmp
  split
  · rename_i h
    exact ⟨fun z => absurd z (by decide), fun z => absurd h (by rw [z]; exact Int64.lt_irrefl)⟩
  · split
    · rename_i h
      exact ⟨fun _ => h, fun _ => rfl⟩
    · rename_i h
      exact ⟨fun z => absurd z (by decide), fun z => absurd z h⟩
theorem g_cmp_tri (x y : Int64) : (x < y ∧ lg_cmp x y = -1) ∨ (x = y ∧ lg_cmp x y = 0) ∨ (y < x ∧ lg_cmp x y = 1) := by
  by_cases h1 : y < x
  · exact Or.inr (Or.inr ⟨h1, by simp [lg_cmp, h1]⟩)
  · by_cases h2 : x = y
    · exact Or.inr (Or.inl ⟨h2, by subst h2; simp [lg_cmp]⟩)
    · refine Or.inl ⟨?_, by simp [lg_cmp, h1, h2]⟩
      rw [Int64.lt_iff_toInt_lt] at h1 ⊢
      have h3 : ¬ x.toInt = y.toInt := fun q => h2 (Int64.toInt_inj.mp q)
      omega
theorem g_cmp_lt {x y : Int64} : lg_cmp x y < 0 ↔ x < y := by
  rcases g_cmp_tri x y with ⟨h, e⟩ | ⟨h, e⟩ | ⟨h, e⟩ <;> rw [e] <;> rw [Int64.lt_iff_toInt_lt] at * <;> (try subst h) <;> (try simp) <;> (try decide) <;> omega
theorem g_cmp_ge {x y : Int64} : 0 ≤ lg_cmp x y ↔ y ≤ x := by
  rcases g_cmp_tri x y with ⟨h, e⟩ | ⟨h, e⟩ | ⟨h, e⟩ <;> rw [e] <;> (try subst h) <;> simp [Int64.le_iff_toInt_le, Int64.lt_iff_toInt_lt] at * <;> (try decide) <;> omega
theorem g_cmp_gt {x y : Int64} : 0 < lg_cmp x y ↔ y < x := by
  rcases g_cmp_tri x y with ⟨h, e⟩ | ⟨h, e⟩ | ⟨h, e⟩ <;> rw [e] <;> (try subst h) <;> simp [Int64.le_iff_toInt_le, Int64.lt_iff_toInt_lt] at * <;> (try decide) <;> omega
theorem g_cmp_le {x y : Int64} : lg_cmp x y ≤ 0 ↔ x ≤ y := by
  rcases g_cmp_tri x y with ⟨h, e⟩ | ⟨h, e⟩ | ⟨h, e⟩ <;> rw [e] <;> (try subst h) <;> simp [Int64.le_iff_toInt_le, Int64.lt_iff_toInt_lt] at * <;> (try decide) <;> omega
theorem g_lit {k len : Nat} (h : k < len) (hl : len < 2 ^ 31) : vp_in (Int32.ofNat k) len := vp_in_nI h hl
/-! The judgement gG: at this frame, with this world, the method comes to its end. gM: the contract of a call. -/
def gr_r (n : Nat) : Room := { frames := n, cells := 0, slots := 0, locals := 40 * n }
theorem gs_over_moved {u U : State} (hvm : u.vm.Alike U.vm) (h : (Cond.arrayOver (.array .long)).before #[] u = true) : (Cond.arrayOver (.array .long)).before #[] U = true := by
  obtain ⟨comp, c, k, h1, h2, h3, h4, h5⟩ := arrayOverA_spec h
  obtain ⟨k', hk', he⟩ := hvm.2.2 _ _ h3
  have hkind : k'.kind = .array comp (.array .long) := by rw [he]; exact h4
  have f1 : U.vm.findClass (FieldType.array .long).toString = some comp := by rw [hvm.findClass]; exact h1
  have f2 : U.vm.findClass ("[" ++ (FieldType.array .long).toString) = some c := by rw [hvm.findClass]; exact h5
  have hi : (U.vm.classes.findIdx? fun x => match x.kind with | .array component _ => component == comp | _ => false) = some c := by
    rw [hvm.findIdx?_eq _ (fun _ => rfl)]; exact h2
  unfold Cond.before Cond.holds
  simp only [Cond.value]
  rw [f1, Option.bind_some]
  refine (congrArg (fun o : Option Nat => (o.bind (fun c => (U.vm.classes[c]?).map fun (k : Class) => match k.kind with | .array _ ty => decide (ty = FieldType.array .long) && decide (U.vm.findClass ("[" ++ (FieldType.array .long).toString) = some c) | _ => false) == some true)) hi).trans ?_
  simp [hk', hkind, f2]
def gs_K (v : gs_V) (U : State) : Prop := va_K v.1 vwCl (gs_t v) U ∧ (∀ q ∈ gw_n, va_Nw (.methodLinkNest q.1 q.2.1 q.2.2.1 q.2.2.2) U) ∧ (Cond.arrayOver (.array .long)).before #[] U = true
theorem gs_K_warm {v : gs_V} {s U : State} (hW : s.WarmedH U.vm) (h : gs_K v s) : gs_K v U := ⟨va_K.moved hW.alike h.1, fun q hq => va_Nw.warmM hW (h.2.1 q hq), gs_over_moved hW.alike h.2.2⟩
theorem gs_K_same {v : gs_V} {s U : State} (hW : s.vm = U.vm) (h : gs_K v s) : gs_K v U := ⟨va_K.moved (by rw [hW]; exact Vm.Alike.refl U.vm) h.1, fun q hq => va_Nw.same rfl hW (h.2.1 q hq), gs_over_moved (by rw [hW]; exact Vm.Alike.refl U.vm) h.2.2⟩
def gs_P (v : gs_V) (ly : gs_L) (N : Nat) (σ : gs_S) (sz : Nat) (U : State) : Prop := U.heap.size = sz ∧ va_P v.1 vwCl (gs_w v ly N σ) U.heap ∧ gs_K v U ∧ va_D (fun _ => True) (gs_w v ly N σ)
abbrev gs_Q : Type := (Nat → Prop) → Array Value → State → Outcome → State → Prop
def qI (v : gs_V) (ly : gs_L) (N : Nat) (post : Int32 → gs_S → Prop) : gs_Q := fun A => va_Qi post (fun σ t => va_P v.1 vwCl (gs_w v ly N σ) t.heap) A
def qL (v : gs_V) (ly : gs_L) (N : Nat) (post : Int64 → gs_S → Prop) : gs_Q := fun A => va_Ql post (fun σ t => va_P v.1 vwCl (gs_w v ly N σ) t.heap) A
def qV (v : gs_V) (ly : gs_L) (N : Nat) (post : gs_S → Prop) : gs_Q := fun A => va_Qv post (fun σ t => va_P v.1 vwCl (gs_w v ly N σ) t.heap) A
abbrev gs_h (me : gs_M) : Cond := Cond.code me.1 me.2.1 me.2.2.1 me.2.2.2
def gM (l : Launch) (v : gs_V) (ly : gs_L) (N : Nat) (me : gs_M) (n : Nat) (av : List Value) (σ : gs_S) (Qf : gs_Q) : Prop := ∀ sz : Nat, Met l me.1 (gs_h me :: gw) (gr_r n) (va_Pc av (gs_P v ly N σ sz)) (Qf (va_A (gs_w v ly N σ) sz)) 0 0 (va_A (gs_w v ly N σ) sz)
def gC (v : gs_V) (ly : gs_L) (N : Nat) (me : gs_M) (p : Program) (s : State) (m : MethodId) (args : Array Value) (meth : Method) (c : Code) (A : Nat → Prop) : Prop :=
  p.tables.exec = Jvm.exec ∧ c.code = me.2.1 ∧ c.maxLocals = me.2.2.1 ∧ s.vm.findClass me.1.cls = some m.cls ∧ (∀ w ∈ gw, w.before args s = true) ∧ gs_K v s ∧ (∀ σ, va_D A (gs_w v ly N σ)) ∧ (∀ q, s.heap.size ≤ q → A q) ∧ meth.sig.returnType = me.2.2.2 ∧ meth.locks = false
def gG (l : Launch) (v : gs_V) (ly : gs_L) (N : Nat) (me : gs_M) (n : Nat) (Qf : gs_Q) (pc : Nat) (L : List (Nat × Value)) (st : List Value) (σ : gs_S) : Prop :=
  ∀ (p : Program) (e : Env) (s : State) (m : MethodId) (args : Array Value) (below : List Frame) (meth : Method) (c : Code) (A : Nat → Prop), gC v ly N me p s m args meth c A →
  ∀ (ls : Array Slot) (H : Heap) (locs : List Loc), lv_has ls me.2.2.1 L → va_P v.1 vwCl (gs_w v ly N σ) H → va_S A s.heap H locs →
  W p l e (gr_r (n + 1)) s m args below meth c H locs 0 0 (MQ below (Qf A) args s 0 0 A) (F0 m pc ls st)
section GR
variable {l : Launch} {v : gs_V} {ly : gs_L} {N : Nat} {me : gs_M} {n : Nat} {Qf : gs_Q} {pc : Nat} {L : List (Nat × Value)} {st rest : List Value} {σ : gs_S}
theorem gM_of {av : List Value} (hy : plainFor me.1 = true) (hl : (lg_sl av).length ≤ me.2.2.1) (h : gG l v ly N me n Qf 0 (lv_args 0 av) [] σ) : gM l v ly N me (n + 1) av σ Qf := by
  intro sz
  refine va_MetF (cc := me.2.1) (maxL := me.2.2.1) (ret := me.2.2.2) hy rfl ?_
  intro p e s m args below meth c s₁ B hml hv
  obtain ⟨rfl, hsz, hP, hK, hD0⟩ := hv
  subst hsz
  have hts := atoms_spec (ws := gs_h me :: gw) B.pre
  rw [lg_entry_eq]
  exact h p e s m _ below meth c (va_A (gs_w v ly N σ) s.heap.size) ⟨B.exec, B.bytes, hml, findClass_of_methodNamed B.named, fun w hw => hts w (List.mem_cons_of_mem _ hw), hK, fun σ' => gs_D hD0.self, fun q hq => Or.inr hq, B.returns, B.notSynchronized⟩ _ s.heap [] (lv_entry av hl) hP va_S.rf
theorem g_sub {L' : List (Nat × Value)} (ks : List Nat) (hk : lv_pick L ks = L') (k : gG l v ly N me n Qf pc L' st σ) : gG l v ly N me n Qf pc L st σ :=
  fun p e s m args below meth c A hC ls H locs hl hP hS => k p e s m args below meth c A hC ls H locs (lv_sub hl ks hk) hP hS
theorem g_eq {st' : List Value} {σ' : gs_S} {L' : List (Nat × Value)} (k : gG l v ly N me n Qf pc L' st' σ') (hL : L = L') (h : st = st') (hσ : σ = σ') : gG l v ly N me n Qf pc L st σ := by
  subst hL; subst h; subst hσ; exact k

theorem g_iconst {z : Int} {x : Int32} (d : decode me.2.1 pc = .ok (.iconst z, 1)) (hv : Int32.ofInt z = x) (k : gG l v ly N me n Qf (pc + 1) L (.int x :: rest) σ) : gG l v ly N me n Qf pc L (rest) σ :=
  fun p e s m args below meth c A hC ls H locs hl hP hS => lv_iconst hC.1 hC.2.1 d hv (k p e s m args below meth c A hC ls H locs hl hP hS)
theorem g_bipush {z : Int} {x : Int32} (d : decode me.2.1 pc = .ok (.bipush z, 2)) (hv : (Int8.ofInt z).toInt32 = x) (k : gG l v ly N me n Qf (pc + 2) L (.int x :: rest) σ) : gG l v ly N me n Qf pc L (rest) σ :=
  fun p e s m args below meth c A hC ls H locs hl hP hS => lv_bipush hC.1 hC.2.1 d hv (k p e s m args below meth c A hC ls H locs hl hP hS)
theorem g_sipush {z : Int} {x : Int32} (d : decode me.2.1 pc = .ok (.sipush z, 3)) (hv : (Int16.ofInt z).toInt32 = x) (k : gG l v ly N me n Qf (pc + 3) L (.int x :: rest) σ) : gG l v ly N me n Qf pc L (rest) σ :=
  fun p e s m args below meth c A hC ls H locs hl hP hS => lv_sipush hC.1 hC.2.1 d hv (k p e s m args below meth c A hC ls H locs hl hP hS)
theorem g_lconst {z : Fin 2} {x : Int64} (d : decode me.2.1 pc = .ok (.lconst z, 1)) (hv : Int64.ofNat (z : Nat) = x) (k : gG l v ly N me n Qf (pc + 1) L (.long x :: rest) σ) : gG l v ly N me n Qf pc L (rest) σ :=
  fun p e s m args below meth c A hC ls H locs hl hP hS => lv_lconst hC.1 hC.2.1 d hv (k p e s m args below meth c A hC ls H locs hl hP hS)
theorem g_iload_n {z : Fin 4} {i : Nat} {x : Int32} (d : decode me.2.1 pc = .ok (.iload_n z, 1)) (q : Nat) (hi : (z : Nat) = i) (hq : L[q]? = some (i, .int x)) (k : gG l v ly N me n Qf (pc + 1) L (.int x :: rest) σ) : gG l v ly N me n Qf pc L rest σ :=
  fun p e s m args below meth c A hC ls H locs hl hP hS => lv_iload_n hC.1 hC.2.1 d hi (lv_at hl q hq) (k p e s m args below meth c A hC ls H locs hl hP hS)
theorem g_iload {i : Nat} {x : Int32} (d : decode me.2.1 pc = .ok (.iload i, 2)) (q : Nat) (hq : L[q]? = some (i, .int x)) (k : gG l v ly N me n Qf (pc + 2) L (.int x :: rest) σ) : gG l v ly N me n Qf pc L rest σ :=
  fun p e s m args below meth c A hC ls H locs hl hP hS => lv_iload hC.1 hC.2.1 d (lv_at hl q hq) (k p e s m args below meth c A hC ls H locs hl hP hS)
theorem g_istore_n {z : Fin 4} {i : Nat} {x : Int32} {L' : List (Nat × Value)} (d : decode me.2.1 pc = .ok (.istore_n z, 1)) (hi : (z : Nat) = i) (hn : i < me.2.2.1) (hL : (i, Value.int x) :: L.filter (fun q => !(q.1 == i) && !(q.1 + 1 == i && q.2.category == 2)) = L') (k : gG l v ly N me n Qf (pc + 1) L' rest σ) : gG l v ly N me n Qf pc L (.int x :: rest) σ :=
  fun p e s m args below meth c A hC ls H locs hl hP hS => lv_istore_n hC.1 hC.2.1 d hi hl hn hL (fun ls hl => k p e s m args below meth c A hC ls H locs hl hP hS)
theorem g_istore {i : Nat} {x : Int32} {L' : List (Nat × Value)} (d : decode me.2.1 pc = .ok (.istore i, 2)) (hn : i < me.2.2.1) (hL : (i, Value.int x) :: L.filter (fun q => !(q.1 == i) && !(q.1 + 1 == i && q.2.category == 2)) = L') (k : gG l v ly N me n Qf (pc + 2) L' rest σ) : gG l v ly N me n Qf pc L (.int x :: rest) σ :=
  fun p e s m args below meth c A hC ls H locs hl hP hS => lv_istore hC.1 hC.2.1 d hl hn hL (fun ls hl => k p e s m args below meth c A hC ls H locs hl hP hS)
theorem g_lload_n {z : Fin 4} {i : Nat} {x : Int64} (d : decode me.2.1 pc = .ok (.lload_n z, 1)) (q : Nat) (hi : (z : Nat) = i) (hq : L[q]? = some (i, .long x)) (k : gG l v ly N me n Qf (pc + 1) L (.long x :: rest) σ) : gG l v ly N me n Qf pc L rest σ :=
  fun p e s m args below meth c A hC ls H locs hl hP hS => lv_lload_n hC.1 hC.2.1 d hi (lv_at hl q hq) (k p e s m args below meth c A hC ls H locs hl hP hS)
theorem g_lload {i : Nat} {x : Int64} (d : decode me.2.1 pc = .ok (.lload i, 2)) (q : Nat) (hq : L[q]? = some (i, .long x)) (k : gG l v ly N me n Qf (pc + 2) L (.long x :: rest) σ) : gG l v ly N me n Qf pc L rest σ :=
  fun p e s m args below meth c A hC ls H locs hl hP hS => lv_lload hC.1 hC.2.1 d (lv_at hl q hq) (k p e s m args below meth c A hC ls H locs hl hP hS)
theorem g_lstore_n {z : Fin 4} {i : Nat} {x : Int64} {L' : List (Nat × Value)} (d : decode me.2.1 pc = .ok (.lstore_n z, 1)) (hi : (z : Nat) = i) (hn : i + 1 < me.2.2.1) (hL : (i, Value.long x) :: L.filter (fun q => !(q.1 == i) && (!(q.1 == i + 1) && !(q.1 + 1 == i && q.2.category == 2))) = L') (k : gG l v ly N me n Qf (pc + 1) L' rest σ) : gG l v ly N me n Qf pc L (.long x :: rest) σ :=
  fun p e s m args below meth c A hC ls H locs hl hP hS => lv_lstore_n hC.1 hC.2.1 d hi hl hn hL (fun ls hl => k p e s m args below meth c A hC ls H locs hl hP hS)
theorem g_lstore {i : Nat} {x : Int64} {L' : List (Nat × Value)} (d : decode me.2.1 pc = .ok (.lstore i, 2)) (hn : i + 1 < me.2.2.1) (hL : (i, Value.long x) :: L.filter (fun q => !(q.1 == i) && (!(q.1 == i + 1) && !(q.1 + 1 == i && q.2.category == 2))) = L') (k : gG l v ly N me n Qf (pc + 2) L' rest σ) : gG l v ly N me n Qf pc L (.long x :: rest) σ :=
  fun p e s m args below meth c A hC ls H locs hl hP hS => lv_lstore hC.1 hC.2.1 d hl hn hL (fun ls hl => k p e s m args below meth c A hC ls H locs hl hP hS)
theorem g_aload_n {z : Fin 4} {i : Nat} {x : Nat} (d : decode me.2.1 pc = .ok (.aload_n z, 1)) (q : Nat) (hi : (z : Nat) = i) (hq : L[q]? = some (i, .ref x)) (k : gG l v ly N me n Qf (pc + 1) L (.ref x :: rest) σ) : gG l v ly N me n Qf pc L rest σ :=
  fun p e s m args below meth c A hC ls H locs hl hP hS => lv_aload_n hC.1 hC.2.1 d hi (lv_at hl q hq) (k p e s m args below meth c A hC ls H locs hl hP hS)
theorem g_aload {i : Nat} {x : Nat} (d : decode me.2.1 pc = .ok (.aload i, 2)) (q : Nat) (hq : L[q]? = some (i, .ref x)) (k : gG l v ly N me n Qf (pc + 2) L (.ref x :: rest) σ) : gG l v ly N me n Qf pc L rest σ :=
  fun p e s m args below meth c A hC ls H locs hl hP hS => lv_aload hC.1 hC.2.1 d (lv_at hl q hq) (k p e s m args below meth c A hC ls H locs hl hP hS)
theorem g_astore_n {z : Fin 4} {i : Nat} {x : Nat} {L' : List (Nat × Value)} (d : decode me.2.1 pc = .ok (.astore_n z, 1)) (hi : (z : Nat) = i) (hn : i < me.2.2.1) (hL : (i, Value.ref x) :: L.filter (fun q => !(q.1 == i) && !(q.1 + 1 == i && q.2.category == 2)) = L') (k : gG l v ly N me n Qf (pc + 1) L' rest σ) : gG l v ly N me n Qf pc L (.ref x :: rest) σ :=
  fun p e s m args below meth c A hC ls H locs hl hP hS => lv_astore_n hC.1 hC.2.1 d hi hl hn hL (fun ls hl => k p e s m args below meth c A hC ls H locs hl hP hS)
theorem g_astore {i : Nat} {x : Nat} {L' : List (Nat × Value)} (d : decode me.2.1 pc = .ok (.astore i, 2)) (hn : i < me.2.2.1) (hL : (i, Value.ref x) :: L.filter (fun q => !(q.1 == i) && !(q.1 + 1 == i && q.2.category == 2)) = L') (k : gG l v ly N me n Qf (pc + 2) L' rest σ) : gG l v ly N me n Qf pc L (.ref x :: rest) σ :=
  fun p e s m args below meth c A hC ls H locs hl hP hS => lv_astore hC.1 hC.2.1 d hl hn hL (fun ls hl => k p e s m args below meth c A hC ls H locs hl hP hS)
theorem g_iinc {i : Nat} {z : Int} {x y : Int32} {L' : List (Nat × Value)} (d : decode me.2.1 pc = .ok (.iinc i z, 3)) (q : Nat) (hq : L[q]? = some (i, .int x)) (hv : x + Int32.ofInt z = y) (hn : i < me.2.2.1) (hL : (i, Value.int y) :: L.filter (fun q => !(q.1 == i) && !(q.1 + 1 == i && q.2.category == 2)) = L') (k : gG l v ly N me n Qf (pc + 3) L' rest σ) : gG l v ly N me n Qf pc L rest σ :=
  fun p e s m args below meth c A hC ls H locs hl hP hS => lv_iinc hC.1 hC.2.1 d hl hq hv hn hL (fun ls hl => k p e s m args below meth c A hC ls H locs hl hP hS)
theorem g_iadd {x y : Int32} (d : decode me.2.1 pc = .ok (.iadd, 1))  (k : gG l v ly N me n Qf (pc + 1) L (.int (x + y) :: rest) σ) : gG l v ly N me n Qf pc L (.int y :: .int x :: rest) σ :=
  fun p e s m args below meth c A hC ls H locs hl hP hS => lv_iadd hC.1 hC.2.1 d  (k p e s m args below meth c A hC ls H locs hl hP hS)
theorem g_isub {x y : Int32} (d : decode me.2.1 pc = .ok (.isub, 1))  (k : gG l v ly N me n Qf (pc + 1) L (.int (x - y) :: rest) σ) : gG l v ly N me n Qf pc L (.int y :: .int x :: rest) σ :=
  fun p e s m args below meth c A hC ls H locs hl hP hS => lv_isub hC.1 hC.2.1 d  (k p e s m args below meth c A hC ls H locs hl hP hS)
theorem g_imul {x y : Int32} (d : decode me.2.1 pc = .ok (.imul, 1))  (k : gG l v ly N me n Qf (pc + 1) L (.int (x * y) :: rest) σ) : gG l v ly N me n Qf pc L (.int y :: .int x :: rest) σ :=
  fun p e s m args below meth c A hC ls H locs hl hP hS => lv_imul hC.1 hC.2.1 d  (k p e s m args below meth c A hC ls H locs hl hP hS)
theorem g_iand {x y : Int32} (d : decode me.2.1 pc = .ok (.iand, 1))  (k : gG l v ly N me n Qf (pc + 1) L (.int (x &&& y) :: rest) σ) : gG l v ly N me n Qf pc L (.int y :: .int x :: rest) σ :=
  fun p e s m args below meth c A hC ls H locs hl hP hS => lv_iand hC.1 hC.2.1 d  (k p e s m args below meth c A hC ls H locs hl hP hS)
theorem g_ior {x y : Int32} (d : decode me.2.1 pc = .ok (.ior, 1))  (k : gG l v ly N me n Qf (pc + 1) L (.int (x ||| y) :: rest) σ) : gG l v ly N me n Qf pc L (.int y :: .int x :: rest) σ :=
  fun p e s m args below meth c A hC ls H locs hl hP hS => lv_ior hC.1 hC.2.1 d  (k p e s m args below meth c A hC ls H locs hl hP hS)
theorem g_ixor {x y : Int32} (d : decode me.2.1 pc = .ok (.ixor, 1))  (k : gG l v ly N me n Qf (pc + 1) L (.int (x ^^^ y) :: rest) σ) : gG l v ly N me n Qf pc L (.int y :: .int x :: rest) σ :=
  fun p e s m args below meth c A hC ls H locs hl hP hS => lv_ixor hC.1 hC.2.1 d  (k p e s m args below meth c A hC ls H locs hl hP hS)
theorem g_idiv {x y : Int32} (d : decode me.2.1 pc = .ok (.idiv, 1)) (hz : ¬ y = 0) (k : gG l v ly N me n Qf (pc + 1) L (.int (x / y) :: rest) σ) : gG l v ly N me n Qf pc L (.int y :: .int x :: rest) σ :=
  fun p e s m args below meth c A hC ls H locs hl hP hS => lv_idiv hC.1 hC.2.1 d hz (k p e s m args below meth c A hC ls H locs hl hP hS)
theorem g_irem {x y : Int32} (d : decode me.2.1 pc = .ok (.irem, 1)) (hz : ¬ y = 0) (k : gG l v ly N me n Qf (pc + 1) L (.int (jR x y) :: rest) σ) : gG l v ly N me n Qf pc L (.int y :: .int x :: rest) σ :=
  fun p e s m args below meth c A hC ls H locs hl hP hS => lv_irem hC.1 hC.2.1 d hz (k p e s m args below meth c A hC ls H locs hl hP hS)
theorem g_ladd {x y : Int64} (d : decode me.2.1 pc = .ok (.ladd, 1))  (k : gG l v ly N me n Qf (pc + 1) L (.long (x + y) :: rest) σ) : gG l v ly N me n Qf pc L (.long y :: .long x :: rest) σ :=
  fun p e s m args below meth c A hC ls H locs hl hP hS => lv_ladd hC.1 hC.2.1 d  (k p e s m args below meth c A hC ls H locs hl hP hS)
theorem g_lsub {x y : Int64} (d : decode me.2.1 pc = .ok (.lsub, 1))  (k : gG l v ly N me n Qf (pc + 1) L (.long (x - y) :: rest) σ) : gG l v ly N me n Qf pc L (.long y :: .long x :: rest) σ :=
  fun p e s m args below meth c A hC ls H locs hl hP hS => lv_lsub hC.1 hC.2.1 d  (k p e s m args below meth c A hC ls H locs hl hP hS)
theorem g_lmul {x y : Int64} (d : decode me.2.1 pc = .ok (.lmul, 1))  (k : gG l v ly N me n Qf (pc + 1) L (.long (x * y) :: rest) σ) : gG l v ly N me n Qf pc L (.long y :: .long x :: rest) σ :=
  fun p e s m args below meth c A hC ls H locs hl hP hS => lv_lmul hC.1 hC.2.1 d  (k p e s m args below meth c A hC ls H locs hl hP hS)
theorem g_land {x y : Int64} (d : decode me.2.1 pc = .ok (.land, 1))  (k : gG l v ly N me n Qf (pc + 1) L (.long (x &&& y) :: rest) σ) : gG l v ly N me n Qf pc L (.long y :: .long x :: rest) σ :=
  fun p e s m args below meth c A hC ls H locs hl hP hS => lv_land hC.1 hC.2.1 d  (k p e s m args below meth c A hC ls H locs hl hP hS)
theorem g_lor {x y : Int64} (d : decode me.2.1 pc = .ok (.lor, 1))  (k : gG l v ly N me n Qf (pc + 1) L (.long (x ||| y) :: rest) σ) : gG l v ly N me n Qf pc L (.long y :: .long x :: rest) σ :=
  fun p e s m args below meth c A hC ls H locs hl hP hS => lv_lor hC.1 hC.2.1 d  (k p e s m args below meth c A hC ls H locs hl hP hS)
theorem g_lxor {x y : Int64} (d : decode me.2.1 pc = .ok (.lxor, 1))  (k : gG l v ly N me n Qf (pc + 1) L (.long (x ^^^ y) :: rest) σ) : gG l v ly N me n Qf pc L (.long y :: .long x :: rest) σ :=
  fun p e s m args below meth c A hC ls H locs hl hP hS => lv_lxor hC.1 hC.2.1 d  (k p e s m args below meth c A hC ls H locs hl hP hS)
theorem g_ldiv {x y : Int64} (d : decode me.2.1 pc = .ok (.ldiv, 1)) (hz : ¬ y = 0) (k : gG l v ly N me n Qf (pc + 1) L (.long (x / y) :: rest) σ) : gG l v ly N me n Qf pc L (.long y :: .long x :: rest) σ :=
  fun p e s m args below meth c A hC ls H locs hl hP hS => lv_ldiv hC.1 hC.2.1 d hz (k p e s m args below meth c A hC ls H locs hl hP hS)
theorem g_lrem {x y : Int64} (d : decode me.2.1 pc = .ok (.lrem, 1)) (hz : ¬ y = 0) (k : gG l v ly N me n Qf (pc + 1) L (.long (jRL x y) :: rest) σ) : gG l v ly N me n Qf pc L (.long y :: .long x :: rest) σ :=
  fun p e s m args below meth c A hC ls H locs hl hP hS => lv_lrem hC.1 hC.2.1 d hz (k p e s m args below meth c A hC ls H locs hl hP hS)
theorem g_ineg {x : Int32} (d : decode me.2.1 pc = .ok (.ineg, 1))  (k : gG l v ly N me n Qf (pc + 1) L (.int (-x) :: rest) σ) : gG l v ly N me n Qf pc L (.int x :: rest) σ :=
  fun p e s m args below meth c A hC ls H locs hl hP hS => lv_ineg hC.1 hC.2.1 d  (k p e s m args below meth c A hC ls H locs hl hP hS)
theorem g_lneg {x : Int64} (d : decode me.2.1 pc = .ok (.lneg, 1))  (k : gG l v ly N me n Qf (pc + 1) L (.long (-x) :: rest) σ) : gG l v ly N me n Qf pc L (.long x :: rest) σ :=
  fun p e s m args below meth c A hC ls H locs hl hP hS => lv_lneg hC.1 hC.2.1 d  (k p e s m args below meth c A hC ls H locs hl hP hS)
theorem g_ishl {x y : Int32} (d : decode me.2.1 pc = .ok (.ishl, 1))  (k : gG l v ly N me n Qf (pc + 1) L (.int (jSI x y) :: rest) σ) : gG l v ly N me n Qf pc L (.int y :: .int x :: rest) σ :=
  fun p e s m args below meth c A hC ls H locs hl hP hS => lv_ishl hC.1 hC.2.1 d  (k p e s m args below meth c A hC ls H locs hl hP hS)
theorem g_ishr {x y : Int32} (d : decode me.2.1 pc = .ok (.ishr, 1))  (k : gG l v ly N me n Qf (pc + 1) L (.int (jAI x y) :: rest) σ) : gG l v ly N me n Qf pc L (.int y :: .int x :: rest) σ :=
  fun p e s m args below meth c A hC ls H locs hl hP hS => lv_ishr hC.1 hC.2.1 d  (k p e s m args below meth c A hC ls H locs hl hP hS)
theorem g_i2l {x : Int32} (d : decode me.2.1 pc = .ok (.i2l, 1))  (k : gG l v ly N me n Qf (pc + 1) L (.long x.toInt64 :: rest) σ) : gG l v ly N me n Qf pc L (.int x :: rest) σ :=
  fun p e s m args below meth c A hC ls H locs hl hP hS => lv_i2l hC.1 hC.2.1 d rfl (k p e s m args below meth c A hC ls H locs hl hP hS)
theorem g_l2i {x : Int64} (d : decode me.2.1 pc = .ok (.l2i, 1))  (k : gG l v ly N me n Qf (pc + 1) L (.int x.toInt32 :: rest) σ) : gG l v ly N me n Qf pc L (.long x :: rest) σ :=
  fun p e s m args below meth c A hC ls H locs hl hP hS => lv_l2i hC.1 hC.2.1 d rfl (k p e s m args below meth c A hC ls H locs hl hP hS)
theorem g_i2c {x : Int32} (d : decode me.2.1 pc = .ok (.i2c, 1))  (k : gG l v ly N me n Qf (pc + 1) L (.int (x.toUInt32 % 65536).toInt32 :: rest) σ) : gG l v ly N me n Qf pc L (.int x :: rest) σ :=
  fun p e s m args below meth c A hC ls H locs hl hP hS => lv_i2c hC.1 hC.2.1 d rfl (k p e s m args below meth c A hC ls H locs hl hP hS)
theorem g_lushr {x : Int64} {y : Int32} (d : decode me.2.1 pc = .ok (.lushr, 1))  (k : gG l v ly N me n Qf (pc + 1) L (.long (jU x y) :: rest) σ) : gG l v ly N me n Qf pc L (.int y :: .long x :: rest) σ :=
  fun p e s m args below meth c A hC ls H locs hl hP hS => lv_lushr hC.1 hC.2.1 d rfl (k p e s m args below meth c A hC ls H locs hl hP hS)
theorem g_lshl {x : Int64} {y : Int32} (d : decode me.2.1 pc = .ok (.lshl, 1))  (k : gG l v ly N me n Qf (pc + 1) L (.long (jS x y) :: rest) σ) : gG l v ly N me n Qf pc L (.int y :: .long x :: rest) σ :=
  fun p e s m args below meth c A hC ls H locs hl hP hS => lv_lshl hC.1 hC.2.1 d rfl (k p e s m args below meth c A hC ls H locs hl hP hS)
theorem g_lshr {x : Int64} {y : Int32} (d : decode me.2.1 pc = .ok (.lshr, 1))  (k : gG l v ly N me n Qf (pc + 1) L (.long (jA x y) :: rest) σ) : gG l v ly N me n Qf pc L (.int y :: .long x :: rest) σ :=
  fun p e s m args below meth c A hC ls H locs hl hP hS => lv_lshr hC.1 hC.2.1 d rfl (k p e s m args below meth c A hC ls H locs hl hP hS)
theorem g_lcmp {x y : Int64} (d : decode me.2.1 pc = .ok (.lcmp, 1))  (k : gG l v ly N me n Qf (pc + 1) L (.int (lg_cmp x y) :: rest) σ) : gG l v ly N me n Qf pc L (.long y :: .long x :: rest) σ :=
  fun p e s m args below meth c A hC ls H locs hl hP hS => W.lcmp hC.1 hC.2.1 d  (k p e s m args below meth c A hC ls H locs hl hP hS)
theorem g_dup {a : Value} (d : decode me.2.1 pc = .ok (.dup, 1)) (ha : a.category = 1) (k : gG l v ly N me n Qf (pc + 1) L (a :: a :: rest) σ) : gG l v ly N me n Qf pc L (a :: rest) σ :=
  fun p e s m args below meth c A hC ls H locs hl hP hS => lv_dup hC.1 hC.2.1 d ha (k p e s m args below meth c A hC ls H locs hl hP hS)
theorem g_pop {a : Value} (d : decode me.2.1 pc = .ok (.pop, 1)) (ha : a.category = 1) (k : gG l v ly N me n Qf (pc + 1) L (rest) σ) : gG l v ly N me n Qf pc L (a :: rest) σ :=
  fun p e s m args below meth c A hC ls H locs hl hP hS => lv_pop hC.1 hC.2.1 d ha (k p e s m args below meth c A hC ls H locs hl hP hS)
theorem g_dup2_11 {a b : Value} (d : decode me.2.1 pc = .ok (.dup2, 1)) (ha : a.category = 1) (hb : b.category = 1) (k : gG l v ly N me n Qf (pc + 1) L (a :: b :: a :: b :: rest) σ) : gG l v ly N me n Qf pc L (a :: b :: rest) σ :=
  fun p e s m args below meth c A hC ls H locs hl hP hS => lv_dup2_11 hC.1 hC.2.1 d ha hb (k p e s m args below meth c A hC ls H locs hl hP hS)
theorem g_dup2_2 {a : Value} (d : decode me.2.1 pc = .ok (.dup2, 1)) (ha : a.category = 2) (k : gG l v ly N me n Qf (pc + 1) L (a :: a :: rest) σ) : gG l v ly N me n Qf pc L (a :: rest) σ :=
  fun p e s m args below meth c A hC ls H locs hl hP hS => lv_dup2_2 hC.1 hC.2.1 d ha (k p e s m args below meth c A hC ls H locs hl hP hS)
theorem g_pop2_2 {a : Value} (d : decode me.2.1 pc = .ok (.pop2, 1)) (ha : a.category = 2) (k : gG l v ly N me n Qf (pc + 1) L (rest) σ) : gG l v ly N me n Qf pc L (a :: rest) σ :=
  fun p e s m args below meth c A hC ls H locs hl hP hS => lv_pop2_2 hC.1 hC.2.1 d ha (k p e s m args below meth c A hC ls H locs hl hP hS)
theorem g_dup_x1 {a b : Value} (d : decode me.2.1 pc = .ok (.dup_x1, 1)) (ha : a.category = 1) (hb : b.category = 1) (k : gG l v ly N me n Qf (pc + 1) L (a :: b :: a :: rest) σ) : gG l v ly N me n Qf pc L (a :: b :: rest) σ :=
  fun p e s m args below meth c A hC ls H locs hl hP hS => lv_dup_x1 hC.1 hC.2.1 d ha hb (k p e s m args below meth c A hC ls H locs hl hP hS)
theorem g_if_eq {x : Int32} {off : Int} {tgt : Nat} (d : decode me.2.1 pc = .ok (.ifCond .eq off, 3)) (ht : (pc : Int) + off = (tgt : Int)) (kt : x = 0 → gG l v ly N me n Qf tgt L rest σ) (kf : ¬ x = 0 → gG l v ly N me n Qf (pc + 3) L rest σ) : gG l v ly N me n Qf pc L (.int x :: rest) σ :=
  fun p e s m args below meth c A hC ls H locs hl hP hS => lv_if_eq hC.1 hC.2.1 d ht (fun h => kt h p e s m args below meth c A hC ls H locs hl hP hS) (fun h => kf h p e s m args below meth c A hC ls H locs hl hP hS)
theorem g_icmp_eq {x y : Int32} {off : Int} {tgt : Nat} (d : decode me.2.1 pc = .ok (.if_icmp .eq off, 3)) (ht : (pc : Int) + off = (tgt : Int)) (kt : x = y → gG l v ly N me n Qf tgt L rest σ) (kf : ¬ x = y → gG l v ly N me n Qf (pc + 3) L rest σ) : gG l v ly N me n Qf pc L (.int y :: .int x :: rest) σ :=
  fun p e s m args below meth c A hC ls H locs hl hP hS => lv_icmp_eq hC.1 hC.2.1 d ht (fun h => kt h p e s m args below meth c A hC ls H locs hl hP hS) (fun h => kf h p e s m args below meth c A hC ls H locs hl hP hS)
theorem g_if_ne {x : Int32} {off : Int} {tgt : Nat} (d : decode me.2.1 pc = .ok (.ifCond .ne off, 3)) (ht : (pc : Int) + off = (tgt : Int)) (kt : ¬ x = 0 → gG l v ly N me n Qf tgt L rest σ) (kf : x = 0 → gG l v ly N me n Qf (pc + 3) L rest σ) : gG l v ly N me n Qf pc L (.int x :: rest) σ :=
  fun p e s m args below meth c A hC ls H locs hl hP hS => lv_if_ne hC.1 hC.2.1 d ht (fun h => kt h p e s m args below meth c A hC ls H locs hl hP hS) (fun h => kf h p e s m args below meth c A hC ls H locs hl hP hS)
theorem g_icmp_ne {x y : Int32} {off : Int} {tgt : Nat} (d : decode me.2.1 pc = .ok (.if_icmp .ne off, 3)) (ht : (pc : Int) + off = (tgt : Int)) (kt : ¬ x = y → gG l v ly N me n Qf tgt L rest σ) (kf : x = y → gG l v ly N me n Qf (pc + 3) L rest σ) : gG l v ly N me n Qf pc L (.int y :: .int x :: rest) σ :=
  fun p e s m args below meth c A hC ls H locs hl hP hS => lv_icmp_ne hC.1 hC.2.1 d ht (fun h => kt h p e s m args below meth c A hC ls H locs hl hP hS) (fun h => kf h p e s m args below meth c A hC ls H locs hl hP hS)
theorem g_if_lt {x : Int32} {off : Int} {tgt : Nat} (d : decode me.2.1 pc = .ok (.ifCond .lt off, 3)) (ht : (pc : Int) + off = (tgt : Int)) (kt : x < 0 → gG l v ly N me n Qf tgt L rest σ) (kf : ¬ x < 0 → gG l v ly N me n Qf (pc + 3) L rest σ) : gG l v ly N me n Qf pc L (.int x :: rest) σ :=
  fun p e s m args below meth c A hC ls H locs hl hP hS => lv_if_lt hC.1 hC.2.1 d ht (fun h => kt h p e s m args below meth c A hC ls H locs hl hP hS) (fun h => kf h p e s m args below meth c A hC ls H locs hl hP hS)
theorem g_icmp_lt {x y : Int32} {off : Int} {tgt : Nat} (d : decode me.2.1 pc = .ok (.if_icmp .lt off, 3)) (ht : (pc : Int) + off = (tgt : Int)) (kt : x < y → gG l v ly N me n Qf tgt L rest σ) (kf : ¬ x < y → gG l v ly N me n Qf (pc + 3) L rest σ) : gG l v ly N me n Qf pc L (.int y :: .int x :: rest) σ :=
  fun p e s m args below meth c A hC ls H locs hl hP hS => lv_icmp_lt hC.1 hC.2.1 d ht (fun h => kt h p e s m args below meth c A hC ls H locs hl hP hS) (fun h => kf h p e s m args below meth c A hC ls H locs hl hP hS)
theorem g_if_ge {x : Int32} {off : Int} {tgt : Nat} (d : decode me.2.1 pc = .ok (.ifCond .ge off, 3)) (ht : (pc : Int) + off = (tgt : Int)) (kt : 0 ≤ x → gG l v ly N me n Qf tgt L rest σ) (kf : ¬ 0 ≤ x → gG l v ly N me n Qf (pc + 3) L rest σ) : gG l v ly N me n Qf pc L (.int x :: rest) σ :=
  fun p e s m args below meth c A hC ls H locs hl hP hS => lv_if_ge hC.1 hC.2.1 d ht (fun h => kt h p e s m args below meth c A hC ls H locs hl hP hS) (fun h => kf h p e s m args below meth c A hC ls H locs hl hP hS)
theorem g_icmp_ge {x y : Int32} {off : Int} {tgt : Nat} (d : decode me.2.1 pc = .ok (.if_icmp .ge off, 3)) (ht : (pc : Int) + off = (tgt : Int)) (kt : y ≤ x → gG l v ly N me n Qf tgt L rest σ) (kf : ¬ y ≤ x → gG l v ly N me n Qf (pc + 3) L rest σ) : gG l v ly N me n Qf pc L (.int y :: .int x :: rest) σ :=
  fun p e s m args below meth c A hC ls H locs hl hP hS => lv_icmp_ge hC.1 hC.2.1 d ht (fun h => kt h p e s m args below meth c A hC ls H locs hl hP hS) (fun h => kf h p e s m args below meth c A hC ls H locs hl hP hS)
theorem g_if_gt {x : Int32} {off : Int} {tgt : Nat} (d : decode me.2.1 pc = .ok (.ifCond .gt off, 3)) (ht : (pc : Int) + off = (tgt : Int)) (kt : 0 < x → gG l v ly N me n Qf tgt L rest σ) (kf : ¬ 0 < x → gG l v ly N me n Qf (pc + 3) L rest σ) : gG l v ly N me n Qf pc L (.int x :: rest) σ :=
  fun p e s m args below meth c A hC ls H locs hl hP hS => lv_if_gt hC.1 hC.2.1 d ht (fun h => kt h p e s m args below meth c A hC ls H locs hl hP hS) (fun h => kf h p e s m args below meth c A hC ls H locs hl hP hS)
theorem g_icmp_gt {x y : Int32} {off : Int} {tgt : Nat} (d : decode me.2.1 pc = .ok (.if_icmp .gt off, 3)) (ht : (pc : Int) + off = (tgt : Int)) (kt : y < x → gG l v ly N me n Qf tgt L rest σ) (kf : ¬ y < x → gG l v ly N me n Qf (pc + 3) L rest σ) : gG l v ly N me n Qf pc L (.int y :: .int x :: rest) σ :=
  fun p e s m args below meth c A hC ls H locs hl hP hS => lv_icmp_gt hC.1 hC.2.1 d ht (fun h => kt h p e s m args below meth c A hC ls H locs hl hP hS) (fun h => kf h p e s m args below meth c A hC ls H locs hl hP hS)
theorem g_if_le {x : Int32} {off : Int} {tgt : Nat} (d : decode me.2.1 pc = .ok (.ifCond .le off, 3)) (ht : (pc : Int) + off = (tgt : Int)) (kt : x ≤ 0 → gG l v ly N me n Qf tgt L rest σ) (kf : ¬ x ≤ 0 → gG l v ly N me n Qf (pc + 3) L rest σ) : gG l v ly N me n Qf pc L (.int x :: rest) σ :=
  fun p e s m args below meth c A hC ls H locs hl hP hS => lv_if_le hC.1 hC.2.1 d ht (fun h => kt h p e s m args below meth c A hC ls H locs hl hP hS) (fun h => kf h p e s m args below meth c A hC ls H locs hl hP hS)
theorem g_icmp_le {x y : Int32} {off : Int} {tgt : Nat} (d : decode me.2.1 pc = .ok (.if_icmp .le off, 3)) (ht : (pc : Int) + off = (tgt : Int)) (kt : x ≤ y → gG l v ly N me n Qf tgt L rest σ) (kf : ¬ x ≤ y → gG l v ly N me n Qf (pc + 3) L rest σ) : gG l v ly N me n Qf pc L (.int y :: .int x :: rest) σ :=
  fun p e s m args below meth c A hC ls H locs hl hP hS => lv_icmp_le hC.1 hC.2.1 d ht (fun h => kt h p e s m args below meth c A hC ls H locs hl hP hS) (fun h => kf h p e s m args below meth c A hC ls H locs hl hP hS)
theorem g_goto {off : Int} {tgt : Nat} (d : decode me.2.1 pc = .ok (.goto off, 3)) (ht : (pc : Int) + off = (tgt : Int)) (k : gG l v ly N me n Qf tgt L st σ) : gG l v ly N me n Qf pc L st σ :=
  fun p e s m args below meth c A hC ls H locs hl hP hS => lv_goto hC.1 hC.2.1 d ht (k p e s m args below meth c A hC ls H locs hl hP hS)
theorem g_ldc2 {index : Nat} {x : Int64} (d : decode me.2.1 pc = .ok (.ldc2_w index, 3)) (hw : Cond.constantLong me.1.cls index x ∈ gw) (k : gG l v ly N me n Qf (pc + 3) L (.long x :: rest) σ) : gG l v ly N me n Qf pc L rest σ :=
  fun p e s m args below meth c A hC ls H locs hl hP hS => lv_ldc2 hC.1 hC.2.1 hC.2.2.2.1 (hC.2.2.2.2.1 _ hw) d (k p e s m args below meth c A hC ls H locs hl hP hS)
theorem g_ldc {index : Nat} {x : Int32} (d : decode me.2.1 pc = .ok (.ldc index, 2)) (hw : Cond.constant me.1.cls index x ∈ gw) (k : gG l v ly N me n Qf (pc + 2) L (.int x :: rest) σ) : gG l v ly N me n Qf pc L rest σ :=
  fun p e s m args below meth c A hC ls H locs hl hP hS => lv_ldc hC.1 hC.2.1 hC.2.2.2.1 (hC.2.2.2.2.1 _ hw) d (k p e s m args below meth c A hC ls H locs hl hP hS)
theorem g_iald {q b len : Nat} {i : Int32} (d : decode me.2.1 pc = .ok (.iaload, 1)) (hq : q < N) (hy : ly q = .inl (0, len, b)) {x : Int32} (hi : vp_in i len) (hx : σ.1 q i.toNatClampNeg = x) (k : gG l v ly N me n Qf (pc + 1) L (.int x :: rest) σ) : gG l v ly N me n Qf pc L (.int i :: .ref (v.2.2 q) :: rest) σ :=
  fun p e s m args below meth c A hC ls H locs hl hP hS => va_iald hC.1 hC.2.1 hC.2.2.2.2.2.1.1 hP q 0 (gs_ai hq hy) rfl hi d (hx ▸ k p e s m args below meth c A hC ls H locs hl hP hS)
theorem g_lald {q b len : Nat} {i : Int32} (d : decode me.2.1 pc = .ok (.laload, 1)) (hq : q < N) (hy : ly q = .inl (1, len, b)) {x : Int64} (hi : vp_in i len) (hx : σ.2.1 q i.toNatClampNeg = x) (k : gG l v ly N me n Qf (pc + 1) L (.long x :: rest) σ) : gG l v ly N me n Qf pc L (.int i :: .ref (v.2.2 q) :: rest) σ :=
  fun p e s m args below meth c A hC ls H locs hl hP hS => va_lald hC.1 hC.2.1 hC.2.2.2.2.2.1.1 hP q 1 (gs_al hq hy) rfl hi d (hx ▸ k p e s m args below meth c A hC ls H locs hl hP hS)
theorem g_zald {q b len : Nat} {i : Int32} (d : decode me.2.1 pc = .ok (.baload, 1)) (hq : q < N) (hy : ly q = .inl (2, len, b)) {x : Int32} (hi : vp_in i len) (hx : σ.1 q i.toNatClampNeg = x) (k : gG l v ly N me n Qf (pc + 1) L (.int x :: rest) σ) : gG l v ly N me n Qf pc L (.int i :: .ref (v.2.2 q) :: rest) σ :=
  fun p e s m args below meth c A hC ls H locs hl hP hS => va_zald hC.1 hC.2.1 hC.2.2.2.2.2.1.1 hP q 2 (gs_az hq hy) rfl hi d (hx ▸ k p e s m args below meth c A hC ls H locs hl hP hS)
theorem g_cald {q b len : Nat} {i : Int32} (d : decode me.2.1 pc = .ok (.caload, 1)) (hq : q < N) (hy : ly q = .inl (3, len, b)) {x : Int32} (hi : vp_in i len) (hx : σ.1 q i.toNatClampNeg = x) (k : gG l v ly N me n Qf (pc + 1) L (.int x :: rest) σ) : gG l v ly N me n Qf pc L (.int i :: .ref (v.2.2 q) :: rest) σ :=
  fun p e s m args below meth c A hC ls H locs hl hP hS => va_cald hC.1 hC.2.1 hC.2.2.2.2.2.1.1 hP q 3 (gs_ac hq hy) rfl hi d (hx ▸ k p e s m args below meth c A hC ls H locs hl hP hS)
theorem g_iast {q b len : Nat} {i x : Int32} (d : decode me.2.1 pc = .ok (.iastore, 1)) (hq : q < N) (hy : ly q = .inl (0, len, b)) (hi : vp_in i len) (k : gG l v ly N me n Qf (pc + 1) L rest (gs_pI σ q i.toNatClampNeg x)) : gG l v ly N me n Qf pc L (.int x :: .int i :: .ref (v.2.2 q) :: rest) σ :=
  fun p e s m args below meth c A hC ls H locs hl hP hS => va_iast hC.1 hC.2.1 hC.2.2.2.2.2.1.1 hP (hC.2.2.2.2.2.2.1 σ) hS q 0 (gs_ai hq hy) rfl hi d (fun H locs hP' hD' hS => by rw [gs_set_A hy (by decide) (by decide)] at hP'; exact k p e s m args below meth c A hC ls H locs hl hP' hS)
theorem g_zast {q b len : Nat} {i x : Int32} (d : decode me.2.1 pc = .ok (.bastore, 1)) (hq : q < N) (hy : ly q = .inl (2, len, b)) (hi : vp_in i len) (k : gG l v ly N me n Qf (pc + 1) L rest (gs_pI σ q i.toNatClampNeg (vp_nar .boolean x))) : gG l v ly N me n Qf pc L (.int x :: .int i :: .ref (v.2.2 q) :: rest) σ :=
  fun p e s m args below meth c A hC ls H locs hl hP hS => va_zast hC.1 hC.2.1 hC.2.2.2.2.2.1.1 hP (hC.2.2.2.2.2.2.1 σ) hS q 2 (gs_az hq hy) rfl hi d (fun H locs hP' hD' hS => by rw [gs_set_A hy (by decide) (by decide)] at hP'; exact k p e s m args below meth c A hC ls H locs hl hP' hS)
theorem g_cast {q b len : Nat} {i x : Int32} (d : decode me.2.1 pc = .ok (.castore, 1)) (hq : q < N) (hy : ly q = .inl (3, len, b)) (hi : vp_in i len) (k : gG l v ly N me n Qf (pc + 1) L rest (gs_pI σ q i.toNatClampNeg (vp_nar .char x))) : gG l v ly N me n Qf pc L (.int x :: .int i :: .ref (v.2.2 q) :: rest) σ :=
  fun p e s m args below meth c A hC ls H locs hl hP hS => va_cast hC.1 hC.2.1 hC.2.2.2.2.2.1.1 hP (hC.2.2.2.2.2.2.1 σ) hS q 3 (gs_ac hq hy) rfl hi d (fun H locs hP' hD' hS => by rw [gs_set_A hy (by decide) (by decide)] at hP'; exact k p e s m args below meth c A hC ls H locs hl hP' hS)
theorem g_last {q b len : Nat} {i : Int32} {x : Int64} (d : decode me.2.1 pc = .ok (.lastore, 1)) (hq : q < N) (hy : ly q = .inl (1, len, b)) (hi : vp_in i len) (k : gG l v ly N me n Qf (pc + 1) L rest (gs_pL σ q i.toNatClampNeg x)) : gG l v ly N me n Qf pc L (.long x :: .int i :: .ref (v.2.2 q) :: rest) σ :=
  fun p e s m args below meth c A hC ls H locs hl hP hS => va_last hC.1 hC.2.1 hC.2.2.2.2.2.1.1 hP (hC.2.2.2.2.2.2.1 σ) hS q 1 (gs_al hq hy) rfl hi d (fun H locs hP' hD' hS => by rw [gs_set_B hy] at hP'; exact k p e s m args below meth c A hC ls H locs hl hP' hS)
theorem g_aald {q b len : Nat} {i : Int32} (d : decode me.2.1 pc = .ok (.aaload, 1)) (hq : q < N) (hy : ly q = .inl (4, len, b)) (hi : vp_in i len) (k : gG l v ly N me n Qf (pc + 1) L (.ref (v.2.2 (b + i.toNatClampNeg)) :: rest) σ) : gG l v ly N me n Qf pc L (.int i :: .ref (v.2.2 q) :: rest) σ := by
  intro p e s m args below meth c A hC ls H locs hl hP hS
  have hlt : i.toNatClampNeg < len := Nat.not_le.mp fun q => hi (Or.inr q)
  have hc := hP q _ (gs_aq hq hy)
  exact W.aald (v := .ref (v.2.2 (b + i.toNatClampNeg))) (ty := .array .long) hC.1 hC.2.1 hc ((hC.2.2.2.2.2.1.1.2 4 _ rfl).1 len (fun j => va_rf (some (v.2.2 (b + j))))) rfl (fun q => by cases q) (by show ¬ (i < 0 ∨ (arrV _ _ _).slots.size ≤ _); rw [arrV_size]; exact hi) (by show (arrV _ _ _).slots[_]? = _; rw [arrV_read _ _ hlt]; rfl) rfl rfl d (k p e s m args below meth c A hC ls H locs hl hP hS)
theorem g_alen {q t b len : Nat} {x : Int32} (d : decode me.2.1 pc = .ok (.arraylength, 1)) (hq : q < N) (hy : ly q = .inl (t, len, b)) (ht : t < 5) (hx : Int32.ofNat len = x) (k : gG l v ly N me n Qf (pc + 1) L (.int x :: rest) σ) : gG l v ly N me n Qf pc L (.ref (v.2.2 q) :: rest) σ := by
  intro p e s m args below meth c A hC ls H locs hl hP hS
  have hg : (gs_w v ly N σ)[q]? = some (v.2.2 q, .inl (gs_a v σ q t len b)) := by rw [gs_w_get hq, gs_e_arr hy]
  have hc : (gs_a v σ q t len b).1 = v.2.1 t ∧ (gs_a v σ q t len b).2.1 = len := by
    unfold gs_a
    split <;> exact ⟨rfl, rfl⟩
  have hty : (gs_t v)[t]? = some ((gs_a v σ q t len b).1, gs_ty t) := by
    rw [hc.1]
    rcases (show t = 0 ∨ t = 1 ∨ t = 2 ∨ t = 3 ∨ t = 4 by omega) with h | h | h | h | h <;> subst h <;> rfl
  exact va_alen (cA := (gs_a v σ q t len b).1) (x := (gs_a v σ q t len b).2) hC.1 hC.2.1 hC.2.2.2.2.2.1.1 hP q t hg hty (show Int32.ofNat (gs_a v σ q t len b).2.1 = x by rw [hc.2]; exact hx) d (k p e s m args below meth c A hC ls H locs hl hP hS)

-- a field's words: at this pool number of 'own' stands field j of class ci
def gF (own : String) (index ci j : Nat) : Prop := ∃ (C : String) (T : u_T) (M : Nat), vwCl[ci]? = some (C, T, M) ∧ j < M ∧ (∀ w ∈ u_ws C T M, w ∈ gw) ∧ Cond.fieldLink own index C (T j).2.1 (T j).2.2.1 ∈ gw ∧ (T j).1 = C
def gFp (own : String) (index ci j : Nat) (ty : FieldType) : Prop := ∃ (C : String) (T : u_T) (M : Nat) (ty0 : Nat → FieldType), vwCl[ci]? = some (C, T, M) ∧ j < M ∧ (∀ w ∈ u_ws C T M, w ∈ gw) ∧ Cond.fieldLink own index C (T j).2.1 (T j).2.2.1 ∈ gw ∧ (T j).1 = C ∧ (∀ k, k < M → parseFieldDescriptor (T k).2.2.1 = some (ty0 k)) ∧ (∀ a, a < M → ∀ b, b < M → a ≠ b → (T a).2.1 ≠ (T b).2.1) ∧ (T j).2.2.2 = false ∧ parseFieldDescriptor (T j).2.2.1 = some ty
theorem g_getV {q ci j fd index : Nat} {fds : List Nat} {x : Value} (d : decode me.2.1 pc = .ok (.getfield index, 3)) (hF : gF me.1.cls index ci j) (hq : q < N) (hy : ly q = .inr (ci, fds)) (hj : fds[j]? = some fd) (hx : gs_f v σ q j fd = x) (k : gG l v ly N me n Qf (pc + 3) L (x :: rest) σ) : gG l v ly N me n Qf pc L (.ref (v.2.2 q) :: rest) σ := by
  intro p e s m args below meth c A hC ls H locs hl hP hS
  obtain ⟨C, T, M, h1, h2, h3, h4, h5⟩ := hF
  exact va_get (ref := C) hC.1 hC.2.1 hC.2.2.2.2.1 h3 hC.2.2.2.1 hC.2.2.2.2.2.1.1 hP q (gs_ob hq hy) h1 j h2 (hC.2.2.2.2.1 _ h4) (fun x hx => by rw [h5] at hx; exact hx) (by rw [gs_fs_get fds 0 j fd hj, Nat.zero_add, hx]) d (k p e s m args below meth c A hC ls H locs hl hP hS)
theorem g_putI {q ci j index : Nat} {fds : List Nat} {ty : FieldType} {x : Int32} (d : decode me.2.1 pc = .ok (.putfield index, 3)) (hF : gFp me.1.cls index ci j ty) (hq : q < N) (hy : ly q = .inr (ci, fds)) (hj : fds[j]? = some 0) (hn : narrow ty (.int x) = .int x ∧ fits ty (.int x) = true) (k : gG l v ly N me n Qf (pc + 3) L rest (gs_pI σ q j x)) : gG l v ly N me n Qf pc L (.int x :: .ref (v.2.2 q) :: rest) σ := by
  intro p e s m args below meth c A hC ls H locs hl hP hS
  obtain ⟨C, T, M, ty0, h1, h2, h3, h4, h5, h6, h7, h8, h9⟩ := hF
  exact va_put (ref := C) hC.1 hC.2.1 hC.2.2.2.2.1 h3 ty0 h6 h7 hC.2.2.2.1 hC.2.2.2.2.2.1.1 hP (hC.2.2.2.2.2.2.1 σ) hS q (gs_ob hq hy) h1 j h2 (hC.2.2.2.2.1 _ h4) (fun x hx => by rw [h5] at hx; exact hx) h8 h9 hn.1 hn.2 (by rw [gs_fs_len]; exact (List.getElem?_eq_some_iff.mp hj).1) d (fun H locs hP' hD' hS => by rw [gs_set_I hy hj] at hP'; exact k p e s m args below meth c A hC ls H locs hl hP' hS)
theorem g_putL {q ci j index : Nat} {fds : List Nat} {x : Int64} (d : decode me.2.1 pc = .ok (.putfield index, 3)) (hF : gFp me.1.cls index ci j .long) (hq : q < N) (hy : ly q = .inr (ci, fds)) (hj : fds[j]? = some 1) (k : gG l v ly N me n Qf (pc + 3) L rest (gs_pL σ q j x)) : gG l v ly N me n Qf pc L (.long x :: .ref (v.2.2 q) :: rest) σ := by
  intro p e s m args below meth c A hC ls H locs hl hP hS
  obtain ⟨C, T, M, ty0, h1, h2, h3, h4, h5, h6, h7, h8, h9⟩ := hF
  exact va_put (ref := C) hC.1 hC.2.1 hC.2.2.2.2.1 h3 ty0 h6 h7 hC.2.2.2.1 hC.2.2.2.2.2.1.1 hP (hC.2.2.2.2.2.2.1 σ) hS q (gs_ob hq hy) h1 j h2 (hC.2.2.2.2.1 _ h4) (fun x hx => by rw [h5] at hx; exact hx) h8 h9 rfl rfl (by rw [gs_fs_len]; exact (List.getElem?_eq_some_iff.mp hj).1) d (fun H locs hP' hD' hS => by rw [gs_set_J hy hj] at hP'; exact k p e s m args below meth c A hC ls H locs hl hP' hS)
theorem g_putR {q ci j index y : Nat} {fds : List Nat} {ty : FieldType} (d : decode me.2.1 pc = .ok (.putfield index, 3)) (hF : gFp me.1.cls index ci j (.array ty)) (hq : q < N) (hy : ly q = .inr (ci, fds)) (hj : fds[j]? = some 2) (k : gG l v ly N me n Qf (pc + 3) L rest (gs_pR σ q j y)) : gG l v ly N me n Qf pc L (.ref (v.2.2 y) :: .ref (v.2.2 q) :: rest) σ := by
  intro p e s m args below meth c A hC ls H locs hl hP hS
  obtain ⟨C, T, M, ty0, h1, h2, h3, h4, h5, h6, h7, h8, h9⟩ := hF
  exact va_put (ref := C) hC.1 hC.2.1 hC.2.2.2.2.1 h3 ty0 h6 h7 hC.2.2.2.1 hC.2.2.2.2.2.1.1 hP (hC.2.2.2.2.2.2.1 σ) hS q (gs_ob hq hy) h1 j h2 (hC.2.2.2.2.1 _ h4) (fun x hx => by rw [h5] at hx; exact hx) h8 h9 rfl rfl (by rw [gs_fs_len]; exact (List.getElem?_eq_some_iff.mp hj).1) d (fun H locs hP' hD' hS => by rw [gs_set_R hy hj] at hP'; exact k p e s m args below meth c A hC ls H locs hl hP' hS)
-- ends
theorem g_iret {post : Int32 → gs_S → Prop} {x : Int32} (d : decode me.2.1 pc = .ok (.ireturn, 1)) (hr : me.2.2.2 = some .int) (h : post x σ) : gG l v ly N me n (qI v ly N post) pc L [.int x] σ :=
  fun p e s m args below meth c A hC ls H locs hl hP hS => W.iret hC.1 hC.2.1 (by rw [hC.2.2.2.2.2.2.2.2.1, hr]) (fun t ht hW => ⟨⟨x, σ, rfl, h, by show va_P _ _ _ t.heap; rw [ht]; exact hP⟩, hS.F ht⟩) hS.2.2 d hC.2.2.2.2.2.2.2.2.2
theorem g_zret {post : Int32 → gs_S → Prop} {x : Int32} {ty : FieldType} (d : decode me.2.1 pc = .ok (.ireturn, 1)) (hr : me.2.2.2 = some ty) (hn : narrow ty (.int x) = .int x) (h : post x σ) : gG l v ly N me n (qI v ly N post) pc L [.int x] σ :=
  fun p e s m args below meth c A hC ls H locs hl hP hS => W.zret hC.1 hC.2.1 (by rw [hC.2.2.2.2.2.2.2.2.1, hr]) hn (fun t ht hW => ⟨⟨x, σ, rfl, h, by show va_P _ _ _ t.heap; rw [ht]; exact hP⟩, hS.F ht⟩) hS.2.2 d hC.2.2.2.2.2.2.2.2.2
theorem g_lret {post : Int64 → gs_S → Prop} {x : Int64} (d : decode me.2.1 pc = .ok (.lreturn, 1)) (hr : me.2.2.2 = some .long) (h : post x σ) : gG l v ly N me n (qL v ly N post) pc L [.long x] σ :=
  fun p e s m args below meth c A hC ls H locs hl hP hS => W.lret hC.1 hC.2.1 (by rw [hC.2.2.2.2.2.2.2.2.1, hr]) (fun t ht hW => ⟨⟨x, σ, rfl, h, by show va_P _ _ _ t.heap; rw [ht]; exact hP⟩, hS.F ht⟩) hS.2.2 d hC.2.2.2.2.2.2.2.2.2
theorem g_vret {post : gs_S → Prop} (d : decode me.2.1 pc = .ok (.return_, 1)) (hr : me.2.2.2 = none) (h : post σ) : gG l v ly N me n (qV v ly N post) pc L [] σ :=
  fun p e s m args below meth c A hC ls H locs hl hP hS => W.vret hC.1 hC.2.1 (by rw [hC.2.2.2.2.2.2.2.2.1, hr]) (fun t ht hW => ⟨⟨σ, rfl, h, by show va_P _ _ _ t.heap; rw [ht]; exact hP⟩, hS.F ht⟩) hS.2.2 d hC.2.2.2.2.2.2.2.2.2
-- calls
def gY (me : gs_M) (a : Nat) : Prop := gs_h me ∈ gw ∧ Cond.initialized me.1.cls ∈ gw ∧ (me.1.cls ≠ "java/lang/invoke/MethodHandle" ∧ me.1.cls ≠ "java/lang/invoke/VarHandle" ∧ (parseMethodDescriptor me.1.desc).map (fun d => d.parameters.length) = some a) ∧ me.2.2.1 ≤ 21
theorem g_good {me : gs_M} (h : gs_h me ∈ gw) : GoodIn gw (gs_h me :: gw) := fun w hw => by
  rcases List.mem_cons.mp hw with rfl | hw
  · exact ⟨h, gw_good _ h⟩
  · exact ⟨hw, gw_good _ hw⟩
theorem g_B {me' : gs_M} {a index : Nat} {s : State} {args : Array Value} (hY : gY me' a) (hts : ∀ w ∈ gw, w.before args s = true) (hL : Cond.methodLink me.1.cls index me'.1 ∈ gw) : CallB (gr_r (n + 1)) s args me.1.cls index me'.1 me'.2.1 me'.2.2.1 me'.2.2.2 (gs_h me' :: gw) (gr_r n) 0 0 a :=
  callB_of a hts (g_good hY.1) rfl rfl rfl (hts _ hY.2.1) (hts _ hL) hY.2.2.1 ⟨Nat.le_refl _, by have := hY.2.2.2; simp only [gr_r]; omega⟩
theorem g_N {me' : gs_M} {a index : Nat} {host : String} {s : State} {args : Array Value} (hY : gY me' a) (hts : ∀ w ∈ gw, w.before args s = true) (hL : va_Nw (.methodLinkNest me.1.cls index me'.1 host) s) : va_CN (gr_r (n + 1)) s args me.1.cls index me'.1 host me'.2.1 me'.2.2.1 me'.2.2.2 (gs_h me' :: gw) (gr_r n) 0 0 a :=
  va_cnB a hts (g_good hY.1) rfl rfl rfl hL (hts _ hY.2.1) hY.2.2.1 ⟨Nat.le_refl _, by have := hY.2.2.2; simp only [gr_r]; omega⟩
theorem g_blind {av : List Value} {sz : Nat} : FrameBlind (va_Pc av (gs_P v ly N σ sz)) := fun a U g mk q => by
  obtain ⟨q0, q1, qP, qK, qD⟩ := q
  exact ⟨q0, q1, qP, gs_K_same rfl qK, qD⟩
theorem g_pre {A : Nat → Prop} {s : State} {H : Heap} {av : List Value} (hK : gs_K v s) (hP : va_P v.1 vwCl (gs_w v ly N σ) H) (hD : va_D A (gs_w v ly N σ)) : ∀ U : State, U.heap = H → s.WarmedH U.vm → va_Pc av (gs_P v ly N σ H.size) av.toArray U :=
  fun U hU hW => ⟨rfl, by rw [hU], by rw [hU]; exact hP, gs_K_warm hW hK, hD.weaken (fun _ _ _ _ => trivial)⟩
theorem g_free {A : Nat → Prop} {H0 H : Heap} {locs : List Loc} (hD : va_D A (gs_w v ly N σ)) (hA : ∀ q, H0.size ≤ q → A q) (hS : va_S A H0 H locs) : ∀ q, va_A (gs_w v ly N σ) H.size q → A q := fun q h => by
  rcases h with ⟨k, e, h⟩ | h
  · exact hD.2 k _ h
  · exact hA q (Nat.le_trans hS.1 h)

theorem g_callSi {me' : gs_M} {index a : Nat} {av : List Value} {post : Int32 → gs_S → Prop} (d : decode me.2.1 pc = .ok (.invokestatic index, 3)) (hY : gY me' a) (hL : Cond.methodLink me.1.cls index me'.1 ∈ gw) (hI : Cond.static me'.1 ∈ gw) (ha : av.length = a) (h8 : (rest.map fun x => x.category).sum ≤ 8) (hst : st = av.reverse ++ rest) (hM : gM l v ly N me' n av σ (qI v ly N post)) (k : ∀ (r : Int32) (σ' : gs_S), post r σ' → gG l v ly N me n Qf (pc + 3) L (.int r :: rest) σ') : gG l v ly N me n Qf pc L st σ := by
  intro p e s m args below meth c A hC ls H locs hl hP hS
  have hD := hC.2.2.2.2.2.2.1 σ
  have hF := g_free hD hC.2.2.2.2.2.2.2.1 hS
  have hts := hC.2.2.2.2.1
  refine va_calli (va_runS (As := av) (rest := rest) ⟨hC.1, hC.2.1, hC.2.2.1, hC.2.2.2.1, hts⟩ (hM H.size) ⟨g_B hY hts hL, hts _ hI⟩ ⟨g_blind, g_pre hC.2.2.2.2.2.1 hP hD⟩ rfl ha hl.1 hst (lv_room h8) d ⟨Nat.le_refl _, Nat.le_refl _⟩) hS (fun q _ h => hF q h) hF (fun r u t H1 locs1 ht hvm hp hB hz1 hk1 hS1 => ?_)
  rw [ht] at hB
  exact k r u hp p e s m args below meth c A hC ls H1 locs1 hl hB hS1
theorem g_callSl {me' : gs_M} {index a : Nat} {av : List Value} {post : Int64 → gs_S → Prop} (d : decode me.2.1 pc = .ok (.invokestatic index, 3)) (hY : gY me' a) (hL : Cond.methodLink me.1.cls index me'.1 ∈ gw) (hI : Cond.static me'.1 ∈ gw) (ha : av.length = a) (h8 : (rest.map fun x => x.category).sum ≤ 8) (hst : st = av.reverse ++ rest) (hM : gM l v ly N me' n av σ (qL v ly N post)) (k : ∀ (r : Int64) (σ' : gs_S), post r σ' → gG l v ly N me n Qf (pc + 3) L (.long r :: rest) σ') : gG l v ly N me n Qf pc L st σ := by
  intro p e s m args below meth c A hC ls H locs hl hP hS
  have hD := hC.2.2.2.2.2.2.1 σ
  have hF := g_free hD hC.2.2.2.2.2.2.2.1 hS
  have hts := hC.2.2.2.2.1
  refine va_calll (va_runS (As := av) (rest := rest) ⟨hC.1, hC.2.1, hC.2.2.1, hC.2.2.2.1, hts⟩ (hM H.size) ⟨g_B hY hts hL, hts _ hI⟩ ⟨g_blind, g_pre hC.2.2.2.2.2.1 hP hD⟩ rfl ha hl.1 hst (lv_room h8) d ⟨Nat.le_refl _, Nat.le_refl _⟩) hS (fun q _ h => hF q h) hF (fun r u t H1 locs1 ht hvm hp hB hz1 hk1 hS1 => ?_)
  rw [ht] at hB
  exact k r u hp p e s m args below meth c A hC ls H1 locs1 hl hB hS1
theorem g_callSv {me' : gs_M} {index a : Nat} {av : List Value} {post : gs_S → Prop} (d : decode me.2.1 pc = .ok (.invokestatic index, 3)) (hY : gY me' a) (hL : Cond.methodLink me.1.cls index me'.1 ∈ gw) (hI : Cond.static me'.1 ∈ gw) (ha : av.length = a) (h8 : (rest.map fun x => x.category).sum ≤ 8) (hst : st = av.reverse ++ rest) (hM : gM l v ly N me' n av σ (qV v ly N post)) (k : ∀ (σ' : gs_S), post σ' → gG l v ly N me n Qf (pc + 3) L rest σ') : gG l v ly N me n Qf pc L st σ := by
  intro p e s m args below meth c A hC ls H locs hl hP hS
  have hD := hC.2.2.2.2.2.2.1 σ
  have hF := g_free hD hC.2.2.2.2.2.2.2.1 hS
  have hts := hC.2.2.2.2.1
  refine va_callv (va_runS (As := av) (rest := rest) ⟨hC.1, hC.2.1, hC.2.2.1, hC.2.2.2.1, hts⟩ (hM H.size) ⟨g_B hY hts hL, hts _ hI⟩ ⟨g_blind, g_pre hC.2.2.2.2.2.1 hP hD⟩ rfl ha hl.1 hst (lv_room h8) d ⟨Nat.le_refl _, Nat.le_refl _⟩) hS (fun q _ h => hF q h) hF (fun u t H1 locs1 ht hvm hp hB hz1 hk1 hS1 => ?_)
  rw [ht] at hB
  exact k u hp p e s m args below meth c A hC ls H1 locs1 hl hB hS1
theorem g_callSNi {me' : gs_M} {index a : Nat} {av : List Value} {post : Int32 → gs_S → Prop} (d : decode me.2.1 pc = .ok (.invokestatic index, 3)) (hY : gY me' a) {host : String} (hL : (me.1.cls, index, me'.1, host) ∈ gw_n) (hI : Cond.static me'.1 ∈ gw) (ha : av.length = a) (h8 : (rest.map fun x => x.category).sum ≤ 8) (hst : st = av.reverse ++ rest) (hM : gM l v ly N me' n av σ (qI v ly N post)) (k : ∀ (r : Int32) (σ' : gs_S), post r σ' → gG l v ly N me n Qf (pc + 3) L (.int r :: rest) σ') : gG l v ly N me n Qf pc L st σ := by
  intro p e s m args below meth c A hC ls H locs hl hP hS
  have hD := hC.2.2.2.2.2.2.1 σ
  have hF := g_free hD hC.2.2.2.2.2.2.2.1 hS
  have hts := hC.2.2.2.2.1
  refine va_calli (va_runSN (As := av) (rest := rest) ⟨hC.1, hC.2.1, hC.2.2.1, hC.2.2.2.1, hts⟩ (hM H.size) ⟨g_N hY hts (hC.2.2.2.2.2.1.2.1 _ hL), hts _ hI, trivial⟩ ⟨g_blind, g_pre hC.2.2.2.2.2.1 hP hD⟩ rfl ha hl.1 hst (lv_room h8) d ⟨Nat.le_refl _, Nat.le_refl _⟩) hS (fun q _ h => hF q h) hF (fun r u t H1 locs1 ht hvm hp hB hz1 hk1 hS1 => ?_)
  rw [ht] at hB
  exact k r u hp p e s m args below meth c A hC ls H1 locs1 hl hB hS1
theorem g_callSNl {me' : gs_M} {index a : Nat} {av : List Value} {post : Int64 → gs_S → Prop} (d : decode me.2.1 pc = .ok (.invokestatic index, 3)) (hY : gY me' a) {host : String} (hL : (me.1.cls, index, me'.1, host) ∈ gw_n) (hI : Cond.static me'.1 ∈ gw) (ha : av.length = a) (h8 : (rest.map fun x => x.category).sum ≤ 8) (hst : st = av.reverse ++ rest) (hM : gM l v ly N me' n av σ (qL v ly N post)) (k : ∀ (r : Int64) (σ' : gs_S), post r σ' → gG l v ly N me n Qf (pc + 3) L (.long r :: rest) σ') : gG l v ly N me n Qf pc L st σ := by
  intro p e s m args below meth c A hC ls H locs hl hP hS
  have hD := hC.2.2.2.2.2.2.1 σ
  have hF := g_free hD hC.2.2.2.2.2.2.2.1 hS
  have hts := hC.2.2.2.2.1
  refine va_calll (va_runSN (As := av) (rest := rest) ⟨hC.1, hC.2.1, hC.2.2.1, hC.2.2.2.1, hts⟩ (hM H.size) ⟨g_N hY hts (hC.2.2.2.2.2.1.2.1 _ hL), hts _ hI, trivial⟩ ⟨g_blind, g_pre hC.2.2.2.2.2.1 hP hD⟩ rfl ha hl.1 hst (lv_room h8) d ⟨Nat.le_refl _, Nat.le_refl _⟩) hS (fun q _ h => hF q h) hF (fun r u t H1 locs1 ht hvm hp hB hz1 hk1 hS1 => ?_)
  rw [ht] at hB
  exact k r u hp p e s m args below meth c A hC ls H1 locs1 hl hB hS1
theorem g_callSNv {me' : gs_M} {index a : Nat} {av : List Value} {post : gs_S → Prop} (d : decode me.2.1 pc = .ok (.invokestatic index, 3)) (hY : gY me' a) {host : String} (hL : (me.1.cls, index, me'.1, host) ∈ gw_n) (hI : Cond.static me'.1 ∈ gw) (ha : av.length = a) (h8 : (rest.map fun x => x.category).sum ≤ 8) (hst : st = av.reverse ++ rest) (hM : gM l v ly N me' n av σ (qV v ly N post)) (k : ∀ (σ' : gs_S), post σ' → gG l v ly N me n Qf (pc + 3) L rest σ') : gG l v ly N me n Qf pc L st σ := by
  intro p e s m args below meth c A hC ls H locs hl hP hS
  have hD := hC.2.2.2.2.2.2.1 σ
  have hF := g_free hD hC.2.2.2.2.2.2.2.1 hS
  have hts := hC.2.2.2.2.1
  refine va_callv (va_runSN (As := av) (rest := rest) ⟨hC.1, hC.2.1, hC.2.2.1, hC.2.2.2.1, hts⟩ (hM H.size) ⟨g_N hY hts (hC.2.2.2.2.2.1.2.1 _ hL), hts _ hI, trivial⟩ ⟨g_blind, g_pre hC.2.2.2.2.2.1 hP hD⟩ rfl ha hl.1 hst (lv_room h8) d ⟨Nat.le_refl _, Nat.le_refl _⟩) hS (fun q _ h => hF q h) hF (fun u t H1 locs1 ht hvm hp hB hz1 hk1 hS1 => ?_)
  rw [ht] at hB
  exact k u hp p e s m args below meth c A hC ls H1 locs1 hl hB hS1
theorem g_callVi {me' : gs_M} {index a : Nat} {av : List Value} {q ci : Nat} {fds : List Nat} {post : Int32 → gs_S → Prop} (d : decode me.2.1 pc = .ok (.invokevirtual index, 3)) (hY : gY me' a) (hL : Cond.methodLink me.1.cls index me'.1 ∈ gw) (hq : q < N) (hy : ly q = .inr (ci, fds)) (hc : (vwCl[ci]?).map (fun x => x.1) = some me'.1.cls) (hI : Cond.instanceMethod me'.1 ∈ gw ∧ Cond.selects me'.1.cls me'.1 me'.1 ∈ gw) (ha : av.length = a) (h8 : (rest.map fun x => x.category).sum ≤ 8) (hst : st = av.reverse ++ .ref (v.2.2 q) :: rest) (hM : gM l v ly N me' n (.ref (v.2.2 q) :: av) σ (qI v ly N post)) (k : ∀ (r : Int32) (σ' : gs_S), post r σ' → gG l v ly N me n Qf (pc + 3) L (.int r :: rest) σ') : gG l v ly N me n Qf pc L st σ := by
  intro p e s m args below meth c A hC ls H locs hl hP hS
  have hD := hC.2.2.2.2.2.2.1 σ
  have hF := g_free hD hC.2.2.2.2.2.2.2.1 hS
  have hts := hC.2.2.2.2.1
  obtain ⟨⟨C, T, M⟩, hc1, hc2⟩ := Option.map_eq_some_iff.mp hc
  have hrv := va_recv hC.2.2.2.2.2.1.1 hP hc1 (gs_ob hq hy)
  rw [hc2] at hrv
  refine va_calli (va_runV (As := av) (rest := rest) (C := me'.1.cls) (b := v.2.2 q) ⟨hC.1, hC.2.1, hC.2.2.1, hC.2.2.2.1, hts⟩ (hM H.size) ⟨g_B hY hts hL, hts _ hI.1, hts _ hI.2⟩ ⟨g_blind, hrv, g_pre hC.2.2.2.2.2.1 hP hD⟩ rfl ha hl.1 hst (lv_room h8) d ⟨Nat.le_refl _, Nat.le_refl _⟩) hS (fun q _ h => hF q h) hF (fun r u t H1 locs1 ht hvm hp hB hz1 hk1 hS1 => ?_)
  rw [ht] at hB
  exact k r u hp p e s m args below meth c A hC ls H1 locs1 hl hB hS1
theorem g_callVl {me' : gs_M} {index a : Nat} {av : List Value} {q ci : Nat} {fds : List Nat} {post : Int64 → gs_S → Prop} (d : decode me.2.1 pc = .ok (.invokevirtual index, 3)) (hY : gY me' a) (hL : Cond.methodLink me.1.cls index me'.1 ∈ gw) (hq : q < N) (hy : ly q = .inr (ci, fds)) (hc : (vwCl[ci]?).map (fun x => x.1) = some me'.1.cls) (hI : Cond.instanceMethod me'.1 ∈ gw ∧ Cond.selects me'.1.cls me'.1 me'.1 ∈ gw) (ha : av.length = a) (h8 : (rest.map fun x => x.category).sum ≤ 8) (hst : st = av.reverse ++ .ref (v.2.2 q) :: rest) (hM : gM l v ly N me' n (.ref (v.2.2 q) :: av) σ (qL v ly N post)) (k : ∀ (r : Int64) (σ' : gs_S), post r σ' → gG l v ly N me n Qf (pc + 3) L (.long r :: rest) σ') : gG l v ly N me n Qf pc L st σ := by
  intro p e s m args below meth c A hC ls H locs hl hP hS
  have hD := hC.2.2.2.2.2.2.1 σ
  have hF := g_free hD hC.2.2.2.2.2.2.2.1 hS
  have hts := hC.2.2.2.2.1
  obtain ⟨⟨C, T, M⟩, hc1, hc2⟩ := Option.map_eq_some_iff.mp hc
  have hrv := va_recv hC.2.2.2.2.2.1.1 hP hc1 (gs_ob hq hy)
  rw [hc2] at hrv
  refine va_calll (va_runV (As := av) (rest := rest) (C := me'.1.cls) (b := v.2.2 q) ⟨hC.1, hC.2.1, hC.2.2.1, hC.2.2.2.1, hts⟩ (hM H.size) ⟨g_B hY hts hL, hts _ hI.1, hts _ hI.2⟩ ⟨g_blind, hrv, g_pre hC.2.2.2.2.2.1 hP hD⟩ rfl ha hl.1 hst (lv_room h8) d ⟨Nat.le_refl _, Nat.le_refl _⟩) hS (fun q _ h => hF q h) hF (fun r u t H1 locs1 ht hvm hp hB hz1 hk1 hS1 => ?_)
  rw [ht] at hB
  exact k r u hp p e s m args below meth c A hC ls H1 locs1 hl hB hS1
theorem g_callVv {me' : gs_M} {index a : Nat} {av : List Value} {q ci : Nat} {fds : List Nat} {post : gs_S → Prop} (d : decode me.2.1 pc = .ok (.invokevirtual index, 3)) (hY : gY me' a) (hL : Cond.methodLink me.1.cls index me'.1 ∈ gw) (hq : q < N) (hy : ly q = .inr (ci, fds)) (hc : (vwCl[ci]?).map (fun x => x.1) = some me'.1.cls) (hI : Cond.instanceMethod me'.1 ∈ gw ∧ Cond.selects me'.1.cls me'.1 me'.1 ∈ gw) (ha : av.length = a) (h8 : (rest.map fun x => x.category).sum ≤ 8) (hst : st = av.reverse ++ .ref (v.2.2 q) :: rest) (hM : gM l v ly N me' n (.ref (v.2.2 q) :: av) σ (qV v ly N post)) (k : ∀ (σ' : gs_S), post σ' → gG l v ly N me n Qf (pc + 3) L rest σ') : gG l v ly N me n Qf pc L st σ := by
  intro p e s m args below meth c A hC ls H locs hl hP hS
  have hD := hC.2.2.2.2.2.2.1 σ
  have hF := g_free hD hC.2.2.2.2.2.2.2.1 hS
  have hts := hC.2.2.2.2.1
  obtain ⟨⟨C, T, M⟩, hc1, hc2⟩ := Option.map_eq_some_iff.mp hc
  have hrv := va_recv hC.2.2.2.2.2.1.1 hP hc1 (gs_ob hq hy)
  rw [hc2] at hrv
  refine va_callv (va_runV (As := av) (rest := rest) (C := me'.1.cls) (b := v.2.2 q) ⟨hC.1, hC.2.1, hC.2.2.1, hC.2.2.2.1, hts⟩ (hM H.size) ⟨g_B hY hts hL, hts _ hI.1, hts _ hI.2⟩ ⟨g_blind, hrv, g_pre hC.2.2.2.2.2.1 hP hD⟩ rfl ha hl.1 hst (lv_room h8) d ⟨Nat.le_refl _, Nat.le_refl _⟩) hS (fun q _ h => hF q h) hF (fun u t H1 locs1 ht hvm hp hB hz1 hk1 hS1 => ?_)
  rw [ht] at hB
  exact k u hp p e s m args below meth c A hC ls H1 locs1 hl hB hS1
theorem g_callVNi {me' : gs_M} {index a : Nat} {av : List Value} {q ci : Nat} {fds : List Nat} {post : Int32 → gs_S → Prop} (d : decode me.2.1 pc = .ok (.invokevirtual index, 3)) (hY : gY me' a) {host : String} (hL : (me.1.cls, index, me'.1, host) ∈ gw_n) (hq : q < N) (hy : ly q = .inr (ci, fds)) (hc : (vwCl[ci]?).map (fun x => x.1) = some me'.1.cls) (hI : Cond.instanceMethod me'.1 ∈ gw ∧ Cond.selects me'.1.cls me'.1 me'.1 ∈ gw) (ha : av.length = a) (h8 : (rest.map fun x => x.category).sum ≤ 8) (hst : st = av.reverse ++ .ref (v.2.2 q) :: rest) (hM : gM l v ly N me' n (.ref (v.2.2 q) :: av) σ (qI v ly N post)) (k : ∀ (r : Int32) (σ' : gs_S), post r σ' → gG l v ly N me n Qf (pc + 3) L (.int r :: rest) σ') : gG l v ly N me n Qf pc L st σ := by
  intro p e s m args below meth c A hC ls H locs hl hP hS
  have hD := hC.2.2.2.2.2.2.1 σ
  have hF := g_free hD hC.2.2.2.2.2.2.2.1 hS
  have hts := hC.2.2.2.2.1
  obtain ⟨⟨C, T, M⟩, hc1, hc2⟩ := Option.map_eq_some_iff.mp hc
  have hrv := va_recv hC.2.2.2.2.2.1.1 hP hc1 (gs_ob hq hy)
  rw [hc2] at hrv
  refine va_calli (va_runVN (As := av) (rest := rest) (C := me'.1.cls) (b := v.2.2 q) ⟨hC.1, hC.2.1, hC.2.2.1, hC.2.2.2.1, hts⟩ (hM H.size) ⟨g_N hY hts (hC.2.2.2.2.2.1.2.1 _ hL), hts _ hI.1, hts _ hI.2⟩ ⟨g_blind, hrv, g_pre hC.2.2.2.2.2.1 hP hD⟩ rfl ha hl.1 hst (lv_room h8) d ⟨Nat.le_refl _, Nat.le_refl _⟩) hS (fun q _ h => hF q h) hF (fun r u t H1 locs1 ht hvm hp hB hz1 hk1 hS1 => ?_)
  rw [ht] at hB
  exact k r u hp p e s m args below meth c A hC ls H1 locs1 hl hB hS1
theorem g_callVNl {me' : gs_M} {index a : Nat} {av : List Value} {q ci : Nat} {fds : List Nat} {post : Int64 → gs_S → Prop} (d : decode me.2.1 pc = .ok (.invokevirtual index, 3)) (hY : gY me' a) {host : String} (hL : (me.1.cls, index, me'.1, host) ∈ gw_n) (hq : q < N) (hy : ly q = .inr (ci, fds)) (hc : (vwCl[ci]?).map (fun x => x.1) = some me'.1.cls) (hI : Cond.instanceMethod me'.1 ∈ gw ∧ Cond.selects me'.1.cls me'.1 me'.1 ∈ gw) (ha : av.length = a) (h8 : (rest.map fun x => x.category).sum ≤ 8) (hst : st = av.reverse ++ .ref (v.2.2 q) :: rest) (hM : gM l v ly N me' n (.ref (v.2.2 q) :: av) σ (qL v ly N post)) (k : ∀ (r : Int64) (σ' : gs_S), post r σ' → gG l v ly N me n Qf (pc + 3) L (.long r :: rest) σ') : gG l v ly N me n Qf pc L st σ := by
  intro p e s m args below meth c A hC ls H locs hl hP hS
  have hD := hC.2.2.2.2.2.2.1 σ
  have hF := g_free hD hC.2.2.2.2.2.2.2.1 hS
  have hts := hC.2.2.2.2.1
  obtain ⟨⟨C, T, M⟩, hc1, hc2⟩ := Option.map_eq_some_iff.mp hc
  have hrv := va_recv hC.2.2.2.2.2.1.1 hP hc1 (gs_ob hq hy)
  rw [hc2] at hrv
  refine va_calll (va_runVN (As := av) (rest := rest) (C := me'.1.cls) (b := v.2.2 q) ⟨hC.1, hC.2.1, hC.2.2.1, hC.2.2.2.1, hts⟩ (hM H.size) ⟨g_N hY hts (hC.2.2.2.2.2.1.2.1 _ hL), hts _ hI.1, hts _ hI.2⟩ ⟨g_blind, hrv, g_pre hC.2.2.2.2.2.1 hP hD⟩ rfl ha hl.1 hst (lv_room h8) d ⟨Nat.le_refl _, Nat.le_refl _⟩) hS (fun q _ h => hF q h) hF (fun r u t H1 locs1 ht hvm hp hB hz1 hk1 hS1 => ?_)
  rw [ht] at hB
  exact k r u hp p e s m args below meth c A hC ls H1 locs1 hl hB hS1
theorem g_callVNv {me' : gs_M} {index a : Nat} {av : List Value} {q ci : Nat} {fds : List Nat} {post : gs_S → Prop} (d : decode me.2.1 pc = .ok (.invokevirtual index, 3)) (hY : gY me' a) {host : String} (hL : (me.1.cls, index, me'.1, host) ∈ gw_n) (hq : q < N) (hy : ly q = .inr (ci, fds)) (hc : (vwCl[ci]?).map (fun x => x.1) = some me'.1.cls) (hI : Cond.instanceMethod me'.1 ∈ gw ∧ Cond.selects me'.1.cls me'.1 me'.1 ∈ gw) (ha : av.length = a) (h8 : (rest.map fun x => x.category).sum ≤ 8) (hst : st = av.reverse ++ .ref (v.2.2 q) :: rest) (hM : gM l v ly N me' n (.ref (v.2.2 q) :: av) σ (qV v ly N post)) (k : ∀ (σ' : gs_S), post σ' → gG l v ly N me n Qf (pc + 3) L rest σ') : gG l v ly N me n Qf pc L st σ := by
  intro p e s m args below meth c A hC ls H locs hl hP hS
  have hD := hC.2.2.2.2.2.2.1 σ
  have hF := g_free hD hC.2.2.2.2.2.2.2.1 hS
  have hts := hC.2.2.2.2.1
  obtain ⟨⟨C, T, M⟩, hc1, hc2⟩ := Option.map_eq_some_iff.mp hc
  have hrv := va_recv hC.2.2.2.2.2.1.1 hP hc1 (gs_ob hq hy)
  rw [hc2] at hrv
  refine va_callv (va_runVN (As := av) (rest := rest) (C := me'.1.cls) (b := v.2.2 q) ⟨hC.1, hC.2.1, hC.2.2.1, hC.2.2.2.1, hts⟩ (hM H.size) ⟨g_N hY hts (hC.2.2.2.2.2.1.2.1 _ hL), hts _ hI.1, hts _ hI.2⟩ ⟨g_blind, hrv, g_pre hC.2.2.2.2.2.1 hP hD⟩ rfl ha hl.1 hst (lv_room h8) d ⟨Nat.le_refl _, Nat.le_refl _⟩) hS (fun q _ h => hF q h) hF (fun u t H1 locs1 ht hvm hp hB hz1 hk1 hS1 => ?_)
  rw [ht] at hB
  exact k u hp p e s m args below meth c A hC ls H1 locs1 hl hB hS1
theorem g_lcmp_eq {x y : Int64} {off : Int} {tgt : Nat} (d : decode me.2.1 pc = .ok (.lcmp, 1)) (d2 : decode me.2.1 (pc + 1) = .ok (.ifCond .eq off, 3)) (ht : ((pc + 1 : Nat) : Int) + off = (tgt : Int)) (kt : x = y → gG l v ly N me n Qf tgt L rest σ) (kf : ¬ x = y → gG l v ly N me n Qf (pc + 1 + 3) L rest σ) : gG l v ly N me n Qf pc L (.long y :: .long x :: rest) σ :=
  g_lcmp d (g_if_eq d2 ht (fun h => kt (g_cmp_eq.mp h)) (fun h => kf (fun z => h (g_cmp_eq.mpr z))))
theorem g_lcmp_ne {x y : Int64} {off : Int} {tgt : Nat} (d : decode me.2.1 pc = .ok (.lcmp, 1)) (d2 : decode me.2.1 (pc + 1) = .ok (.ifCond .ne off, 3)) (ht : ((pc + 1 : Nat) : Int) + off = (tgt : Int)) (kt : ¬ x = y → gG l v ly N me n Qf tgt L rest σ) (kf : x = y → gG l v ly N me n Qf (pc + 1 + 3) L rest σ) : gG l v ly N me n Qf pc L (.long y :: .long x :: rest) σ :=
  g_lcmp d (g_if_ne d2 ht (fun h => kt (fun z => h (g_cmp_eq.mpr z))) (fun h => kf (g_cmp_eq.mp h)))
theorem g_lcmp_lt {x y : Int64} {off : Int} {tgt : Nat} (d : decode me.2.1 pc = .ok (.lcmp, 1)) (d2 : decode me.2.1 (pc + 1) = .ok (.ifCond .lt off, 3)) (ht : ((pc + 1 : Nat) : Int) + off = (tgt : Int)) (kt : x < y → gG l v ly N me n Qf tgt L rest σ) (kf : ¬ x < y → gG l v ly N me n Qf (pc + 1 + 3) L rest σ) : gG l v ly N me n Qf pc L (.long y :: .long x :: rest) σ :=
  g_lcmp d (g_if_lt d2 ht (fun h => kt (g_cmp_lt.mp h)) (fun h => kf (fun z => h (g_cmp_lt.mpr z))))
theorem g_lcmp_ge {x y : Int64} {off : Int} {tgt : Nat} (d : decode me.2.1 pc = .ok (.lcmp, 1)) (d2 : decode me.2.1 (pc + 1) = .ok (.ifCond .ge off, 3)) (ht : ((pc + 1 : Nat) : Int) + off = (tgt : Int)) (kt : y ≤ x → gG l v ly N me n Qf tgt L rest σ) (kf : ¬ y ≤ x → gG l v ly N me n Qf (pc + 1 + 3) L rest σ) : gG l v ly N me n Qf pc L (.long y :: .long x :: rest) σ :=
  g_lcmp d (g_if_ge d2 ht (fun h => kt (g_cmp_ge.mp h)) (fun h => kf (fun z => h (g_cmp_ge.mpr z))))
theorem g_lcmp_gt {x y : Int64} {off : Int} {tgt : Nat} (d : decode me.2.1 pc = .ok (.lcmp, 1)) (d2 : decode me.2.1 (pc + 1) = .ok (.ifCond .gt off, 3)) (ht : ((pc + 1 : Nat) : Int) + off = (tgt : Int)) (kt : y < x → gG l v ly N me n Qf tgt L rest σ) (kf : ¬ y < x → gG l v ly N me n Qf (pc + 1 + 3) L rest σ) : gG l v ly N me n Qf pc L (.long y :: .long x :: rest) σ :=
  g_lcmp d (g_if_gt d2 ht (fun h => kt (g_cmp_gt.mp h)) (fun h => kf (fun z => h (g_cmp_gt.mpr z))))
theorem g_lcmp_le {x y : Int64} {off : Int} {tgt : Nat} (d : decode me.2.1 pc = .ok (.lcmp, 1)) (d2 : decode me.2.1 (pc + 1) = .ok (.ifCond .le off, 3)) (ht : ((pc + 1 : Nat) : Int) + off = (tgt : Int)) (kt : x ≤ y → gG l v ly N me n Qf tgt L rest σ) (kf : ¬ x ≤ y → gG l v ly N me n Qf (pc + 1 + 3) L rest σ) : gG l v ly N me n Qf pc L (.long y :: .long x :: rest) σ :=
  g_lcmp d (g_if_le d2 ht (fun h => kt (g_cmp_le.mp h)) (fun h => kf (fun z => h (g_cmp_le.mpr z))))
theorem g_cpw : nativeFrameWords "java/lang/System" "arraycopy" 5 + 11 ≤ 32 := by decide +kernel
theorem g_cpl (h8 : (rest.map fun x => x.category).sum ≤ 8) : (rest.map fun x => x.category).sum + (nativeFrameWords "java/lang/System" "arraycopy" 5 + 11) ≤ (gr_r (n + 1)).locals := by
  have h := g_cpw
  show _ ≤ 40 * (n + 1)
  omega
theorem g_copyi {index q0 q1 n0 n1 b0 b1 : Nat} {cnt : Int32} (d : decode me.2.1 pc = .ok (.invokestatic index, 3)) (hL : Cond.methodLink me.1.cls index arraycopyName ∈ gw) (hq0 : q0 < N) (hy0 : ly q0 = .inl (0, n0, b0)) (hq1 : q1 < N) (hy1 : ly q1 = .inl (0, n1, b1)) (h3 : ¬ cnt < 0) (h4 : cnt.toNatClampNeg ≤ n0) (h5 : cnt.toNatClampNeg ≤ n1) (h8 : (rest.map fun x => x.category).sum ≤ 8)
    (k : gG l v ly N me n Qf (pc + 3) L rest (gs_pA σ q1 (va_cpy (σ.1 q0) (σ.1 q1) 0 0 cnt.toNatClampNeg))) : gG l v ly N me n Qf pc L (.int cnt :: .int 0 :: .ref (v.2.2 q1) :: .int 0 :: .ref (v.2.2 q0) :: rest) σ := by
  intro p e s m args below meth c A hC ls H locs hl hP hS
  have h4' : (0 : Int32).toNatClampNeg + cnt.toNatClampNeg ≤ n0 := by rw [sb_cl0]; omega
  have h5' : (0 : Int32).toNatClampNeg + cnt.toNatClampNeg ≤ n1 := by rw [sb_cl0]; omega
  refine va_copyi hC.1 hC.2.1 (by rw [hC.2.2.1]; exact hl.1.symm) hC.2.2.2.1 (hC.2.2.2.2.1 _ hL) (hC.2.2.2.2.1 _ gw_cpn) (hC.2.2.2.2.1 _ gw_cps) (hC.2.2.2.2.1 _ gw_cpi) hC.2.2.2.2.2.1.1 hP (hC.2.2.2.2.2.2.1 σ) hS q0 q1 0 0 (gs_ai hq0 hy0) (gs_ai hq1 hy1) rfl rfl rfl (by decide) (by decide) h3 h4' h5' (fun _ _ => rfl) (Nat.succ_le_succ (Nat.zero_le _)) (g_cpl h8) d (fun H locs hP' hD' hS => ?_)
  rw [gs_set_A hy1 (by decide) (by decide)] at hP'
  exact k p e s m args below meth c A hC ls H locs hl hP' hS
theorem g_copyl {index q0 q1 n0 n1 b0 b1 : Nat} {cnt : Int32} (d : decode me.2.1 pc = .ok (.invokestatic index, 3)) (hL : Cond.methodLink me.1.cls index arraycopyName ∈ gw) (hq0 : q0 < N) (hy0 : ly q0 = .inl (1, n0, b0)) (hq1 : q1 < N) (hy1 : ly q1 = .inl (1, n1, b1)) (h3 : ¬ cnt < 0) (h4 : cnt.toNatClampNeg ≤ n0) (h5 : cnt.toNatClampNeg ≤ n1) (h8 : (rest.map fun x => x.category).sum ≤ 8)
    (k : gG l v ly N me n Qf (pc + 3) L rest (gs_pB σ q1 (va_cpy (σ.2.1 q0) (σ.2.1 q1) 0 0 cnt.toNatClampNeg))) : gG l v ly N me n Qf pc L (.int cnt :: .int 0 :: .ref (v.2.2 q1) :: .int 0 :: .ref (v.2.2 q0) :: rest) σ := by
  intro p e s m args below meth c A hC ls H locs hl hP hS
  have h4' : (0 : Int32).toNatClampNeg + cnt.toNatClampNeg ≤ n0 := by rw [sb_cl0]; omega
  have h5' : (0 : Int32).toNatClampNeg + cnt.toNatClampNeg ≤ n1 := by rw [sb_cl0]; omega
  refine va_copyl hC.1 hC.2.1 (by rw [hC.2.2.1]; exact hl.1.symm) hC.2.2.2.1 (hC.2.2.2.2.1 _ hL) (hC.2.2.2.2.1 _ gw_cpn) (hC.2.2.2.2.1 _ gw_cps) (hC.2.2.2.2.1 _ gw_cpi) hC.2.2.2.2.2.1.1 hP (hC.2.2.2.2.2.2.1 σ) hS q0 q1 1 1 (gs_al hq0 hy0) (gs_al hq1 hy1) rfl rfl rfl (by decide) (by decide) h3 h4' h5' (fun _ _ => rfl) (Nat.succ_le_succ (Nat.zero_le _)) (g_cpl h8) d (fun H locs hP' hD' hS => ?_)
  rw [gs_set_B hy1] at hP'
  exact k p e s m args below meth c A hC ls H locs hl hP' hS
theorem g_lookup {dflt : Int} {ps : Array (Int × Int)} {len : Nat} {x : Int32} {off : Int} {tgt : Nat} (d : decode me.2.1 pc = .ok (.lookupswitch dflt ps, len)) (hp : (ps.toList.zip (ps.toList.drop 1)).all (fun (a, next) => a.1 < next.1) = true) (ho : Op.lookupswitch.offset ps.toList dflt x.toInt = off) (ht : (pc : Int) + off = (tgt : Int)) (k : gG l v ly N me n Qf tgt L rest σ) : gG l v ly N me n Qf pc L (.int x :: rest) σ :=
  fun p e s m args below meth c A hC ls H locs hl hP hS => lv_lookup hC.1 hC.2.1 d hp ho ht (k p e s m args below meth c A hC ls H locs hl hP hS)

end GR
end
section
def me_A_init : gs_M := (⟨"LineRules", "<init>", "()V"⟩, prog_1_method_1_code, 1, none)
theorem Y_A_init : gY me_A_init 0 := ⟨(gw_t1 (List.mem_of_getElem? (i := 18) rfl) rfl), (gw_t1 (List.mem_of_getElem? (i := 1) rfl) rfl), ⟨by decide +kernel, by decide +kernel, by decide +kernel⟩, by decide +kernel⟩
def me_T_init : gs_M := (⟨"LineRules$Text", "<init>", "()V"⟩, prog_8_method_1_code, 1, none)
theorem Y_T_init : gY me_T_init 0 := ⟨(gw_t1 (List.mem_of_getElem? (i := 26) rfl) rfl), (gw_t1 (List.mem_of_getElem? (i := 2) rfl) rfl), ⟨by decide +kernel, by decide +kernel, by decide +kernel⟩, by decide +kernel⟩
def me_R_init : gs_M := (⟨"LineRules$Rule", "<init>", "()V"⟩, prog_7_method_1_code, 1, none)
theorem Y_R_init : gY me_R_init 0 := ⟨(gw_t1 (List.mem_of_getElem? (i := 62) rfl) rfl), (gw_t1 (List.mem_of_getElem? (i := 3) rfl) rfl), ⟨by decide +kernel, by decide +kernel, by decide +kernel⟩, by decide +kernel⟩
def me_C_init : gs_M := (⟨"LineRules$Ring", "<init>", "(LLineRules$Rule;)V"⟩, prog_6_method_1_code, 2, none)
theorem Y_C_init : gY me_C_init 1 := ⟨(gw_t1 (List.mem_of_getElem? (i := 130) rfl) rfl), (gw_t1 (List.mem_of_getElem? (i := 4) rfl) rfl), ⟨by decide +kernel, by decide +kernel, by decide +kernel⟩, by decide +kernel⟩
def me_P_init : gs_M := (⟨"LineRules$Pairs", "<init>", "(LLineRules$Rule;)V"⟩, prog_4_method_1_code, 2, none)
theorem Y_P_init : gY me_P_init 1 := ⟨(gw_t1 (List.mem_of_getElem? (i := 156) rfl) rfl), (gw_t1 (List.mem_of_getElem? (i := 5) rfl) rfl), ⟨by decide +kernel, by decide +kernel, by decide +kernel⟩, by decide +kernel⟩
def me_V_init : gs_M := (⟨"LineRules$Inverse", "<init>", "(LLineRules$Rule;LLineRules$Pairs;)V"⟩, prog_2_method_1_code, 3, none)
theorem Y_V_init : gY me_V_init 2 := ⟨(gw_t1 (List.mem_of_getElem? (i := 184) rfl) rfl), (gw_t1 (List.mem_of_getElem? (i := 6) rfl) rfl), ⟨by decide +kernel, by decide +kernel, by decide +kernel⟩, by decide +kernel⟩
def me_W_init : gs_M := (⟨"LineRules$Weights", "<init>", "(LLineRules$Rule;)V"⟩, prog_9_method_1_code, 2, none)
theorem Y_W_init : gY me_W_init 1 := ⟨(gw_t1 (List.mem_of_getElem? (i := 209) rfl) rfl), (gw_t1 (List.mem_of_getElem? (i := 7) rfl) rfl), ⟨by decide +kernel, by decide +kernel, by decide +kernel⟩, by decide +kernel⟩
def me_O_init : gs_M := (⟨"LineRules$Orphan", "<init>", "(LLineRules$Rule;LLineRules$Pairs;)V"⟩, prog_3_method_1_code, 3, none)
theorem Y_O_init : gY me_O_init 2 := ⟨(gw_t1 (List.mem_of_getElem? (i := 236) rfl) rfl), (gw_t1 (List.mem_of_getElem? (i := 8) rfl) rfl), ⟨by decide +kernel, by decide +kernel, by decide +kernel⟩, by decide +kernel⟩
def me_H_init : gs_M := (⟨"LineRules$Past", "<init>", "(LLineRules$Rule;LLineRules$Ring;)V"⟩, prog_5_method_1_code, 3, none)
theorem Y_H_init : gY me_H_init 2 := ⟨(gw_t2 (List.mem_of_getElem? (i := 33) rfl) rfl), (gw_t1 (List.mem_of_getElem? (i := 9) rfl) rfl), ⟨by decide +kernel, by decide +kernel, by decide +kernel⟩, by decide +kernel⟩
def me_A_load : gs_M := (⟨"LineRules", "load", "(I)I"⟩, prog_1_method_2_code, 2, (some .int))
theorem Y_A_load : gY me_A_load 1 := ⟨(gw_t2 (List.mem_of_getElem? (i := 94) rfl) rfl), (gw_t1 (List.mem_of_getElem? (i := 1) rfl) rfl), ⟨by decide +kernel, by decide +kernel, by decide +kernel⟩, by decide +kernel⟩
theorem I_A_load : Cond.instanceMethod me_A_load.1 ∈ gw ∧ Cond.selects me_A_load.1.cls me_A_load.1 me_A_load.1 ∈ gw := ⟨(gw_t2 (List.mem_of_getElem? (i := 92) rfl) rfl), (gw_t2 (List.mem_of_getElem? (i := 93) rfl) rfl)⟩
def me_T_append : gs_M := (⟨"LineRules$Text", "append", "(I)I"⟩, prog_8_method_2_code, 2, (some .int))
theorem Y_T_append : gY me_T_append 1 := ⟨(gw_t2 (List.mem_of_getElem? (i := 98) rfl) rfl), (gw_t1 (List.mem_of_getElem? (i := 2) rfl) rfl), ⟨by decide +kernel, by decide +kernel, by decide +kernel⟩, by decide +kernel⟩
theorem I_T_append : Cond.instanceMethod me_T_append.1 ∈ gw ∧ Cond.selects me_T_append.1.cls me_T_append.1 me_T_append.1 ∈ gw := ⟨(gw_t2 (List.mem_of_getElem? (i := 96) rfl) rfl), (gw_t2 (List.mem_of_getElem? (i := 97) rfl) rfl)⟩
def me_A_rule : gs_M := (⟨"LineRules", "rule", "()I"⟩, prog_1_method_3_code, 2, (some .int))
theorem Y_A_rule : gY me_A_rule 0 := ⟨(gw_t2 (List.mem_of_getElem? (i := 102) rfl) rfl), (gw_t1 (List.mem_of_getElem? (i := 1) rfl) rfl), ⟨by decide +kernel, by decide +kernel, by decide +kernel⟩, by decide +kernel⟩
theorem I_A_rule : Cond.instanceMethod me_A_rule.1 ∈ gw ∧ Cond.selects me_A_rule.1.cls me_A_rule.1 me_A_rule.1 ∈ gw := ⟨(gw_t2 (List.mem_of_getElem? (i := 100) rfl) rfl), (gw_t2 (List.mem_of_getElem? (i := 101) rfl) rfl)⟩
def me_T_readInto : gs_M := (⟨"LineRules$Text", "readInto", "(LLineRules$Rule;)I"⟩, prog_8_method_3_code, 3, (some .int))
theorem Y_T_readInto : gY me_T_readInto 1 := ⟨(gw_t2 (List.mem_of_getElem? (i := 106) rfl) rfl), (gw_t1 (List.mem_of_getElem? (i := 2) rfl) rfl), ⟨by decide +kernel, by decide +kernel, by decide +kernel⟩, by decide +kernel⟩
theorem I_T_readInto : Cond.instanceMethod me_T_readInto.1 ∈ gw ∧ Cond.selects me_T_readInto.1.cls me_T_readInto.1 me_T_readInto.1 ∈ gw := ⟨(gw_t2 (List.mem_of_getElem? (i := 104) rfl) rfl), (gw_t2 (List.mem_of_getElem? (i := 105) rfl) rfl)⟩
def me_T_fault : gs_M := (⟨"LineRules$Text", "fault", "()I"⟩, prog_8_method_4_code, 2, (some .int))
theorem Y_T_fault : gY me_T_fault 0 := ⟨(gw_t2 (List.mem_of_getElem? (i := 110) rfl) rfl), (gw_t1 (List.mem_of_getElem? (i := 2) rfl) rfl), ⟨by decide +kernel, by decide +kernel, by decide +kernel⟩, by decide +kernel⟩
theorem I_T_fault : Cond.instanceMethod me_T_fault.1 ∈ gw ∧ Cond.selects me_T_fault.1.cls me_T_fault.1 me_T_fault.1 ∈ gw := ⟨(gw_t2 (List.mem_of_getElem? (i := 109) rfl) rfl), (gw_s (q := (⟨"LineRules$Text", "fault", "()I"⟩, 9)) (by decide +kernel) rfl)⟩
def me_T_fitsHead : gs_M := (⟨"LineRules$Text", "fitsHead", "(IC)Z"⟩, prog_8_method_5_code, 3, (some .boolean))
theorem Y_T_fitsHead : gY me_T_fitsHead 2 := ⟨(gw_t2 (List.mem_of_getElem? (i := 114) rfl) rfl), (gw_t1 (List.mem_of_getElem? (i := 2) rfl) rfl), ⟨by decide +kernel, by decide +kernel, by decide +kernel⟩, by decide +kernel⟩
theorem I_T_fitsHead : Cond.instanceMethod me_T_fitsHead.1 ∈ gw ∧ Cond.selects me_T_fitsHead.1.cls me_T_fitsHead.1 me_T_fitsHead.1 ∈ gw := ⟨(gw_t2 (List.mem_of_getElem? (i := 113) rfl) rfl), (gw_s (q := (⟨"LineRules$Text", "fitsHead", "(IC)Z"⟩, 9)) (by decide +kernel) rfl)⟩
def me_A_power : gs_M := (⟨"LineRules", "power", "(II)I"⟩, prog_1_method_21_code, 4, (some .int))
theorem Y_A_power : gY me_A_power 2 := ⟨(gw_t2 (List.mem_of_getElem? (i := 117) rfl) rfl), (gw_t1 (List.mem_of_getElem? (i := 1) rfl) rfl), ⟨by decide +kernel, by decide +kernel, by decide +kernel⟩, by decide +kernel⟩
theorem I_A_power : Cond.static me_A_power.1 ∈ gw := (gw_t2 (List.mem_of_getElem? (i := 116) rfl) rfl)
def me_T_digitsFault : gs_M := (⟨"LineRules$Text", "digitsFault", "(I)I"⟩, prog_8_method_6_code, 4, (some .int))
theorem Y_T_digitsFault : gY me_T_digitsFault 1 := ⟨(gw_t2 (List.mem_of_getElem? (i := 121) rfl) rfl), (gw_t1 (List.mem_of_getElem? (i := 2) rfl) rfl), ⟨by decide +kernel, by decide +kernel, by decide +kernel⟩, by decide +kernel⟩
theorem I_T_digitsFault : Cond.instanceMethod me_T_digitsFault.1 ∈ gw ∧ Cond.selects me_T_digitsFault.1.cls me_T_digitsFault.1 me_T_digitsFault.1 ∈ gw := ⟨(gw_t2 (List.mem_of_getElem? (i := 120) rfl) rfl), (gw_s (q := (⟨"LineRules$Text", "digitsFault", "(I)I"⟩, 9)) (by decide +kernel) rfl)⟩
def me_T_valueFor : gs_M := (⟨"LineRules$Text", "valueFor", "(I)I"⟩, prog_8_method_10_code, 4, (some .int))
theorem Y_T_valueFor : gY me_T_valueFor 1 := ⟨(gw_t2 (List.mem_of_getElem? (i := 125) rfl) rfl), (gw_t1 (List.mem_of_getElem? (i := 2) rfl) rfl), ⟨by decide +kernel, by decide +kernel, by decide +kernel⟩, by decide +kernel⟩
theorem I_T_valueFor : Cond.instanceMethod me_T_valueFor.1 ∈ gw ∧ Cond.selects me_T_valueFor.1.cls me_T_valueFor.1 me_T_valueFor.1 ∈ gw := ⟨(gw_t2 (List.mem_of_getElem? (i := 124) rfl) rfl), (gw_s (q := (⟨"LineRules$Text", "valueFor", "(I)I"⟩, 9)) (by decide +kernel) rfl)⟩
def me_T_choice : gs_M := (⟨"LineRules$Text", "choice", "()I"⟩, prog_8_method_12_code, 4, (some .int))
theorem Y_T_choice : gY me_T_choice 0 := ⟨(gw_t2 (List.mem_of_getElem? (i := 129) rfl) rfl), (gw_t1 (List.mem_of_getElem? (i := 2) rfl) rfl), ⟨by decide +kernel, by decide +kernel, by decide +kernel⟩, by decide +kernel⟩
theorem I_T_choice : Cond.instanceMethod me_T_choice.1 ∈ gw ∧ Cond.selects me_T_choice.1.cls me_T_choice.1 me_T_choice.1 ∈ gw := ⟨(gw_t2 (List.mem_of_getElem? (i := 128) rfl) rfl), (gw_s (q := (⟨"LineRules$Text", "choice", "()I"⟩, 9)) (by decide +kernel) rfl)⟩
def me_T_joined : gs_M := (⟨"LineRules$Text", "joined", "(I)I"⟩, prog_8_method_14_code, 6, (some .int))
theorem Y_T_joined : gY me_T_joined 1 := ⟨(gw_t2 (List.mem_of_getElem? (i := 133) rfl) rfl), (gw_t1 (List.mem_of_getElem? (i := 2) rfl) rfl), ⟨by decide +kernel, by decide +kernel, by decide +kernel⟩, by decide +kernel⟩
theorem I_T_joined : Cond.instanceMethod me_T_joined.1 ∈ gw ∧ Cond.selects me_T_joined.1.cls me_T_joined.1 me_T_joined.1 ∈ gw := ⟨(gw_t2 (List.mem_of_getElem? (i := 132) rfl) rfl), (gw_s (q := (⟨"LineRules$Text", "joined", "(I)I"⟩, 9)) (by decide +kernel) rfl)⟩
def me_T_part : gs_M := (⟨"LineRules$Text", "part", "()I"⟩, prog_8_method_17_code, 3, (some .int))
theorem Y_T_part : gY me_T_part 0 := ⟨(gw_t2 (List.mem_of_getElem? (i := 137) rfl) rfl), (gw_t1 (List.mem_of_getElem? (i := 2) rfl) rfl), ⟨by decide +kernel, by decide +kernel, by decide +kernel⟩, by decide +kernel⟩
theorem I_T_part : Cond.instanceMethod me_T_part.1 ∈ gw ∧ Cond.selects me_T_part.1.cls me_T_part.1 me_T_part.1 ∈ gw := ⟨(gw_t2 (List.mem_of_getElem? (i := 136) rfl) rfl), (gw_s (q := (⟨"LineRules$Text", "part", "()I"⟩, 9)) (by decide +kernel) rfl)⟩
def me_T_here : gs_M := (⟨"LineRules$Text", "here", "()C"⟩, prog_8_method_11_code, 1, (some .char))
theorem Y_T_here : gY me_T_here 0 := ⟨(gw_t2 (List.mem_of_getElem? (i := 141) rfl) rfl), (gw_t1 (List.mem_of_getElem? (i := 2) rfl) rfl), ⟨by decide +kernel, by decide +kernel, by decide +kernel⟩, by decide +kernel⟩
theorem I_T_here : Cond.instanceMethod me_T_here.1 ∈ gw ∧ Cond.selects me_T_here.1.cls me_T_here.1 me_T_here.1 ∈ gw := ⟨(gw_t2 (List.mem_of_getElem? (i := 140) rfl) rfl), (gw_s (q := (⟨"LineRules$Text", "here", "()C"⟩, 9)) (by decide +kernel) rfl)⟩
def me_T_unturned : gs_M := (⟨"LineRules$Text", "unturned", "()I"⟩, prog_8_method_18_code, 2, (some .int))
theorem Y_T_unturned : gY me_T_unturned 0 := ⟨(gw_t2 (List.mem_of_getElem? (i := 145) rfl) rfl), (gw_t1 (List.mem_of_getElem? (i := 2) rfl) rfl), ⟨by decide +kernel, by decide +kernel, by decide +kernel⟩, by decide +kernel⟩
theorem I_T_unturned : Cond.instanceMethod me_T_unturned.1 ∈ gw ∧ Cond.selects me_T_unturned.1.cls me_T_unturned.1 me_T_unturned.1 ∈ gw := ⟨(gw_t2 (List.mem_of_getElem? (i := 144) rfl) rfl), (gw_s (q := (⟨"LineRules$Text", "unturned", "()I"⟩, 9)) (by decide +kernel) rfl)⟩
def me_T_bracket : gs_M := (⟨"LineRules$Text", "bracket", "()I"⟩, prog_8_method_19_code, 2, (some .int))
theorem Y_T_bracket : gY me_T_bracket 0 := ⟨(gw_t2 (List.mem_of_getElem? (i := 149) rfl) rfl), (gw_t1 (List.mem_of_getElem? (i := 2) rfl) rfl), ⟨by decide +kernel, by decide +kernel, by decide +kernel⟩, by decide +kernel⟩
theorem I_T_bracket : Cond.instanceMethod me_T_bracket.1 ∈ gw ∧ Cond.selects me_T_bracket.1.cls me_T_bracket.1 me_T_bracket.1 ∈ gw := ⟨(gw_t2 (List.mem_of_getElem? (i := 148) rfl) rfl), (gw_s (q := (⟨"LineRules$Text", "bracket", "()I"⟩, 9)) (by decide +kernel) rfl)⟩
def me_T_opens : gs_M := (⟨"LineRules$Text", "opens", "()Z"⟩, prog_8_method_13_code, 1, (some .boolean))
theorem Y_T_opens : gY me_T_opens 0 := ⟨(gw_t2 (List.mem_of_getElem? (i := 153) rfl) rfl), (gw_t1 (List.mem_of_getElem? (i := 2) rfl) rfl), ⟨by decide +kernel, by decide +kernel, by decide +kernel⟩, by decide +kernel⟩
theorem I_T_opens : Cond.instanceMethod me_T_opens.1 ∈ gw ∧ Cond.selects me_T_opens.1.cls me_T_opens.1 me_T_opens.1 ∈ gw := ⟨(gw_t2 (List.mem_of_getElem? (i := 152) rfl) rfl), (gw_s (q := (⟨"LineRules$Text", "opens", "()Z"⟩, 9)) (by decide +kernel) rfl)⟩
def me_T_levelOf : gs_M := (⟨"LineRules$Text", "levelOf", "(C)I"⟩, prog_8_method_15_code, 1, (some .int))
theorem Y_T_levelOf : gY me_T_levelOf 1 := ⟨(gw_t2 (List.mem_of_getElem? (i := 156) rfl) rfl), (gw_t1 (List.mem_of_getElem? (i := 2) rfl) rfl), ⟨by decide +kernel, by decide +kernel, by decide +kernel⟩, by decide +kernel⟩
theorem I_T_levelOf : Cond.static me_T_levelOf.1 ∈ gw := (gw_t2 (List.mem_of_getElem? (i := 155) rfl) rfl)
def me_T_together : gs_M := (⟨"LineRules$Text", "together", "(ICI)I"⟩, prog_8_method_16_code, 4, (some .int))
theorem Y_T_together : gY me_T_together 3 := ⟨(gw_t2 (List.mem_of_getElem? (i := 160) rfl) rfl), (gw_t1 (List.mem_of_getElem? (i := 2) rfl) rfl), ⟨by decide +kernel, by decide +kernel, by decide +kernel⟩, by decide +kernel⟩
theorem I_T_together : Cond.instanceMethod me_T_together.1 ∈ gw ∧ Cond.selects me_T_together.1.cls me_T_together.1 me_T_together.1 ∈ gw := ⟨(gw_t2 (List.mem_of_getElem? (i := 159) rfl) rfl), (gw_s (q := (⟨"LineRules$Text", "together", "(ICI)I"⟩, 9)) (by decide +kernel) rfl)⟩
def me_J_max : gs_M := (⟨"java/lang/Math", "max", "(II)I"⟩, prog_12_method_65_code, 2, (some .int))
theorem Y_J_max : gY me_J_max 2 := ⟨(gw_t2 (List.mem_of_getElem? (i := 163) rfl) rfl), (gw_t1 (List.mem_of_getElem? (i := 11) rfl) rfl), ⟨by decide +kernel, by decide +kernel, by decide +kernel⟩, by decide +kernel⟩
theorem I_J_max : Cond.static me_J_max.1 ∈ gw := (gw_t2 (List.mem_of_getElem? (i := 162) rfl) rfl)
def me_J_min : gs_M := (⟨"java/lang/Math", "min", "(II)I"⟩, prog_12_method_69_code, 2, (some .int))
theorem Y_J_min : gY me_J_min 2 := ⟨(gw_t2 (List.mem_of_getElem? (i := 166) rfl) rfl), (gw_t1 (List.mem_of_getElem? (i := 11) rfl) rfl), ⟨by decide +kernel, by decide +kernel, by decide +kernel⟩, by decide +kernel⟩
theorem I_J_min : Cond.static me_J_min.1 ∈ gw := (gw_t2 (List.mem_of_getElem? (i := 165) rfl) rfl)
def me_T_fill : gs_M := (⟨"LineRules$Text", "fill", "(LLineRules$Rule;)V"⟩, prog_8_method_7_code, 3, none)
theorem Y_T_fill : gY me_T_fill 1 := ⟨(gw_t2 (List.mem_of_getElem? (i := 170) rfl) rfl), (gw_t1 (List.mem_of_getElem? (i := 2) rfl) rfl), ⟨by decide +kernel, by decide +kernel, by decide +kernel⟩, by decide +kernel⟩
theorem I_T_fill : Cond.instanceMethod me_T_fill.1 ∈ gw ∧ Cond.selects me_T_fill.1.cls me_T_fill.1 me_T_fill.1 ∈ gw := ⟨(gw_t2 (List.mem_of_getElem? (i := 169) rfl) rfl), (gw_s (q := (⟨"LineRules$Text", "fill", "(LLineRules$Rule;)V"⟩, 9)) (by decide +kernel) rfl)⟩
def me_R_shape : gs_M := (⟨"LineRules$Rule", "shape", "(II)V"⟩, prog_7_method_2_code, 3, none)
theorem Y_R_shape : gY me_R_shape 2 := ⟨(gw_t2 (List.mem_of_getElem? (i := 174) rfl) rfl), (gw_t1 (List.mem_of_getElem? (i := 3) rfl) rfl), ⟨by decide +kernel, by decide +kernel, by decide +kernel⟩, by decide +kernel⟩
theorem I_R_shape : Cond.instanceMethod me_R_shape.1 ∈ gw ∧ Cond.selects me_R_shape.1.cls me_R_shape.1 me_R_shape.1 ∈ gw := ⟨(gw_t2 (List.mem_of_getElem? (i := 172) rfl) rfl), (gw_t2 (List.mem_of_getElem? (i := 173) rfl) rfl)⟩
def me_T_made : gs_M := (⟨"LineRules$Text", "made", "(I)I"⟩, prog_8_method_8_code, 2, (some .int))
theorem Y_T_made : gY me_T_made 1 := ⟨(gw_t2 (List.mem_of_getElem? (i := 179) rfl) rfl), (gw_t1 (List.mem_of_getElem? (i := 2) rfl) rfl), ⟨by decide +kernel, by decide +kernel, by decide +kernel⟩, by decide +kernel⟩
theorem I_T_made : Cond.instanceMethod me_T_made.1 ∈ gw ∧ Cond.selects me_T_made.1.cls me_T_made.1 me_T_made.1 ∈ gw := ⟨(gw_t2 (List.mem_of_getElem? (i := 178) rfl) rfl), (gw_s (q := (⟨"LineRules$Text", "made", "(I)I"⟩, 9)) (by decide +kernel) rfl)⟩
def me_T_sumOf : gs_M := (⟨"LineRules$Text", "sumOf", "(I)I"⟩, prog_8_method_9_code, 5, (some .int))
theorem Y_T_sumOf : gY me_T_sumOf 1 := ⟨(gw_t2 (List.mem_of_getElem? (i := 183) rfl) rfl), (gw_t1 (List.mem_of_getElem? (i := 2) rfl) rfl), ⟨by decide +kernel, by decide +kernel, by decide +kernel⟩, by decide +kernel⟩
theorem I_T_sumOf : Cond.instanceMethod me_T_sumOf.1 ∈ gw ∧ Cond.selects me_T_sumOf.1.cls me_T_sumOf.1 me_T_sumOf.1 ∈ gw := ⟨(gw_t2 (List.mem_of_getElem? (i := 182) rfl) rfl), (gw_s (q := (⟨"LineRules$Text", "sumOf", "(I)I"⟩, 9)) (by decide +kernel) rfl)⟩
def me_R_complete : gs_M := (⟨"LineRules$Rule", "complete", "()V"⟩, prog_7_method_3_code, 4, none)
theorem Y_R_complete : gY me_R_complete 0 := ⟨(gw_t2 (List.mem_of_getElem? (i := 187) rfl) rfl), (gw_t1 (List.mem_of_getElem? (i := 3) rfl) rfl), ⟨by decide +kernel, by decide +kernel, by decide +kernel⟩, by decide +kernel⟩
theorem I_R_complete : Cond.instanceMethod me_R_complete.1 ∈ gw ∧ Cond.selects me_R_complete.1.cls me_R_complete.1 me_R_complete.1 ∈ gw := ⟨(gw_t2 (List.mem_of_getElem? (i := 185) rfl) rfl), (gw_t2 (List.mem_of_getElem? (i := 186) rfl) rfl)⟩
def me_Y_fillJ : gs_M := (⟨"java/util/Arrays", "fill", "([JJ)V"⟩, prog_14_method_101_code, 5, none)
theorem Y_Y_fillJ : gY me_Y_fillJ 2 := ⟨(gw_t2 (List.mem_of_getElem? (i := 190) rfl) rfl), (gw_t1 (List.mem_of_getElem? (i := 12) rfl) rfl), ⟨by decide +kernel, by decide +kernel, by decide +kernel⟩, by decide +kernel⟩
theorem I_Y_fillJ : Cond.static me_Y_fillJ.1 ∈ gw := (gw_t2 (List.mem_of_getElem? (i := 189) rfl) rfl)
def me_R_enter : gs_M := (⟨"LineRules$Rule", "enter", "(II)V"⟩, prog_7_method_4_code, 3, none)
theorem Y_R_enter : gY me_R_enter 2 := ⟨(gw_t2 (List.mem_of_getElem? (i := 194) rfl) rfl), (gw_t1 (List.mem_of_getElem? (i := 3) rfl) rfl), ⟨by decide +kernel, by decide +kernel, by decide +kernel⟩, by decide +kernel⟩
theorem I_R_enter : Cond.instanceMethod me_R_enter.1 ∈ gw ∧ Cond.selects me_R_enter.1.cls me_R_enter.1 me_R_enter.1 ∈ gw := ⟨(gw_t2 (List.mem_of_getElem? (i := 193) rfl) rfl), (gw_s (q := (⟨"LineRules$Rule", "enter", "(II)V"⟩, 10)) (by decide +kernel) rfl)⟩
def me_R_end : gs_M := (⟨"LineRules$Rule", "end", "(I)I"⟩, prog_7_method_5_code, 2, (some .int))
theorem Y_R_end : gY me_R_end 1 := ⟨(gw_t2 (List.mem_of_getElem? (i := 198) rfl) rfl), (gw_t1 (List.mem_of_getElem? (i := 3) rfl) rfl), ⟨by decide +kernel, by decide +kernel, by decide +kernel⟩, by decide +kernel⟩
theorem I_R_end : Cond.instanceMethod me_R_end.1 ∈ gw ∧ Cond.selects me_R_end.1.cls me_R_end.1 me_R_end.1 ∈ gw := ⟨(gw_t2 (List.mem_of_getElem? (i := 196) rfl) rfl), (gw_t2 (List.mem_of_getElem? (i := 197) rfl) rfl)⟩
def me_C_clear : gs_M := (⟨"LineRules$Ring", "clear", "()V"⟩, prog_6_method_3_code, 1, none)
theorem Y_C_clear : gY me_C_clear 0 := ⟨(gw_t2 (List.mem_of_getElem? (i := 202) rfl) rfl), (gw_t1 (List.mem_of_getElem? (i := 4) rfl) rfl), ⟨by decide +kernel, by decide +kernel, by decide +kernel⟩, by decide +kernel⟩
theorem I_C_clear : Cond.instanceMethod me_C_clear.1 ∈ gw ∧ Cond.selects me_C_clear.1.cls me_C_clear.1 me_C_clear.1 ∈ gw := ⟨(gw_t2 (List.mem_of_getElem? (i := 200) rfl) rfl), (gw_t2 (List.mem_of_getElem? (i := 201) rfl) rfl)⟩
def me_Y_fillI : gs_M := (⟨"java/util/Arrays", "fill", "([II)V"⟩, prog_14_method_103_code, 4, none)
theorem Y_Y_fillI : gY me_Y_fillI 2 := ⟨(gw_t2 (List.mem_of_getElem? (i := 205) rfl) rfl), (gw_t1 (List.mem_of_getElem? (i := 12) rfl) rfl), ⟨by decide +kernel, by decide +kernel, by decide +kernel⟩, by decide +kernel⟩
theorem I_Y_fillI : Cond.static me_Y_fillI.1 ∈ gw := (gw_t2 (List.mem_of_getElem? (i := 204) rfl) rfl)
def me_P_forget : gs_M := (⟨"LineRules$Pairs", "forget", "()V"⟩, prog_4_method_2_code, 1, none)
theorem Y_P_forget : gY me_P_forget 0 := ⟨(gw_t2 (List.mem_of_getElem? (i := 209) rfl) rfl), (gw_t1 (List.mem_of_getElem? (i := 5) rfl) rfl), ⟨by decide +kernel, by decide +kernel, by decide +kernel⟩, by decide +kernel⟩
theorem I_P_forget : Cond.instanceMethod me_P_forget.1 ∈ gw ∧ Cond.selects me_P_forget.1.cls me_P_forget.1 me_P_forget.1 ∈ gw := ⟨(gw_t2 (List.mem_of_getElem? (i := 207) rfl) rfl), (gw_t2 (List.mem_of_getElem? (i := 208) rfl) rfl)⟩
def me_V_forget : gs_M := (⟨"LineRules$Inverse", "forget", "()V"⟩, prog_2_method_2_code, 1, none)
theorem Y_V_forget : gY me_V_forget 0 := ⟨(gw_t2 (List.mem_of_getElem? (i := 213) rfl) rfl), (gw_t1 (List.mem_of_getElem? (i := 6) rfl) rfl), ⟨by decide +kernel, by decide +kernel, by decide +kernel⟩, by decide +kernel⟩
theorem I_V_forget : Cond.instanceMethod me_V_forget.1 ∈ gw ∧ Cond.selects me_V_forget.1.cls me_V_forget.1 me_V_forget.1 ∈ gw := ⟨(gw_t2 (List.mem_of_getElem? (i := 211) rfl) rfl), (gw_t2 (List.mem_of_getElem? (i := 212) rfl) rfl)⟩
def me_W_forget : gs_M := (⟨"LineRules$Weights", "forget", "()V"⟩, prog_9_method_2_code, 1, none)
theorem Y_W_forget : gY me_W_forget 0 := ⟨(gw_t2 (List.mem_of_getElem? (i := 217) rfl) rfl), (gw_t1 (List.mem_of_getElem? (i := 7) rfl) rfl), ⟨by decide +kernel, by decide +kernel, by decide +kernel⟩, by decide +kernel⟩
theorem I_W_forget : Cond.instanceMethod me_W_forget.1 ∈ gw ∧ Cond.selects me_W_forget.1.cls me_W_forget.1 me_W_forget.1 ∈ gw := ⟨(gw_t2 (List.mem_of_getElem? (i := 215) rfl) rfl), (gw_t2 (List.mem_of_getElem? (i := 216) rfl) rfl)⟩
def me_O_forget : gs_M := (⟨"LineRules$Orphan", "forget", "()V"⟩, prog_3_method_2_code, 1, none)
theorem Y_O_forget : gY me_O_forget 0 := ⟨(gw_t2 (List.mem_of_getElem? (i := 221) rfl) rfl), (gw_t1 (List.mem_of_getElem? (i := 8) rfl) rfl), ⟨by decide +kernel, by decide +kernel, by decide +kernel⟩, by decide +kernel⟩
theorem I_O_forget : Cond.instanceMethod me_O_forget.1 ∈ gw ∧ Cond.selects me_O_forget.1.cls me_O_forget.1 me_O_forget.1 ∈ gw := ⟨(gw_t2 (List.mem_of_getElem? (i := 219) rfl) rfl), (gw_t2 (List.mem_of_getElem? (i := 220) rfl) rfl)⟩
def me_H_forget : gs_M := (⟨"LineRules$Past", "forget", "()V"⟩, prog_5_method_2_code, 1, none)
theorem Y_H_forget : gY me_H_forget 0 := ⟨(gw_t2 (List.mem_of_getElem? (i := 225) rfl) rfl), (gw_t1 (List.mem_of_getElem? (i := 9) rfl) rfl), ⟨by decide +kernel, by decide +kernel, by decide +kernel⟩, by decide +kernel⟩
theorem I_H_forget : Cond.instanceMethod me_H_forget.1 ∈ gw ∧ Cond.selects me_H_forget.1.cls me_H_forget.1 me_H_forget.1 ∈ gw := ⟨(gw_t2 (List.mem_of_getElem? (i := 223) rfl) rfl), (gw_t2 (List.mem_of_getElem? (i := 224) rfl) rfl)⟩
def me_A_next : gs_M := (⟨"LineRules", "next", "(I)I"⟩, prog_1_method_4_code, 2, (some .int))
theorem Y_A_next : gY me_A_next 1 := ⟨(gw_t2 (List.mem_of_getElem? (i := 229) rfl) rfl), (gw_t1 (List.mem_of_getElem? (i := 1) rfl) rfl), ⟨by decide +kernel, by decide +kernel, by decide +kernel⟩, by decide +kernel⟩
theorem I_A_next : Cond.instanceMethod me_A_next.1 ∈ gw ∧ Cond.selects me_A_next.1.cls me_A_next.1 me_A_next.1 ∈ gw := ⟨(gw_t2 (List.mem_of_getElem? (i := 227) rfl) rfl), (gw_t2 (List.mem_of_getElem? (i := 228) rfl) rfl)⟩
def me_A_ring : gs_M := (⟨"LineRules", "ring", "(I)I"⟩, prog_1_method_5_code, 3, (some .int))
theorem Y_A_ring : gY me_A_ring 1 := ⟨(gw_t2 (List.mem_of_getElem? (i := 233) rfl) rfl), (gw_t1 (List.mem_of_getElem? (i := 1) rfl) rfl), ⟨by decide +kernel, by decide +kernel, by decide +kernel⟩, by decide +kernel⟩
theorem I_A_ring : Cond.instanceMethod me_A_ring.1 ∈ gw ∧ Cond.selects me_A_ring.1.cls me_A_ring.1 me_A_ring.1 ∈ gw := ⟨(gw_t2 (List.mem_of_getElem? (i := 231) rfl) rfl), (gw_t2 (List.mem_of_getElem? (i := 232) rfl) rfl)⟩
def me_C_resize : gs_M := (⟨"LineRules$Ring", "resize", "(I)V"⟩, prog_6_method_2_code, 2, none)
theorem Y_C_resize : gY me_C_resize 1 := ⟨(gw_t2 (List.mem_of_getElem? (i := 237) rfl) rfl), (gw_t1 (List.mem_of_getElem? (i := 4) rfl) rfl), ⟨by decide +kernel, by decide +kernel, by decide +kernel⟩, by decide +kernel⟩
theorem I_C_resize : Cond.instanceMethod me_C_resize.1 ∈ gw ∧ Cond.selects me_C_resize.1.cls me_C_resize.1 me_C_resize.1 ∈ gw := ⟨(gw_t2 (List.mem_of_getElem? (i := 235) rfl) rfl), (gw_t2 (List.mem_of_getElem? (i := 236) rfl) rfl)⟩
def me_A_set : gs_M := (⟨"LineRules", "set", "(II)I"⟩, prog_1_method_6_code, 4, (some .int))
theorem Y_A_set : gY me_A_set 2 := ⟨(gw_t3 (List.mem_of_getElem? (i := 2) rfl) rfl), (gw_t1 (List.mem_of_getElem? (i := 1) rfl) rfl), ⟨by decide +kernel, by decide +kernel, by decide +kernel⟩, by decide +kernel⟩
theorem I_A_set : Cond.instanceMethod me_A_set.1 ∈ gw ∧ Cond.selects me_A_set.1.cls me_A_set.1 me_A_set.1 ∈ gw := ⟨(gw_t3 (List.mem_of_getElem? (i := 0) rfl) rfl), (gw_t3 (List.mem_of_getElem? (i := 1) rfl) rfl)⟩
def me_C_has : gs_M := (⟨"LineRules$Ring", "has", "(I)Z"⟩, prog_6_method_4_code, 2, (some .boolean))
theorem Y_C_has : gY me_C_has 1 := ⟨(gw_t3 (List.mem_of_getElem? (i := 6) rfl) rfl), (gw_t1 (List.mem_of_getElem? (i := 4) rfl) rfl), ⟨by decide +kernel, by decide +kernel, by decide +kernel⟩, by decide +kernel⟩
theorem I_C_has : Cond.instanceMethod me_C_has.1 ∈ gw ∧ Cond.selects me_C_has.1.cls me_C_has.1 me_C_has.1 ∈ gw := ⟨(gw_t3 (List.mem_of_getElem? (i := 4) rfl) rfl), (gw_t3 (List.mem_of_getElem? (i := 5) rfl) rfl)⟩
def me_R_hasState : gs_M := (⟨"LineRules$Rule", "hasState", "(I)Z"⟩, prog_7_method_8_code, 2, (some .boolean))
theorem Y_R_hasState : gY me_R_hasState 1 := ⟨(gw_t3 (List.mem_of_getElem? (i := 10) rfl) rfl), (gw_t1 (List.mem_of_getElem? (i := 3) rfl) rfl), ⟨by decide +kernel, by decide +kernel, by decide +kernel⟩, by decide +kernel⟩
theorem I_R_hasState : Cond.instanceMethod me_R_hasState.1 ∈ gw ∧ Cond.selects me_R_hasState.1.cls me_R_hasState.1 me_R_hasState.1 ∈ gw := ⟨(gw_t3 (List.mem_of_getElem? (i := 8) rfl) rfl), (gw_t3 (List.mem_of_getElem? (i := 9) rfl) rfl)⟩
def me_A_get : gs_M := (⟨"LineRules", "get", "(I)I"⟩, prog_1_method_7_code, 2, (some .int))
theorem Y_A_get : gY me_A_get 1 := ⟨(gw_t3 (List.mem_of_getElem? (i := 14) rfl) rfl), (gw_t1 (List.mem_of_getElem? (i := 1) rfl) rfl), ⟨by decide +kernel, by decide +kernel, by decide +kernel⟩, by decide +kernel⟩
theorem I_A_get : Cond.instanceMethod me_A_get.1 ∈ gw ∧ Cond.selects me_A_get.1.cls me_A_get.1 me_A_get.1 ∈ gw := ⟨(gw_t3 (List.mem_of_getElem? (i := 12) rfl) rfl), (gw_t3 (List.mem_of_getElem? (i := 13) rfl) rfl)⟩
def me_A_step : gs_M := (⟨"LineRules", "step", "(I)I"⟩, prog_1_method_8_code, 2, (some .int))
theorem Y_A_step : gY me_A_step 1 := ⟨(gw_t3 (List.mem_of_getElem? (i := 18) rfl) rfl), (gw_t1 (List.mem_of_getElem? (i := 1) rfl) rfl), ⟨by decide +kernel, by decide +kernel, by decide +kernel⟩, by decide +kernel⟩
theorem I_A_step : Cond.instanceMethod me_A_step.1 ∈ gw ∧ Cond.selects me_A_step.1.cls me_A_step.1 me_A_step.1 ∈ gw := ⟨(gw_t3 (List.mem_of_getElem? (i := 16) rfl) rfl), (gw_t3 (List.mem_of_getElem? (i := 17) rfl) rfl)⟩
def me_C_run : gs_M := (⟨"LineRules$Ring", "run", "(I)I"⟩, prog_6_method_6_code, 4, (some .int))
theorem Y_C_run : gY me_C_run 1 := ⟨(gw_t3 (List.mem_of_getElem? (i := 22) rfl) rfl), (gw_t1 (List.mem_of_getElem? (i := 4) rfl) rfl), ⟨by decide +kernel, by decide +kernel, by decide +kernel⟩, by decide +kernel⟩
theorem I_C_run : Cond.instanceMethod me_C_run.1 ∈ gw ∧ Cond.selects me_C_run.1.cls me_C_run.1 me_C_run.1 ∈ gw := ⟨(gw_t3 (List.mem_of_getElem? (i := 20) rfl) rfl), (gw_t3 (List.mem_of_getElem? (i := 21) rfl) rfl)⟩
def me_C_stepOnce : gs_M := (⟨"LineRules$Ring", "stepOnce", "()V"⟩, prog_6_method_7_code, 4, none)
theorem Y_C_stepOnce : gY me_C_stepOnce 0 := ⟨(gw_t3 (List.mem_of_getElem? (i := 29) rfl) rfl), (gw_t1 (List.mem_of_getElem? (i := 4) rfl) rfl), ⟨by decide +kernel, by decide +kernel, by decide +kernel⟩, by decide +kernel⟩
theorem I_C_stepOnce : Cond.instanceMethod me_C_stepOnce.1 ∈ gw ∧ Cond.selects me_C_stepOnce.1.cls me_C_stepOnce.1 me_C_stepOnce.1 ∈ gw := ⟨(gw_t3 (List.mem_of_getElem? (i := 28) rfl) rfl), (gw_s (q := (⟨"LineRules$Ring", "stepOnce", "()V"⟩, 5)) (by decide +kernel) rfl)⟩
def me_R_left : gs_M := (⟨"LineRules$Rule", "left", "()I"⟩, prog_7_method_9_code, 1, (some .int))
theorem Y_R_left : gY me_R_left 0 := ⟨(gw_t3 (List.mem_of_getElem? (i := 33) rfl) rfl), (gw_t1 (List.mem_of_getElem? (i := 3) rfl) rfl), ⟨by decide +kernel, by decide +kernel, by decide +kernel⟩, by decide +kernel⟩
theorem I_R_left : Cond.instanceMethod me_R_left.1 ∈ gw ∧ Cond.selects me_R_left.1.cls me_R_left.1 me_R_left.1 ∈ gw := ⟨(gw_t3 (List.mem_of_getElem? (i := 31) rfl) rfl), (gw_t3 (List.mem_of_getElem? (i := 32) rfl) rfl)⟩
def me_J_floorMod : gs_M := (⟨"java/lang/Math", "floorMod", "(II)I"⟩, prog_12_method_50_code, 3, (some .int))
theorem Y_J_floorMod : gY me_J_floorMod 2 := ⟨(gw_t3 (List.mem_of_getElem? (i := 36) rfl) rfl), (gw_t1 (List.mem_of_getElem? (i := 11) rfl) rfl), ⟨by decide +kernel, by decide +kernel, by decide +kernel⟩, by decide +kernel⟩
theorem I_J_floorMod : Cond.static me_J_floorMod.1 ∈ gw := (gw_t3 (List.mem_of_getElem? (i := 35) rfl) rfl)
def me_A_population : gs_M := (⟨"LineRules", "population", "(I)I"⟩, prog_1_method_9_code, 2, (some .int))
theorem Y_A_population : gY me_A_population 1 := ⟨(gw_t3 (List.mem_of_getElem? (i := 41) rfl) rfl), (gw_t1 (List.mem_of_getElem? (i := 1) rfl) rfl), ⟨by decide +kernel, by decide +kernel, by decide +kernel⟩, by decide +kernel⟩
theorem I_A_population : Cond.instanceMethod me_A_population.1 ∈ gw ∧ Cond.selects me_A_population.1.cls me_A_population.1 me_A_population.1 ∈ gw := ⟨(gw_t3 (List.mem_of_getElem? (i := 39) rfl) rfl), (gw_t3 (List.mem_of_getElem? (i := 40) rfl) rfl)⟩
def me_C_countOf : gs_M := (⟨"LineRules$Ring", "countOf", "(I)I"⟩, prog_6_method_5_code, 4, (some .int))
theorem Y_C_countOf : gY me_C_countOf 1 := ⟨(gw_t3 (List.mem_of_getElem? (i := 45) rfl) rfl), (gw_t1 (List.mem_of_getElem? (i := 4) rfl) rfl), ⟨by decide +kernel, by decide +kernel, by decide +kernel⟩, by decide +kernel⟩
theorem I_C_countOf : Cond.instanceMethod me_C_countOf.1 ∈ gw ∧ Cond.selects me_C_countOf.1.cls me_C_countOf.1 me_C_countOf.1 ∈ gw := ⟨(gw_t3 (List.mem_of_getElem? (i := 43) rfl) rfl), (gw_t3 (List.mem_of_getElem? (i := 44) rfl) rfl)⟩
def me_A_surjective : gs_M := (⟨"LineRules", "surjective", "()I"⟩, prog_1_method_10_code, 1, (some .int))
theorem Y_A_surjective : gY me_A_surjective 0 := ⟨(gw_t3 (List.mem_of_getElem? (i := 49) rfl) rfl), (gw_t1 (List.mem_of_getElem? (i := 1) rfl) rfl), ⟨by decide +kernel, by decide +kernel, by decide +kernel⟩, by decide +kernel⟩
theorem I_A_surjective : Cond.instanceMethod me_A_surjective.1 ∈ gw ∧ Cond.selects me_A_surjective.1.cls me_A_surjective.1 me_A_surjective.1 ∈ gw := ⟨(gw_t3 (List.mem_of_getElem? (i := 47) rfl) rfl), (gw_t3 (List.mem_of_getElem? (i := 48) rfl) rfl)⟩
def me_P_missesNothing : gs_M := (⟨"LineRules$Pairs", "missesNothing", "()Z"⟩, prog_4_method_3_code, 1, (some .boolean))
theorem Y_P_missesNothing : gY me_P_missesNothing 0 := ⟨(gw_t3 (List.mem_of_getElem? (i := 53) rfl) rfl), (gw_t1 (List.mem_of_getElem? (i := 5) rfl) rfl), ⟨by decide +kernel, by decide +kernel, by decide +kernel⟩, by decide +kernel⟩
theorem I_P_missesNothing : Cond.instanceMethod me_P_missesNothing.1 ∈ gw ∧ Cond.selects me_P_missesNothing.1.cls me_P_missesNothing.1 me_P_missesNothing.1 ∈ gw := ⟨(gw_t3 (List.mem_of_getElem? (i := 51) rfl) rfl), (gw_t3 (List.mem_of_getElem? (i := 52) rfl) rfl)⟩
def me_P_partAndMeet : gs_M := (⟨"LineRules$Pairs", "partAndMeet", "()Z"⟩, prog_4_method_5_code, 6, (some .boolean))
theorem Y_P_partAndMeet : gY me_P_partAndMeet 0 := ⟨(gw_t3 (List.mem_of_getElem? (i := 57) rfl) rfl), (gw_t1 (List.mem_of_getElem? (i := 5) rfl) rfl), ⟨by decide +kernel, by decide +kernel, by decide +kernel⟩, by decide +kernel⟩
theorem I_P_partAndMeet : Cond.instanceMethod me_P_partAndMeet.1 ∈ gw ∧ Cond.selects me_P_partAndMeet.1.cls me_P_partAndMeet.1 me_P_partAndMeet.1 ∈ gw := ⟨(gw_t3 (List.mem_of_getElem? (i := 56) rfl) rfl), (gw_s (q := (⟨"LineRules$Pairs", "partAndMeet", "()Z"⟩, 7)) (by decide +kernel) rfl)⟩
def me_P_partAt : gs_M := (⟨"LineRules$Pairs", "partAt", "(I)V"⟩, prog_4_method_6_code, 5, none)
theorem Y_P_partAt : gY me_P_partAt 1 := ⟨(gw_t3 (List.mem_of_getElem? (i := 62) rfl) rfl), (gw_t1 (List.mem_of_getElem? (i := 5) rfl) rfl), ⟨by decide +kernel, by decide +kernel, by decide +kernel⟩, by decide +kernel⟩
theorem I_P_partAt : Cond.instanceMethod me_P_partAt.1 ∈ gw ∧ Cond.selects me_P_partAt.1.cls me_P_partAt.1 me_P_partAt.1 ∈ gw := ⟨(gw_t3 (List.mem_of_getElem? (i := 61) rfl) rfl), (gw_s (q := (⟨"LineRules$Pairs", "partAt", "(I)V"⟩, 7)) (by decide +kernel) rfl)⟩
def me_P_meetsBehind : gs_M := (⟨"LineRules$Pairs", "meetsBehind", "(IJ)Z"⟩, prog_4_method_7_code, 10, (some .boolean))
theorem Y_P_meetsBehind : gY me_P_meetsBehind 2 := ⟨(gw_t3 (List.mem_of_getElem? (i := 68) rfl) rfl), (gw_t1 (List.mem_of_getElem? (i := 5) rfl) rfl), ⟨by decide +kernel, by decide +kernel, by decide +kernel⟩, by decide +kernel⟩
theorem I_P_meetsBehind : Cond.instanceMethod me_P_meetsBehind.1 ∈ gw ∧ Cond.selects me_P_meetsBehind.1.cls me_P_meetsBehind.1 me_P_meetsBehind.1 ∈ gw := ⟨(gw_t3 (List.mem_of_getElem? (i := 67) rfl) rfl), (gw_s (q := (⟨"LineRules$Pairs", "meetsBehind", "(IJ)Z"⟩, 7)) (by decide +kernel) rfl)⟩
def me_R_behind : gs_M := (⟨"LineRules$Rule", "behind", "(II)J"⟩, prog_7_method_6_code, 3, (some .long))
theorem Y_R_behind : gY me_R_behind 2 := ⟨(gw_t3 (List.mem_of_getElem? (i := 72) rfl) rfl), (gw_t1 (List.mem_of_getElem? (i := 3) rfl) rfl), ⟨by decide +kernel, by decide +kernel, by decide +kernel⟩, by decide +kernel⟩
theorem I_R_behind : Cond.instanceMethod me_R_behind.1 ∈ gw ∧ Cond.selects me_R_behind.1.cls me_R_behind.1 me_R_behind.1 ∈ gw := ⟨(gw_t3 (List.mem_of_getElem? (i := 70) rfl) rfl), (gw_t3 (List.mem_of_getElem? (i := 71) rfl) rfl)⟩
def me_A_injective : gs_M := (⟨"LineRules", "injective", "()I"⟩, prog_1_method_11_code, 1, (some .int))
theorem Y_A_injective : gY me_A_injective 0 := ⟨(gw_t3 (List.mem_of_getElem? (i := 76) rfl) rfl), (gw_t1 (List.mem_of_getElem? (i := 1) rfl) rfl), ⟨by decide +kernel, by decide +kernel, by decide +kernel⟩, by decide +kernel⟩
theorem I_A_injective : Cond.instanceMethod me_A_injective.1 ∈ gw ∧ Cond.selects me_A_injective.1.cls me_A_injective.1 me_A_injective.1 ∈ gw := ⟨(gw_t3 (List.mem_of_getElem? (i := 74) rfl) rfl), (gw_t3 (List.mem_of_getElem? (i := 75) rfl) rfl)⟩
def me_P_losesNothing : gs_M := (⟨"LineRules$Pairs", "losesNothing", "()Z"⟩, prog_4_method_4_code, 1, (some .boolean))
theorem Y_P_losesNothing : gY me_P_losesNothing 0 := ⟨(gw_t3 (List.mem_of_getElem? (i := 80) rfl) rfl), (gw_t1 (List.mem_of_getElem? (i := 5) rfl) rfl), ⟨by decide +kernel, by decide +kernel, by decide +kernel⟩, by decide +kernel⟩
theorem I_P_losesNothing : Cond.instanceMethod me_P_losesNothing.1 ∈ gw ∧ Cond.selects me_P_losesNothing.1.cls me_P_losesNothing.1 me_P_losesNothing.1 ∈ gw := ⟨(gw_t3 (List.mem_of_getElem? (i := 78) rfl) rfl), (gw_t3 (List.mem_of_getElem? (i := 79) rfl) rfl)⟩
def me_P_stayApart : gs_M := (⟨"LineRules$Pairs", "stayApart", "()Z"⟩, prog_4_method_8_code, 6, (some .boolean))
theorem Y_P_stayApart : gY me_P_stayApart 0 := ⟨(gw_t3 (List.mem_of_getElem? (i := 85) rfl) rfl), (gw_t1 (List.mem_of_getElem? (i := 5) rfl) rfl), ⟨by decide +kernel, by decide +kernel, by decide +kernel⟩, by decide +kernel⟩
theorem I_P_stayApart : Cond.instanceMethod me_P_stayApart.1 ∈ gw ∧ Cond.selects me_P_stayApart.1.cls me_P_stayApart.1 me_P_stayApart.1 ∈ gw := ⟨(gw_t3 (List.mem_of_getElem? (i := 84) rfl) rfl), (gw_s (q := (⟨"LineRules$Pairs", "stayApart", "()Z"⟩, 7)) (by decide +kernel) rfl)⟩
def me_R_allNodes : gs_M := (⟨"LineRules$Rule", "allNodes", "()J"⟩, prog_7_method_7_code, 1, (some .long))
theorem Y_R_allNodes : gY me_R_allNodes 0 := ⟨(gw_t3 (List.mem_of_getElem? (i := 89) rfl) rfl), (gw_t1 (List.mem_of_getElem? (i := 3) rfl) rfl), ⟨by decide +kernel, by decide +kernel, by decide +kernel⟩, by decide +kernel⟩
theorem I_R_allNodes : Cond.instanceMethod me_R_allNodes.1 ∈ gw ∧ Cond.selects me_R_allNodes.1.cls me_R_allNodes.1 me_R_allNodes.1 ∈ gw := ⟨(gw_t3 (List.mem_of_getElem? (i := 87) rfl) rfl), (gw_t3 (List.mem_of_getElem? (i := 88) rfl) rfl)⟩
def me_P_lasting : gs_M := (⟨"LineRules$Pairs", "lasting", "(I)J"⟩, prog_4_method_9_code, 9, (some .long))
theorem Y_P_lasting : gY me_P_lasting 1 := ⟨(gw_t3 (List.mem_of_getElem? (i := 94) rfl) rfl), (gw_t1 (List.mem_of_getElem? (i := 5) rfl) rfl), ⟨by decide +kernel, by decide +kernel, by decide +kernel⟩, by decide +kernel⟩
theorem I_P_lasting : Cond.instanceMethod me_P_lasting.1 ∈ gw ∧ Cond.selects me_P_lasting.1.cls me_P_lasting.1 me_P_lasting.1 ∈ gw := ⟨(gw_t3 (List.mem_of_getElem? (i := 93) rfl) rfl), (gw_s (q := (⟨"LineRules$Pairs", "lasting", "(I)J"⟩, 7)) (by decide +kernel) rfl)⟩
def me_A_inverse : gs_M := (⟨"LineRules", "inverse", "(I)I"⟩, prog_1_method_12_code, 2, (some .int))
theorem Y_A_inverse : gY me_A_inverse 1 := ⟨(gw_t3 (List.mem_of_getElem? (i := 98) rfl) rfl), (gw_t1 (List.mem_of_getElem? (i := 1) rfl) rfl), ⟨by decide +kernel, by decide +kernel, by decide +kernel⟩, by decide +kernel⟩
theorem I_A_inverse : Cond.instanceMethod me_A_inverse.1 ∈ gw ∧ Cond.selects me_A_inverse.1.cls me_A_inverse.1 me_A_inverse.1 ∈ gw := ⟨(gw_t3 (List.mem_of_getElem? (i := 96) rfl) rfl), (gw_t3 (List.mem_of_getElem? (i := 97) rfl) rfl)⟩
def me_V_width : gs_M := (⟨"LineRules$Inverse", "width", "()I"⟩, prog_2_method_3_code, 1, (some .int))
theorem Y_V_width : gY me_V_width 0 := ⟨(gw_t3 (List.mem_of_getElem? (i := 102) rfl) rfl), (gw_t1 (List.mem_of_getElem? (i := 6) rfl) rfl), ⟨by decide +kernel, by decide +kernel, by decide +kernel⟩, by decide +kernel⟩
theorem I_V_width : Cond.instanceMethod me_V_width.1 ∈ gw ∧ Cond.selects me_V_width.1.cls me_V_width.1 me_V_width.1 ∈ gw := ⟨(gw_t3 (List.mem_of_getElem? (i := 100) rfl) rfl), (gw_t3 (List.mem_of_getElem? (i := 101) rfl) rfl)⟩
def me_V_find : gs_M := (⟨"LineRules$Inverse", "find", "()V"⟩, prog_2_method_6_code, 2, none)
theorem Y_V_find : gY me_V_find 0 := ⟨(gw_t3 (List.mem_of_getElem? (i := 106) rfl) rfl), (gw_t1 (List.mem_of_getElem? (i := 6) rfl) rfl), ⟨by decide +kernel, by decide +kernel, by decide +kernel⟩, by decide +kernel⟩
theorem I_V_find : Cond.instanceMethod me_V_find.1 ∈ gw ∧ Cond.selects me_V_find.1.cls me_V_find.1 me_V_find.1 ∈ gw := ⟨(gw_t3 (List.mem_of_getElem? (i := 105) rfl) rfl), (gw_s (q := (⟨"LineRules$Inverse", "find", "()V"⟩, 6)) (by decide +kernel) rfl)⟩
def me_V_placesTold : gs_M := (⟨"LineRules$Inverse", "placesTold", "(I)I"⟩, prog_2_method_8_code, 7, (some .int))
theorem Y_V_placesTold : gY me_V_placesTold 1 := ⟨(gw_t3 (List.mem_of_getElem? (i := 111) rfl) rfl), (gw_t1 (List.mem_of_getElem? (i := 6) rfl) rfl), ⟨by decide +kernel, by decide +kernel, by decide +kernel⟩, by decide +kernel⟩
theorem I_V_placesTold : Cond.instanceMethod me_V_placesTold.1 ∈ gw ∧ Cond.selects me_V_placesTold.1.cls me_V_placesTold.1 me_V_placesTold.1 ∈ gw := ⟨(gw_t3 (List.mem_of_getElem? (i := 110) rfl) rfl), (gw_s (q := (⟨"LineRules$Inverse", "placesTold", "(I)I"⟩, 6)) (by decide +kernel) rfl)⟩
def me_V_madeOf : gs_M := (⟨"LineRules$Inverse", "madeOf", "(II)I"⟩, prog_2_method_9_code, 7, (some .int))
theorem Y_V_madeOf : gY me_V_madeOf 2 := ⟨(gw_t3 (List.mem_of_getElem? (i := 117) rfl) rfl), (gw_t1 (List.mem_of_getElem? (i := 6) rfl) rfl), ⟨by decide +kernel, by decide +kernel, by decide +kernel⟩, by decide +kernel⟩
theorem I_V_madeOf : Cond.instanceMethod me_V_madeOf.1 ∈ gw ∧ Cond.selects me_V_madeOf.1.cls me_V_madeOf.1 me_V_madeOf.1 ∈ gw := ⟨(gw_t3 (List.mem_of_getElem? (i := 116) rfl) rfl), (gw_s (q := (⟨"LineRules$Inverse", "madeOf", "(II)I"⟩, 6)) (by decide +kernel) rfl)⟩
def me_V_samePlaces : gs_M := (⟨"LineRules$Inverse", "samePlaces", "(III)I"⟩, prog_2_method_10_code, 8, (some .int))
theorem Y_V_samePlaces : gY me_V_samePlaces 3 := ⟨(gw_t3 (List.mem_of_getElem? (i := 121) rfl) rfl), (gw_t1 (List.mem_of_getElem? (i := 6) rfl) rfl), ⟨by decide +kernel, by decide +kernel, by decide +kernel⟩, by decide +kernel⟩
theorem I_V_samePlaces : Cond.instanceMethod me_V_samePlaces.1 ∈ gw ∧ Cond.selects me_V_samePlaces.1.cls me_V_samePlaces.1 me_V_samePlaces.1 ∈ gw := ⟨(gw_t3 (List.mem_of_getElem? (i := 120) rfl) rfl), (gw_s (q := (⟨"LineRules$Inverse", "samePlaces", "(III)I"⟩, 6)) (by decide +kernel) rfl)⟩
def me_V_takeLeast : gs_M := (⟨"LineRules$Inverse", "takeLeast", "(II)V"⟩, prog_2_method_7_code, 4, none)
theorem Y_V_takeLeast : gY me_V_takeLeast 2 := ⟨(gw_t3 (List.mem_of_getElem? (i := 125) rfl) rfl), (gw_t1 (List.mem_of_getElem? (i := 6) rfl) rfl), ⟨by decide +kernel, by decide +kernel, by decide +kernel⟩, by decide +kernel⟩
theorem I_V_takeLeast : Cond.instanceMethod me_V_takeLeast.1 ∈ gw ∧ Cond.selects me_V_takeLeast.1.cls me_V_takeLeast.1 me_V_takeLeast.1 ∈ gw := ⟨(gw_t3 (List.mem_of_getElem? (i := 124) rfl) rfl), (gw_s (q := (⟨"LineRules$Inverse", "takeLeast", "(II)V"⟩, 6)) (by decide +kernel) rfl)⟩
def me_V_place : gs_M := (⟨"LineRules$Inverse", "place", "()I"⟩, prog_2_method_4_code, 1, (some .int))
theorem Y_V_place : gY me_V_place 0 := ⟨(gw_t3 (List.mem_of_getElem? (i := 129) rfl) rfl), (gw_t1 (List.mem_of_getElem? (i := 6) rfl) rfl), ⟨by decide +kernel, by decide +kernel, by decide +kernel⟩, by decide +kernel⟩
theorem I_V_place : Cond.instanceMethod me_V_place.1 ∈ gw ∧ Cond.selects me_V_place.1.cls me_V_place.1 me_V_place.1 ∈ gw := ⟨(gw_t3 (List.mem_of_getElem? (i := 127) rfl) rfl), (gw_t3 (List.mem_of_getElem? (i := 128) rfl) rfl)⟩
def me_A_undo : gs_M := (⟨"LineRules", "undo", "(I)I"⟩, prog_1_method_13_code, 2, (some .int))
theorem Y_A_undo : gY me_A_undo 1 := ⟨(gw_t3 (List.mem_of_getElem? (i := 133) rfl) rfl), (gw_t1 (List.mem_of_getElem? (i := 1) rfl) rfl), ⟨by decide +kernel, by decide +kernel, by decide +kernel⟩, by decide +kernel⟩
theorem I_A_undo : Cond.instanceMethod me_A_undo.1 ∈ gw ∧ Cond.selects me_A_undo.1.cls me_A_undo.1 me_A_undo.1 ∈ gw := ⟨(gw_t3 (List.mem_of_getElem? (i := 131) rfl) rfl), (gw_t3 (List.mem_of_getElem? (i := 132) rfl) rfl)⟩
def me_V_cellOf : gs_M := (⟨"LineRules$Inverse", "cellOf", "(I)I"⟩, prog_2_method_5_code, 3, (some .int))
theorem Y_V_cellOf : gY me_V_cellOf 1 := ⟨(gw_t3 (List.mem_of_getElem? (i := 137) rfl) rfl), (gw_t1 (List.mem_of_getElem? (i := 6) rfl) rfl), ⟨by decide +kernel, by decide +kernel, by decide +kernel⟩, by decide +kernel⟩
theorem I_V_cellOf : Cond.instanceMethod me_V_cellOf.1 ∈ gw ∧ Cond.selects me_V_cellOf.1.cls me_V_cellOf.1 me_V_cellOf.1 ∈ gw := ⟨(gw_t3 (List.mem_of_getElem? (i := 135) rfl) rfl), (gw_t3 (List.mem_of_getElem? (i := 136) rfl) rfl)⟩
def me_A_conserved : gs_M := (⟨"LineRules", "conserved", "()I"⟩, prog_1_method_14_code, 1, (some .int))
theorem Y_A_conserved : gY me_A_conserved 0 := ⟨(gw_t3 (List.mem_of_getElem? (i := 141) rfl) rfl), (gw_t1 (List.mem_of_getElem? (i := 1) rfl) rfl), ⟨by decide +kernel, by decide +kernel, by decide +kernel⟩, by decide +kernel⟩
theorem I_A_conserved : Cond.instanceMethod me_A_conserved.1 ∈ gw ∧ Cond.selects me_A_conserved.1.cls me_A_conserved.1 me_A_conserved.1 ∈ gw := ⟨(gw_t3 (List.mem_of_getElem? (i := 139) rfl) rfl), (gw_t3 (List.mem_of_getElem? (i := 140) rfl) rfl)⟩
def me_W_count : gs_M := (⟨"LineRules$Weights", "count", "()I"⟩, prog_9_method_3_code, 1, (some .int))
theorem Y_W_count : gY me_W_count 0 := ⟨(gw_t3 (List.mem_of_getElem? (i := 145) rfl) rfl), (gw_t1 (List.mem_of_getElem? (i := 7) rfl) rfl), ⟨by decide +kernel, by decide +kernel, by decide +kernel⟩, by decide +kernel⟩
theorem I_W_count : Cond.instanceMethod me_W_count.1 ∈ gw ∧ Cond.selects me_W_count.1.cls me_W_count.1 me_W_count.1 ∈ gw := ⟨(gw_t3 (List.mem_of_getElem? (i := 143) rfl) rfl), (gw_t3 (List.mem_of_getElem? (i := 144) rfl) rfl)⟩
def me_W_find : gs_M := (⟨"LineRules$Weights", "find", "()V"⟩, prog_9_method_5_code, 2, none)
theorem Y_W_find : gY me_W_find 0 := ⟨(gw_t3 (List.mem_of_getElem? (i := 149) rfl) rfl), (gw_t1 (List.mem_of_getElem? (i := 7) rfl) rfl), ⟨by decide +kernel, by decide +kernel, by decide +kernel⟩, by decide +kernel⟩
theorem I_W_find : Cond.instanceMethod me_W_find.1 ∈ gw ∧ Cond.selects me_W_find.1.cls me_W_find.1 me_W_find.1 ∈ gw := ⟨(gw_t3 (List.mem_of_getElem? (i := 148) rfl) rfl), (gw_s (q := (⟨"LineRules$Weights", "find", "()V"⟩, 6)) (by decide +kernel) rfl)⟩
def me_W_writeEquation : gs_M := (⟨"LineRules$Weights", "writeEquation", "(I)V"⟩, prog_9_method_6_code, 2, none)
theorem Y_W_writeEquation : gY me_W_writeEquation 1 := ⟨(gw_t3 (List.mem_of_getElem? (i := 154) rfl) rfl), (gw_t1 (List.mem_of_getElem? (i := 7) rfl) rfl), ⟨by decide +kernel, by decide +kernel, by decide +kernel⟩, by decide +kernel⟩
theorem I_W_writeEquation : Cond.instanceMethod me_W_writeEquation.1 ∈ gw ∧ Cond.selects me_W_writeEquation.1.cls me_W_writeEquation.1 me_W_writeEquation.1 ∈ gw := ⟨(gw_t3 (List.mem_of_getElem? (i := 153) rfl) rfl), (gw_s (q := (⟨"LineRules$Weights", "writeEquation", "(I)V"⟩, 6)) (by decide +kernel) rfl)⟩
def me_W_addGain : gs_M := (⟨"LineRules$Weights", "addGain", "(II)V"⟩, prog_9_method_7_code, 5, none)
theorem Y_W_addGain : gY me_W_addGain 2 := ⟨(gw_t3 (List.mem_of_getElem? (i := 159) rfl) rfl), (gw_t1 (List.mem_of_getElem? (i := 7) rfl) rfl), ⟨by decide +kernel, by decide +kernel, by decide +kernel⟩, by decide +kernel⟩
theorem I_W_addGain : Cond.instanceMethod me_W_addGain.1 ∈ gw ∧ Cond.selects me_W_addGain.1.cls me_W_addGain.1 me_W_addGain.1 ∈ gw := ⟨(gw_t3 (List.mem_of_getElem? (i := 158) rfl) rfl), (gw_s (q := (⟨"LineRules$Weights", "addGain", "(II)V"⟩, 6)) (by decide +kernel) rfl)⟩
def me_W_tie : gs_M := (⟨"LineRules$Weights", "tie", "()V"⟩, prog_9_method_8_code, 5, none)
theorem Y_W_tie : gY me_W_tie 0 := ⟨(gw_t3 (List.mem_of_getElem? (i := 163) rfl) rfl), (gw_t1 (List.mem_of_getElem? (i := 7) rfl) rfl), ⟨by decide +kernel, by decide +kernel, by decide +kernel⟩, by decide +kernel⟩
theorem I_W_tie : Cond.instanceMethod me_W_tie.1 ∈ gw ∧ Cond.selects me_W_tie.1.cls me_W_tie.1 me_W_tie.1 ∈ gw := ⟨(gw_t3 (List.mem_of_getElem? (i := 162) rfl) rfl), (gw_s (q := (⟨"LineRules$Weights", "tie", "()V"⟩, 6)) (by decide +kernel) rfl)⟩
def me_W_shorten : gs_M := (⟨"LineRules$Weights", "shorten", "([J)V"⟩, prog_9_method_10_code, 5, none)
theorem Y_W_shorten : gY me_W_shorten 1 := ⟨(gw_t3 (List.mem_of_getElem? (i := 168) rfl) rfl), (gw_t1 (List.mem_of_getElem? (i := 7) rfl) rfl), ⟨by decide +kernel, by decide +kernel, by decide +kernel⟩, by decide +kernel⟩
theorem I_W_shorten : Cond.instanceMethod me_W_shorten.1 ∈ gw ∧ Cond.selects me_W_shorten.1.cls me_W_shorten.1 me_W_shorten.1 ∈ gw := ⟨(gw_t3 (List.mem_of_getElem? (i := 167) rfl) rfl), (gw_s (q := (⟨"LineRules$Weights", "shorten", "([J)V"⟩, 6)) (by decide +kernel) rfl)⟩
def me_J_abs : gs_M := (⟨"java/lang/Math", "abs", "(J)J"⟩, prog_12_method_61_code, 2, (some .long))
theorem Y_J_abs : gY me_J_abs 1 := ⟨(gw_t3 (List.mem_of_getElem? (i := 171) rfl) rfl), (gw_t1 (List.mem_of_getElem? (i := 11) rfl) rfl), ⟨by decide +kernel, by decide +kernel, by decide +kernel⟩, by decide +kernel⟩
theorem I_J_abs : Cond.static me_J_abs.1 ∈ gw := (gw_t3 (List.mem_of_getElem? (i := 170) rfl) rfl)
def me_W_commonDivisor : gs_M := (⟨"LineRules$Weights", "commonDivisor", "(JJ)J"⟩, prog_9_method_11_code, 11, (some .long))
theorem Y_W_commonDivisor : gY me_W_commonDivisor 2 := ⟨(gw_t3 (List.mem_of_getElem? (i := 174) rfl) rfl), (gw_t1 (List.mem_of_getElem? (i := 7) rfl) rfl), ⟨by decide +kernel, by decide +kernel, by decide +kernel⟩, by decide +kernel⟩
theorem I_W_commonDivisor : Cond.static me_W_commonDivisor.1 ∈ gw := (gw_t3 (List.mem_of_getElem? (i := 173) rfl) rfl)
def me_W_writeWeight : gs_M := (⟨"LineRules$Weights", "writeWeight", "(I[J)V"⟩, prog_9_method_9_code, 7, none)
theorem Y_W_writeWeight : gY me_W_writeWeight 2 := ⟨(gw_t3 (List.mem_of_getElem? (i := 178) rfl) rfl), (gw_t1 (List.mem_of_getElem? (i := 7) rfl) rfl), ⟨by decide +kernel, by decide +kernel, by decide +kernel⟩, by decide +kernel⟩
theorem I_W_writeWeight : Cond.instanceMethod me_W_writeWeight.1 ∈ gw ∧ Cond.selects me_W_writeWeight.1.cls me_W_writeWeight.1 me_W_writeWeight.1 ∈ gw := ⟨(gw_t3 (List.mem_of_getElem? (i := 177) rfl) rfl), (gw_s (q := (⟨"LineRules$Weights", "writeWeight", "(I[J)V"⟩, 6)) (by decide +kernel) rfl)⟩
def me_A_weight : gs_M := (⟨"LineRules", "weight", "(II)I"⟩, prog_1_method_15_code, 3, (some .int))
theorem Y_A_weight : gY me_A_weight 2 := ⟨(gw_t3 (List.mem_of_getElem? (i := 182) rfl) rfl), (gw_t1 (List.mem_of_getElem? (i := 1) rfl) rfl), ⟨by decide +kernel, by decide +kernel, by decide +kernel⟩, by decide +kernel⟩
theorem I_A_weight : Cond.instanceMethod me_A_weight.1 ∈ gw ∧ Cond.selects me_A_weight.1.cls me_A_weight.1 me_A_weight.1 ∈ gw := ⟨(gw_t3 (List.mem_of_getElem? (i := 180) rfl) rfl), (gw_t3 (List.mem_of_getElem? (i := 181) rfl) rfl)⟩
def me_W_at : gs_M := (⟨"LineRules$Weights", "at", "(II)I"⟩, prog_9_method_4_code, 3, (some .int))
theorem Y_W_at : gY me_W_at 2 := ⟨(gw_t3 (List.mem_of_getElem? (i := 186) rfl) rfl), (gw_t1 (List.mem_of_getElem? (i := 7) rfl) rfl), ⟨by decide +kernel, by decide +kernel, by decide +kernel⟩, by decide +kernel⟩
theorem I_W_at : Cond.instanceMethod me_W_at.1 ∈ gw ∧ Cond.selects me_W_at.1.cls me_W_at.1 me_W_at.1 ∈ gw := ⟨(gw_t3 (List.mem_of_getElem? (i := 184) rfl) rfl), (gw_t3 (List.mem_of_getElem? (i := 185) rfl) rfl)⟩
def me_A_orphan : gs_M := (⟨"LineRules", "orphan", "()I"⟩, prog_1_method_16_code, 1, (some .int))
theorem Y_A_orphan : gY me_A_orphan 0 := ⟨(gw_t3 (List.mem_of_getElem? (i := 191) rfl) rfl), (gw_t1 (List.mem_of_getElem? (i := 1) rfl) rfl), ⟨by decide +kernel, by decide +kernel, by decide +kernel⟩, by decide +kernel⟩
theorem I_A_orphan : Cond.instanceMethod me_A_orphan.1 ∈ gw ∧ Cond.selects me_A_orphan.1.cls me_A_orphan.1 me_A_orphan.1 ∈ gw := ⟨(gw_t3 (List.mem_of_getElem? (i := 189) rfl) rfl), (gw_t3 (List.mem_of_getElem? (i := 190) rfl) rfl)⟩
def me_O_length : gs_M := (⟨"LineRules$Orphan", "length", "()I"⟩, prog_3_method_3_code, 1, (some .int))
theorem Y_O_length : gY me_O_length 0 := ⟨(gw_t3 (List.mem_of_getElem? (i := 195) rfl) rfl), (gw_t1 (List.mem_of_getElem? (i := 8) rfl) rfl), ⟨by decide +kernel, by decide +kernel, by decide +kernel⟩, by decide +kernel⟩
theorem I_O_length : Cond.instanceMethod me_O_length.1 ∈ gw ∧ Cond.selects me_O_length.1.cls me_O_length.1 me_O_length.1 ∈ gw := ⟨(gw_t3 (List.mem_of_getElem? (i := 193) rfl) rfl), (gw_t3 (List.mem_of_getElem? (i := 194) rfl) rfl)⟩
def me_O_find : gs_M := (⟨"LineRules$Orphan", "find", "()V"⟩, prog_3_method_5_code, 1, none)
theorem Y_O_find : gY me_O_find 0 := ⟨(gw_t3 (List.mem_of_getElem? (i := 199) rfl) rfl), (gw_t1 (List.mem_of_getElem? (i := 8) rfl) rfl), ⟨by decide +kernel, by decide +kernel, by decide +kernel⟩, by decide +kernel⟩
theorem I_O_find : Cond.instanceMethod me_O_find.1 ∈ gw ∧ Cond.selects me_O_find.1.cls me_O_find.1 me_O_find.1 ∈ gw := ⟨(gw_t3 (List.mem_of_getElem? (i := 198) rfl) rfl), (gw_s (q := (⟨"LineRules$Orphan", "find", "()V"⟩, 10)) (by decide +kernel) rfl)⟩
def me_O_search : gs_M := (⟨"LineRules$Orphan", "search", "()I"⟩, prog_3_method_6_code, 3, (some .int))
theorem Y_O_search : gY me_O_search 0 := ⟨(gw_t3 (List.mem_of_getElem? (i := 204) rfl) rfl), (gw_t1 (List.mem_of_getElem? (i := 8) rfl) rfl), ⟨by decide +kernel, by decide +kernel, by decide +kernel⟩, by decide +kernel⟩
theorem I_O_search : Cond.instanceMethod me_O_search.1 ∈ gw ∧ Cond.selects me_O_search.1.cls me_O_search.1 me_O_search.1 ∈ gw := ⟨(gw_t3 (List.mem_of_getElem? (i := 203) rfl) rfl), (gw_s (q := (⟨"LineRules$Orphan", "search", "()I"⟩, 10)) (by decide +kernel) rfl)⟩
def me_O_meet : gs_M := (⟨"LineRules$Orphan", "meet", "(JII)V"⟩, prog_3_method_7_code, 6, none)
theorem Y_O_meet : gY me_O_meet 3 := ⟨(gw_t3 (List.mem_of_getElem? (i := 209) rfl) rfl), (gw_t1 (List.mem_of_getElem? (i := 8) rfl) rfl), ⟨by decide +kernel, by decide +kernel, by decide +kernel⟩, by decide +kernel⟩
theorem I_O_meet : Cond.instanceMethod me_O_meet.1 ∈ gw ∧ Cond.selects me_O_meet.1.cls me_O_meet.1 me_O_meet.1 ∈ gw := ⟨(gw_t3 (List.mem_of_getElem? (i := 208) rfl) rfl), (gw_s (q := (⟨"LineRules$Orphan", "meet", "(JII)V"⟩, 10)) (by decide +kernel) rfl)⟩
def me_O_spread : gs_M := (⟨"LineRules$Orphan", "spread", "(J)V"⟩, prog_3_method_8_code, 5, none)
theorem Y_O_spread : gY me_O_spread 1 := ⟨(gw_t3 (List.mem_of_getElem? (i := 213) rfl) rfl), (gw_t1 (List.mem_of_getElem? (i := 8) rfl) rfl), ⟨by decide +kernel, by decide +kernel, by decide +kernel⟩, by decide +kernel⟩
theorem I_O_spread : Cond.instanceMethod me_O_spread.1 ∈ gw ∧ Cond.selects me_O_spread.1.cls me_O_spread.1 me_O_spread.1 ∈ gw := ⟨(gw_t3 (List.mem_of_getElem? (i := 212) rfl) rfl), (gw_s (q := (⟨"LineRules$Orphan", "spread", "(J)V"⟩, 10)) (by decide +kernel) rfl)⟩
def me_O_write : gs_M := (⟨"LineRules$Orphan", "write", "(II)I"⟩, prog_3_method_9_code, 6, (some .int))
theorem Y_O_write : gY me_O_write 2 := ⟨(gw_t3 (List.mem_of_getElem? (i := 219) rfl) rfl), (gw_t1 (List.mem_of_getElem? (i := 8) rfl) rfl), ⟨by decide +kernel, by decide +kernel, by decide +kernel⟩, by decide +kernel⟩
theorem I_O_write : Cond.instanceMethod me_O_write.1 ∈ gw ∧ Cond.selects me_O_write.1.cls me_O_write.1 me_O_write.1 ∈ gw := ⟨(gw_t3 (List.mem_of_getElem? (i := 218) rfl) rfl), (gw_s (q := (⟨"LineRules$Orphan", "write", "(II)I"⟩, 10)) (by decide +kernel) rfl)⟩
def me_A_orphanAt : gs_M := (⟨"LineRules", "orphanAt", "(I)I"⟩, prog_1_method_17_code, 2, (some .int))
theorem Y_A_orphanAt : gY me_A_orphanAt 1 := ⟨(gw_t3 (List.mem_of_getElem? (i := 223) rfl) rfl), (gw_t1 (List.mem_of_getElem? (i := 1) rfl) rfl), ⟨by decide +kernel, by decide +kernel, by decide +kernel⟩, by decide +kernel⟩
theorem I_A_orphanAt : Cond.instanceMethod me_A_orphanAt.1 ∈ gw ∧ Cond.selects me_A_orphanAt.1.cls me_A_orphanAt.1 me_A_orphanAt.1 ∈ gw := ⟨(gw_t3 (List.mem_of_getElem? (i := 221) rfl) rfl), (gw_t3 (List.mem_of_getElem? (i := 222) rfl) rfl)⟩
def me_O_cell : gs_M := (⟨"LineRules$Orphan", "cell", "(I)I"⟩, prog_3_method_4_code, 2, (some .int))
theorem Y_O_cell : gY me_O_cell 1 := ⟨(gw_t3 (List.mem_of_getElem? (i := 227) rfl) rfl), (gw_t1 (List.mem_of_getElem? (i := 8) rfl) rfl), ⟨by decide +kernel, by decide +kernel, by decide +kernel⟩, by decide +kernel⟩
theorem I_O_cell : Cond.instanceMethod me_O_cell.1 ∈ gw ∧ Cond.selects me_O_cell.1.cls me_O_cell.1 me_O_cell.1 ∈ gw := ⟨(gw_t3 (List.mem_of_getElem? (i := 225) rfl) rfl), (gw_t3 (List.mem_of_getElem? (i := 226) rfl) rfl)⟩
def me_A_before : gs_M := (⟨"LineRules", "before", "()I"⟩, prog_1_method_18_code, 1, (some .int))
theorem Y_A_before : gY me_A_before 0 := ⟨(gw_t3 (List.mem_of_getElem? (i := 231) rfl) rfl), (gw_t1 (List.mem_of_getElem? (i := 1) rfl) rfl), ⟨by decide +kernel, by decide +kernel, by decide +kernel⟩, by decide +kernel⟩
theorem I_A_before : Cond.instanceMethod me_A_before.1 ∈ gw ∧ Cond.selects me_A_before.1.cls me_A_before.1 me_A_before.1 ∈ gw := ⟨(gw_t3 (List.mem_of_getElem? (i := 229) rfl) rfl), (gw_t3 (List.mem_of_getElem? (i := 230) rfl) rfl)⟩
def me_H_exists : gs_M := (⟨"LineRules$Past", "exists", "()Z"⟩, prog_5_method_3_code, 1, (some .boolean))
theorem Y_H_exists : gY me_H_exists 0 := ⟨(gw_t3 (List.mem_of_getElem? (i := 235) rfl) rfl), (gw_t1 (List.mem_of_getElem? (i := 9) rfl) rfl), ⟨by decide +kernel, by decide +kernel, by decide +kernel⟩, by decide +kernel⟩
theorem I_H_exists : Cond.instanceMethod me_H_exists.1 ∈ gw ∧ Cond.selects me_H_exists.1.cls me_H_exists.1 me_H_exists.1 ∈ gw := ⟨(gw_t3 (List.mem_of_getElem? (i := 233) rfl) rfl), (gw_t3 (List.mem_of_getElem? (i := 234) rfl) rfl)⟩
def me_H_find : gs_M := (⟨"LineRules$Past", "find", "()V"⟩, prog_5_method_6_code, 2, none)
theorem Y_H_find : gY me_H_find 0 := ⟨(gw_t3 (List.mem_of_getElem? (i := 239) rfl) rfl), (gw_t1 (List.mem_of_getElem? (i := 9) rfl) rfl), ⟨by decide +kernel, by decide +kernel, by decide +kernel⟩, by decide +kernel⟩
theorem I_H_find : Cond.instanceMethod me_H_find.1 ∈ gw ∧ Cond.selects me_H_find.1.cls me_H_find.1 me_H_find.1 ∈ gw := ⟨(gw_t3 (List.mem_of_getElem? (i := 238) rfl) rfl), (gw_s (q := (⟨"LineRules$Past", "find", "()V"⟩, 10)) (by decide +kernel) rfl)⟩
def me_H_comesBackTo : gs_M := (⟨"LineRules$Past", "comesBackTo", "(I)Z"⟩, prog_5_method_8_code, 3, (some .boolean))
theorem Y_H_comesBackTo : gY me_H_comesBackTo 1 := ⟨(gw_t4 (List.mem_of_getElem? (i := 3) rfl) rfl), (gw_t1 (List.mem_of_getElem? (i := 9) rfl) rfl), ⟨by decide +kernel, by decide +kernel, by decide +kernel⟩, by decide +kernel⟩
theorem I_H_comesBackTo : Cond.instanceMethod me_H_comesBackTo.1 ∈ gw ∧ Cond.selects me_H_comesBackTo.1.cls me_H_comesBackTo.1 me_H_comesBackTo.1 ∈ gw := ⟨(gw_t4 (List.mem_of_getElem? (i := 2) rfl) rfl), (gw_s (q := (⟨"LineRules$Past", "comesBackTo", "(I)Z"⟩, 10)) (by decide +kernel) rfl)⟩
def me_H_due : gs_M := (⟨"LineRules$Past", "due", "(I)I"⟩, prog_5_method_7_code, 2, (some .int))
theorem Y_H_due : gY me_H_due 1 := ⟨(gw_t4 (List.mem_of_getElem? (i := 7) rfl) rfl), (gw_t1 (List.mem_of_getElem? (i := 9) rfl) rfl), ⟨by decide +kernel, by decide +kernel, by decide +kernel⟩, by decide +kernel⟩
theorem I_H_due : Cond.instanceMethod me_H_due.1 ∈ gw ∧ Cond.selects me_H_due.1.cls me_H_due.1 me_H_due.1 ∈ gw := ⟨(gw_t4 (List.mem_of_getElem? (i := 6) rfl) rfl), (gw_s (q := (⟨"LineRules$Past", "due", "(I)I"⟩, 10)) (by decide +kernel) rfl)⟩
def me_H_leadingInto : gs_M := (⟨"LineRules$Past", "leadingInto", "(JI)J"⟩, prog_5_method_9_code, 7, (some .long))
theorem Y_H_leadingInto : gY me_H_leadingInto 2 := ⟨(gw_t4 (List.mem_of_getElem? (i := 12) rfl) rfl), (gw_t1 (List.mem_of_getElem? (i := 9) rfl) rfl), ⟨by decide +kernel, by decide +kernel, by decide +kernel⟩, by decide +kernel⟩
theorem I_H_leadingInto : Cond.instanceMethod me_H_leadingInto.1 ∈ gw ∧ Cond.selects me_H_leadingInto.1.cls me_H_leadingInto.1 me_H_leadingInto.1 ∈ gw := ⟨(gw_t4 (List.mem_of_getElem? (i := 11) rfl) rfl), (gw_s (q := (⟨"LineRules$Past", "leadingInto", "(JI)J"⟩, 10)) (by decide +kernel) rfl)⟩
def me_H_trace : gs_M := (⟨"LineRules$Past", "trace", "(I)V"⟩, prog_5_method_10_code, 5, none)
theorem Y_H_trace : gY me_H_trace 1 := ⟨(gw_t4 (List.mem_of_getElem? (i := 17) rfl) rfl), (gw_t1 (List.mem_of_getElem? (i := 9) rfl) rfl), ⟨by decide +kernel, by decide +kernel, by decide +kernel⟩, by decide +kernel⟩
theorem I_H_trace : Cond.instanceMethod me_H_trace.1 ∈ gw ∧ Cond.selects me_H_trace.1.cls me_H_trace.1 me_H_trace.1 ∈ gw := ⟨(gw_t4 (List.mem_of_getElem? (i := 16) rfl) rfl), (gw_s (q := (⟨"LineRules$Past", "trace", "(I)V"⟩, 10)) (by decide +kernel) rfl)⟩
def me_H_leastCell : gs_M := (⟨"LineRules$Past", "leastCell", "(II)I"⟩, prog_5_method_11_code, 6, (some .int))
theorem Y_H_leastCell : gY me_H_leastCell 2 := ⟨(gw_t4 (List.mem_of_getElem? (i := 21) rfl) rfl), (gw_t1 (List.mem_of_getElem? (i := 9) rfl) rfl), ⟨by decide +kernel, by decide +kernel, by decide +kernel⟩, by decide +kernel⟩
theorem I_H_leastCell : Cond.instanceMethod me_H_leastCell.1 ∈ gw ∧ Cond.selects me_H_leastCell.1.cls me_H_leastCell.1 me_H_leastCell.1 ∈ gw := ⟨(gw_t4 (List.mem_of_getElem? (i := 20) rfl) rfl), (gw_s (q := (⟨"LineRules$Past", "leastCell", "(II)I"⟩, 10)) (by decide +kernel) rfl)⟩
def me_A_beforeAt : gs_M := (⟨"LineRules", "beforeAt", "(I)I"⟩, prog_1_method_19_code, 2, (some .int))
theorem Y_A_beforeAt : gY me_A_beforeAt 1 := ⟨(gw_t4 (List.mem_of_getElem? (i := 26) rfl) rfl), (gw_t1 (List.mem_of_getElem? (i := 1) rfl) rfl), ⟨by decide +kernel, by decide +kernel, by decide +kernel⟩, by decide +kernel⟩
theorem I_A_beforeAt : Cond.instanceMethod me_A_beforeAt.1 ∈ gw ∧ Cond.selects me_A_beforeAt.1.cls me_A_beforeAt.1 me_A_beforeAt.1 ∈ gw := ⟨(gw_t4 (List.mem_of_getElem? (i := 24) rfl) rfl), (gw_t4 (List.mem_of_getElem? (i := 25) rfl) rfl)⟩
def me_H_cell : gs_M := (⟨"LineRules$Past", "cell", "(I)I"⟩, prog_5_method_4_code, 2, (some .int))
theorem Y_H_cell : gY me_H_cell 1 := ⟨(gw_t4 (List.mem_of_getElem? (i := 30) rfl) rfl), (gw_t1 (List.mem_of_getElem? (i := 9) rfl) rfl), ⟨by decide +kernel, by decide +kernel, by decide +kernel⟩, by decide +kernel⟩
theorem I_H_cell : Cond.instanceMethod me_H_cell.1 ∈ gw ∧ Cond.selects me_H_cell.1.cls me_H_cell.1 me_H_cell.1 ∈ gw := ⟨(gw_t4 (List.mem_of_getElem? (i := 28) rfl) rfl), (gw_t4 (List.mem_of_getElem? (i := 29) rfl) rfl)⟩
def me_A_ways : gs_M := (⟨"LineRules", "ways", "()J"⟩, prog_1_method_20_code, 1, (some .long))
theorem Y_A_ways : gY me_A_ways 0 := ⟨(gw_t4 (List.mem_of_getElem? (i := 35) rfl) rfl), (gw_t1 (List.mem_of_getElem? (i := 1) rfl) rfl), ⟨by decide +kernel, by decide +kernel, by decide +kernel⟩, by decide +kernel⟩
theorem I_A_ways : Cond.instanceMethod me_A_ways.1 ∈ gw ∧ Cond.selects me_A_ways.1.cls me_A_ways.1 me_A_ways.1 ∈ gw := ⟨(gw_t4 (List.mem_of_getElem? (i := 33) rfl) rfl), (gw_t4 (List.mem_of_getElem? (i := 34) rfl) rfl)⟩
def me_H_count : gs_M := (⟨"LineRules$Past", "count", "()J"⟩, prog_5_method_5_code, 2, (some .long))
theorem Y_H_count : gY me_H_count 0 := ⟨(gw_t4 (List.mem_of_getElem? (i := 39) rfl) rfl), (gw_t1 (List.mem_of_getElem? (i := 9) rfl) rfl), ⟨by decide +kernel, by decide +kernel, by decide +kernel⟩, by decide +kernel⟩
theorem I_H_count : Cond.instanceMethod me_H_count.1 ∈ gw ∧ Cond.selects me_H_count.1.cls me_H_count.1 me_H_count.1 ∈ gw := ⟨(gw_t4 (List.mem_of_getElem? (i := 37) rfl) rfl), (gw_t4 (List.mem_of_getElem? (i := 38) rfl) rfl)⟩
def me_H_walksBackTo : gs_M := (⟨"LineRules$Past", "walksBackTo", "(I)J"⟩, prog_5_method_12_code, 3, (some .long))
theorem Y_H_walksBackTo : gY me_H_walksBackTo 1 := ⟨(gw_t4 (List.mem_of_getElem? (i := 43) rfl) rfl), (gw_t1 (List.mem_of_getElem? (i := 9) rfl) rfl), ⟨by decide +kernel, by decide +kernel, by decide +kernel⟩, by decide +kernel⟩
theorem I_H_walksBackTo : Cond.instanceMethod me_H_walksBackTo.1 ∈ gw ∧ Cond.selects me_H_walksBackTo.1.cls me_H_walksBackTo.1 me_H_walksBackTo.1 ∈ gw := ⟨(gw_t4 (List.mem_of_getElem? (i := 42) rfl) rfl), (gw_s (q := (⟨"LineRules$Past", "walksBackTo", "(I)J"⟩, 10)) (by decide +kernel) rfl)⟩
def me_H_goOn : gs_M := (⟨"LineRules$Past", "goOn", "(I)V"⟩, prog_5_method_13_code, 8, none)
theorem Y_H_goOn : gY me_H_goOn 1 := ⟨(gw_t4 (List.mem_of_getElem? (i := 48) rfl) rfl), (gw_t1 (List.mem_of_getElem? (i := 9) rfl) rfl), ⟨by decide +kernel, by decide +kernel, by decide +kernel⟩, by decide +kernel⟩
theorem I_H_goOn : Cond.instanceMethod me_H_goOn.1 ∈ gw ∧ Cond.selects me_H_goOn.1.cls me_H_goOn.1 me_H_goOn.1 ∈ gw := ⟨(gw_t4 (List.mem_of_getElem? (i := 47) rfl) rfl), (gw_s (q := (⟨"LineRules$Past", "goOn", "(I)V"⟩, 10)) (by decide +kernel) rfl)⟩
def me_Y_fillR : gs_M := (⟨"java/util/Arrays", "fill", "([JIIJ)V"⟩, prog_14_method_102_code, 6, none)
theorem Y_Y_fillR : gY me_Y_fillR 4 := ⟨(gw_t4 (List.mem_of_getElem? (i := 51) rfl) rfl), (gw_t1 (List.mem_of_getElem? (i := 12) rfl) rfl), ⟨by decide +kernel, by decide +kernel, by decide +kernel⟩, by decide +kernel⟩
theorem I_Y_fillR : Cond.static me_Y_fillR.1 ∈ gw := (gw_t4 (List.mem_of_getElem? (i := 50) rfl) rfl)
def me_Y_rangeCheck : gs_M := (⟨"java/util/Arrays", "rangeCheck", "(III)V"⟩, prog_14_method_30_code, 3, none)
theorem Y_Y_rangeCheck : gY me_Y_rangeCheck 3 := ⟨(gw_t4 (List.mem_of_getElem? (i := 54) rfl) rfl), (gw_t1 (List.mem_of_getElem? (i := 12) rfl) rfl), ⟨by decide +kernel, by decide +kernel, by decide +kernel⟩, by decide +kernel⟩
theorem I_Y_rangeCheck : Cond.static me_Y_rangeCheck.1 ∈ gw := (gw_t4 (List.mem_of_getElem? (i := 53) rfl) rfl)
def me_M_init : gs_M := (⟨"LineRulesModel", "<init>", "()V"⟩, prog_11_method_1_code, 1, none)
theorem Y_M_init : gY me_M_init 0 := ⟨(gw_t4 (List.mem_of_getElem? (i := 60) rfl) rfl), (gw_t1 (List.mem_of_getElem? (i := 10) rfl) rfl), ⟨by decide +kernel, by decide +kernel, by decide +kernel⟩, by decide +kernel⟩
def me_M_load : gs_M := (⟨"LineRulesModel", "load", "(I)I"⟩, prog_11_method_2_code, 2, (some .int))
theorem Y_M_load : gY me_M_load 1 := ⟨(gw_t4 (List.mem_of_getElem? (i := 229) rfl) rfl), (gw_t1 (List.mem_of_getElem? (i := 10) rfl) rfl), ⟨by decide +kernel, by decide +kernel, by decide +kernel⟩, by decide +kernel⟩
theorem I_M_load : Cond.instanceMethod me_M_load.1 ∈ gw ∧ Cond.selects me_M_load.1.cls me_M_load.1 me_M_load.1 ∈ gw := ⟨(gw_t4 (List.mem_of_getElem? (i := 227) rfl) rfl), (gw_t4 (List.mem_of_getElem? (i := 228) rfl) rfl)⟩
def me_M_rule : gs_M := (⟨"LineRulesModel", "rule", "()I"⟩, prog_11_method_19_code, 3, (some .int))
theorem Y_M_rule : gY me_M_rule 0 := ⟨(gw_t4 (List.mem_of_getElem? (i := 233) rfl) rfl), (gw_t1 (List.mem_of_getElem? (i := 10) rfl) rfl), ⟨by decide +kernel, by decide +kernel, by decide +kernel⟩, by decide +kernel⟩
theorem I_M_rule : Cond.instanceMethod me_M_rule.1 ∈ gw ∧ Cond.selects me_M_rule.1.cls me_M_rule.1 me_M_rule.1 ∈ gw := ⟨(gw_t4 (List.mem_of_getElem? (i := 231) rfl) rfl), (gw_t4 (List.mem_of_getElem? (i := 232) rfl) rfl)⟩
def me_M_readAll : gs_M := (⟨"LineRulesModel", "readAll", "()I"⟩, prog_11_method_17_code, 3, (some .int))
theorem Y_M_readAll : gY me_M_readAll 0 := ⟨(gw_t4 (List.mem_of_getElem? (i := 237) rfl) rfl), (gw_t1 (List.mem_of_getElem? (i := 10) rfl) rfl), ⟨by decide +kernel, by decide +kernel, by decide +kernel⟩, by decide +kernel⟩
theorem I_M_readAll : Cond.instanceMethod me_M_readAll.1 ∈ gw ∧ Cond.selects me_M_readAll.1.cls me_M_readAll.1 me_M_readAll.1 ∈ gw := ⟨(gw_t4 (List.mem_of_getElem? (i := 236) rfl) rfl), (gw_s (q := (⟨"LineRulesModel", "readAll", "()I"⟩, 54)) (by decide +kernel) rfl)⟩
def me_M_powerOf : gs_M := (⟨"LineRulesModel", "powerOf", "(II)I"⟩, prog_11_method_3_code, 4, (some .int))
theorem Y_M_powerOf : gY me_M_powerOf 2 := ⟨(gw_t5 (List.mem_of_getElem? (i := 0) rfl) rfl), (gw_t1 (List.mem_of_getElem? (i := 10) rfl) rfl), ⟨by decide +kernel, by decide +kernel, by decide +kernel⟩, by decide +kernel⟩
theorem I_M_powerOf : Cond.static me_M_powerOf.1 ∈ gw := (gw_t4 (List.mem_of_getElem? (i := 239) rfl) rfl)
def me_M_readRow : gs_M := (⟨"LineRulesModel", "readRow", "(I)I"⟩, prog_11_method_16_code, 3, (some .int))
theorem Y_M_readRow : gY me_M_readRow 1 := ⟨(gw_t5 (List.mem_of_getElem? (i := 4) rfl) rfl), (gw_t1 (List.mem_of_getElem? (i := 10) rfl) rfl), ⟨by decide +kernel, by decide +kernel, by decide +kernel⟩, by decide +kernel⟩
theorem I_M_readRow : Cond.instanceMethod me_M_readRow.1 ∈ gw ∧ Cond.selects me_M_readRow.1.cls me_M_readRow.1 me_M_readRow.1 ∈ gw := ⟨(gw_t5 (List.mem_of_getElem? (i := 3) rfl) rfl), (gw_s (q := (⟨"LineRulesModel", "readRow", "(I)I"⟩, 54)) (by decide +kernel) rfl)⟩
def me_M_work : gs_M := (⟨"LineRulesModel", "work", "(I)I"⟩, prog_11_method_15_code, 6, (some .int))
theorem Y_M_work : gY me_M_work 1 := ⟨(gw_t5 (List.mem_of_getElem? (i := 8) rfl) rfl), (gw_t1 (List.mem_of_getElem? (i := 10) rfl) rfl), ⟨by decide +kernel, by decide +kernel, by decide +kernel⟩, by decide +kernel⟩
theorem I_M_work : Cond.instanceMethod me_M_work.1 ∈ gw ∧ Cond.selects me_M_work.1.cls me_M_work.1 me_M_work.1 ∈ gw := ⟨(gw_t5 (List.mem_of_getElem? (i := 7) rfl) rfl), (gw_s (q := (⟨"LineRulesModel", "work", "(I)I"⟩, 54)) (by decide +kernel) rfl)⟩
def me_M_fresh : gs_M := (⟨"LineRulesModel", "fresh", "(I)V"⟩, prog_11_method_4_code, 2, none)
theorem Y_M_fresh : gY me_M_fresh 1 := ⟨(gw_t5 (List.mem_of_getElem? (i := 12) rfl) rfl), (gw_t1 (List.mem_of_getElem? (i := 10) rfl) rfl), ⟨by decide +kernel, by decide +kernel, by decide +kernel⟩, by decide +kernel⟩
theorem I_M_fresh : Cond.instanceMethod me_M_fresh.1 ∈ gw ∧ Cond.selects me_M_fresh.1.cls me_M_fresh.1 me_M_fresh.1 ∈ gw := ⟨(gw_t5 (List.mem_of_getElem? (i := 11) rfl) rfl), (gw_s (q := (⟨"LineRulesModel", "fresh", "(I)V"⟩, 54)) (by decide +kernel) rfl)⟩
def me_M_begins : gs_M := (⟨"LineRulesModel", "begins", "(II)Z"⟩, prog_11_method_13_code, 3, (some .boolean))
theorem Y_M_begins : gY me_M_begins 2 := ⟨(gw_t5 (List.mem_of_getElem? (i := 16) rfl) rfl), (gw_t1 (List.mem_of_getElem? (i := 10) rfl) rfl), ⟨by decide +kernel, by decide +kernel, by decide +kernel⟩, by decide +kernel⟩
theorem I_M_begins : Cond.instanceMethod me_M_begins.1 ∈ gw ∧ Cond.selects me_M_begins.1.cls me_M_begins.1 me_M_begins.1 ∈ gw := ⟨(gw_t5 (List.mem_of_getElem? (i := 15) rfl) rfl), (gw_s (q := (⟨"LineRulesModel", "begins", "(II)Z"⟩, 54)) (by decide +kernel) rfl)⟩
def me_M_operand : gs_M := (⟨"LineRulesModel", "operand", "(I)V"⟩, prog_11_method_6_code, 3, none)
theorem Y_M_operand : gY me_M_operand 1 := ⟨(gw_t5 (List.mem_of_getElem? (i := 20) rfl) rfl), (gw_t1 (List.mem_of_getElem? (i := 10) rfl) rfl), ⟨by decide +kernel, by decide +kernel, by decide +kernel⟩, by decide +kernel⟩
theorem I_M_operand : Cond.instanceMethod me_M_operand.1 ∈ gw ∧ Cond.selects me_M_operand.1.cls me_M_operand.1 me_M_operand.1 ∈ gw := ⟨(gw_t5 (List.mem_of_getElem? (i := 19) rfl) rfl), (gw_s (q := (⟨"LineRulesModel", "operand", "(I)V"⟩, 54)) (by decide +kernel) rfl)⟩
def me_M_open : gs_M := (⟨"LineRulesModel", "open", "(II)V"⟩, prog_11_method_5_code, 3, none)
theorem Y_M_open : gY me_M_open 2 := ⟨(gw_t5 (List.mem_of_getElem? (i := 24) rfl) rfl), (gw_t1 (List.mem_of_getElem? (i := 10) rfl) rfl), ⟨by decide +kernel, by decide +kernel, by decide +kernel⟩, by decide +kernel⟩
theorem I_M_open : Cond.instanceMethod me_M_open.1 ∈ gw ∧ Cond.selects me_M_open.1.cls me_M_open.1 me_M_open.1 ∈ gw := ⟨(gw_t5 (List.mem_of_getElem? (i := 23) rfl) rfl), (gw_s (q := (⟨"LineRulesModel", "open", "(II)V"⟩, 54)) (by decide +kernel) rfl)⟩
def me_M_goesOn : gs_M := (⟨"LineRulesModel", "goesOn", "(I)Z"⟩, prog_11_method_14_code, 3, (some .boolean))
theorem Y_M_goesOn : gY me_M_goesOn 1 := ⟨(gw_t5 (List.mem_of_getElem? (i := 28) rfl) rfl), (gw_t1 (List.mem_of_getElem? (i := 10) rfl) rfl), ⟨by decide +kernel, by decide +kernel, by decide +kernel⟩, by decide +kernel⟩
theorem I_M_goesOn : Cond.instanceMethod me_M_goesOn.1 ∈ gw ∧ Cond.selects me_M_goesOn.1.cls me_M_goesOn.1 me_M_goesOn.1 ∈ gw := ⟨(gw_t5 (List.mem_of_getElem? (i := 27) rfl) rfl), (gw_s (q := (⟨"LineRulesModel", "goesOn", "(I)Z"⟩, 54)) (by decide +kernel) rfl)⟩
def me_M_endProduct : gs_M := (⟨"LineRulesModel", "endProduct", "()V"⟩, prog_11_method_7_code, 3, none)
theorem Y_M_endProduct : gY me_M_endProduct 0 := ⟨(gw_t5 (List.mem_of_getElem? (i := 32) rfl) rfl), (gw_t1 (List.mem_of_getElem? (i := 10) rfl) rfl), ⟨by decide +kernel, by decide +kernel, by decide +kernel⟩, by decide +kernel⟩
theorem I_M_endProduct : Cond.instanceMethod me_M_endProduct.1 ∈ gw ∧ Cond.selects me_M_endProduct.1.cls me_M_endProduct.1 me_M_endProduct.1 ∈ gw := ⟨(gw_t5 (List.mem_of_getElem? (i := 31) rfl) rfl), (gw_s (q := (⟨"LineRulesModel", "endProduct", "()V"⟩, 54)) (by decide +kernel) rfl)⟩
def me_M_endSum : gs_M := (⟨"LineRulesModel", "endSum", "()I"⟩, prog_11_method_8_code, 1, (some .int))
theorem Y_M_endSum : gY me_M_endSum 0 := ⟨(gw_t5 (List.mem_of_getElem? (i := 36) rfl) rfl), (gw_t1 (List.mem_of_getElem? (i := 10) rfl) rfl), ⟨by decide +kernel, by decide +kernel, by decide +kernel⟩, by decide +kernel⟩
theorem I_M_endSum : Cond.instanceMethod me_M_endSum.1 ∈ gw ∧ Cond.selects me_M_endSum.1.cls me_M_endSum.1 me_M_endSum.1 ∈ gw := ⟨(gw_t5 (List.mem_of_getElem? (i := 35) rfl) rfl), (gw_s (q := (⟨"LineRulesModel", "endSum", "()I"⟩, 54)) (by decide +kernel) rfl)⟩
def me_M_endTest : gs_M := (⟨"LineRulesModel", "endTest", "()V"⟩, prog_11_method_9_code, 3, none)
theorem Y_M_endTest : gY me_M_endTest 0 := ⟨(gw_t5 (List.mem_of_getElem? (i := 40) rfl) rfl), (gw_t1 (List.mem_of_getElem? (i := 10) rfl) rfl), ⟨by decide +kernel, by decide +kernel, by decide +kernel⟩, by decide +kernel⟩
theorem I_M_endTest : Cond.instanceMethod me_M_endTest.1 ∈ gw ∧ Cond.selects me_M_endTest.1.cls me_M_endTest.1 me_M_endTest.1 ∈ gw := ⟨(gw_t5 (List.mem_of_getElem? (i := 39) rfl) rfl), (gw_s (q := (⟨"LineRulesModel", "endTest", "()V"⟩, 54)) (by decide +kernel) rfl)⟩
def me_M_endBoth : gs_M := (⟨"LineRulesModel", "endBoth", "()V"⟩, prog_11_method_10_code, 2, none)
theorem Y_M_endBoth : gY me_M_endBoth 0 := ⟨(gw_t5 (List.mem_of_getElem? (i := 44) rfl) rfl), (gw_t1 (List.mem_of_getElem? (i := 10) rfl) rfl), ⟨by decide +kernel, by decide +kernel, by decide +kernel⟩, by decide +kernel⟩
theorem I_M_endBoth : Cond.instanceMethod me_M_endBoth.1 ∈ gw ∧ Cond.selects me_M_endBoth.1.cls me_M_endBoth.1 me_M_endBoth.1 ∈ gw := ⟨(gw_t5 (List.mem_of_getElem? (i := 43) rfl) rfl), (gw_s (q := (⟨"LineRulesModel", "endBoth", "()V"⟩, 54)) (by decide +kernel) rfl)⟩
def me_M_endEither : gs_M := (⟨"LineRulesModel", "endEither", "()I"⟩, prog_11_method_11_code, 1, (some .int))
theorem Y_M_endEither : gY me_M_endEither 0 := ⟨(gw_t5 (List.mem_of_getElem? (i := 48) rfl) rfl), (gw_t1 (List.mem_of_getElem? (i := 10) rfl) rfl), ⟨by decide +kernel, by decide +kernel, by decide +kernel⟩, by decide +kernel⟩
theorem I_M_endEither : Cond.instanceMethod me_M_endEither.1 ∈ gw ∧ Cond.selects me_M_endEither.1.cls me_M_endEither.1 me_M_endEither.1 ∈ gw := ⟨(gw_t5 (List.mem_of_getElem? (i := 47) rfl) rfl), (gw_s (q := (⟨"LineRulesModel", "endEither", "()I"⟩, 54)) (by decide +kernel) rfl)⟩
def me_M_endChoice : gs_M := (⟨"LineRulesModel", "endChoice", "()I"⟩, prog_11_method_12_code, 2, (some .int))
theorem Y_M_endChoice : gY me_M_endChoice 0 := ⟨(gw_t5 (List.mem_of_getElem? (i := 52) rfl) rfl), (gw_t1 (List.mem_of_getElem? (i := 10) rfl) rfl), ⟨by decide +kernel, by decide +kernel, by decide +kernel⟩, by decide +kernel⟩
theorem I_M_endChoice : Cond.instanceMethod me_M_endChoice.1 ∈ gw ∧ Cond.selects me_M_endChoice.1.cls me_M_endChoice.1 me_M_endChoice.1 ∈ gw := ⟨(gw_t5 (List.mem_of_getElem? (i := 51) rfl) rfl), (gw_s (q := (⟨"LineRulesModel", "endChoice", "()I"⟩, 54)) (by decide +kernel) rfl)⟩
def me_M_digitSum : gs_M := (⟨"LineRulesModel", "digitSum", "(II)I"⟩, prog_11_method_18_code, 4, (some .int))
theorem Y_M_digitSum : gY me_M_digitSum 2 := ⟨(gw_t5 (List.mem_of_getElem? (i := 55) rfl) rfl), (gw_t1 (List.mem_of_getElem? (i := 10) rfl) rfl), ⟨by decide +kernel, by decide +kernel, by decide +kernel⟩, by decide +kernel⟩
theorem I_M_digitSum : Cond.static me_M_digitSum.1 ∈ gw := (gw_t5 (List.mem_of_getElem? (i := 54) rfl) rfl)
def me_M_next : gs_M := (⟨"LineRulesModel", "next", "(I)I"⟩, prog_11_method_20_code, 2, (some .int))
theorem Y_M_next : gY me_M_next 1 := ⟨(gw_t5 (List.mem_of_getElem? (i := 59) rfl) rfl), (gw_t1 (List.mem_of_getElem? (i := 10) rfl) rfl), ⟨by decide +kernel, by decide +kernel, by decide +kernel⟩, by decide +kernel⟩
theorem I_M_next : Cond.instanceMethod me_M_next.1 ∈ gw ∧ Cond.selects me_M_next.1.cls me_M_next.1 me_M_next.1 ∈ gw := ⟨(gw_t5 (List.mem_of_getElem? (i := 57) rfl) rfl), (gw_t5 (List.mem_of_getElem? (i := 58) rfl) rfl)⟩
def me_M_ring : gs_M := (⟨"LineRulesModel", "ring", "(I)I"⟩, prog_11_method_21_code, 4, (some .int))
theorem Y_M_ring : gY me_M_ring 1 := ⟨(gw_t5 (List.mem_of_getElem? (i := 63) rfl) rfl), (gw_t1 (List.mem_of_getElem? (i := 10) rfl) rfl), ⟨by decide +kernel, by decide +kernel, by decide +kernel⟩, by decide +kernel⟩
theorem I_M_ring : Cond.instanceMethod me_M_ring.1 ∈ gw ∧ Cond.selects me_M_ring.1.cls me_M_ring.1 me_M_ring.1 ∈ gw := ⟨(gw_t5 (List.mem_of_getElem? (i := 61) rfl) rfl), (gw_t5 (List.mem_of_getElem? (i := 62) rfl) rfl)⟩
def me_M_set : gs_M := (⟨"LineRulesModel", "set", "(II)I"⟩, prog_11_method_22_code, 4, (some .int))
theorem Y_M_set : gY me_M_set 2 := ⟨(gw_t5 (List.mem_of_getElem? (i := 67) rfl) rfl), (gw_t1 (List.mem_of_getElem? (i := 10) rfl) rfl), ⟨by decide +kernel, by decide +kernel, by decide +kernel⟩, by decide +kernel⟩
theorem I_M_set : Cond.instanceMethod me_M_set.1 ∈ gw ∧ Cond.selects me_M_set.1.cls me_M_set.1 me_M_set.1 ∈ gw := ⟨(gw_t5 (List.mem_of_getElem? (i := 65) rfl) rfl), (gw_t5 (List.mem_of_getElem? (i := 66) rfl) rfl)⟩
def me_M_get : gs_M := (⟨"LineRulesModel", "get", "(I)I"⟩, prog_11_method_23_code, 2, (some .int))
theorem Y_M_get : gY me_M_get 1 := ⟨(gw_t5 (List.mem_of_getElem? (i := 71) rfl) rfl), (gw_t1 (List.mem_of_getElem? (i := 10) rfl) rfl), ⟨by decide +kernel, by decide +kernel, by decide +kernel⟩, by decide +kernel⟩
theorem I_M_get : Cond.instanceMethod me_M_get.1 ∈ gw ∧ Cond.selects me_M_get.1.cls me_M_get.1 me_M_get.1 ∈ gw := ⟨(gw_t5 (List.mem_of_getElem? (i := 69) rfl) rfl), (gw_t5 (List.mem_of_getElem? (i := 70) rfl) rfl)⟩
def me_M_step : gs_M := (⟨"LineRulesModel", "step", "(I)I"⟩, prog_11_method_25_code, 4, (some .int))
theorem Y_M_step : gY me_M_step 1 := ⟨(gw_t5 (List.mem_of_getElem? (i := 75) rfl) rfl), (gw_t1 (List.mem_of_getElem? (i := 10) rfl) rfl), ⟨by decide +kernel, by decide +kernel, by decide +kernel⟩, by decide +kernel⟩
theorem I_M_step : Cond.instanceMethod me_M_step.1 ∈ gw ∧ Cond.selects me_M_step.1.cls me_M_step.1 me_M_step.1 ∈ gw := ⟨(gw_t5 (List.mem_of_getElem? (i := 73) rfl) rfl), (gw_t5 (List.mem_of_getElem? (i := 74) rfl) rfl)⟩
def me_M_turn : gs_M := (⟨"LineRulesModel", "turn", "()V"⟩, prog_11_method_24_code, 5, none)
theorem Y_M_turn : gY me_M_turn 0 := ⟨(gw_t5 (List.mem_of_getElem? (i := 79) rfl) rfl), (gw_t1 (List.mem_of_getElem? (i := 10) rfl) rfl), ⟨by decide +kernel, by decide +kernel, by decide +kernel⟩, by decide +kernel⟩
theorem I_M_turn : Cond.instanceMethod me_M_turn.1 ∈ gw ∧ Cond.selects me_M_turn.1.cls me_M_turn.1 me_M_turn.1 ∈ gw := ⟨(gw_t5 (List.mem_of_getElem? (i := 78) rfl) rfl), (gw_s (q := (⟨"LineRulesModel", "turn", "()V"⟩, 54)) (by decide +kernel) rfl)⟩
def me_M_population : gs_M := (⟨"LineRulesModel", "population", "(I)I"⟩, prog_11_method_26_code, 4, (some .int))
theorem Y_M_population : gY me_M_population 1 := ⟨(gw_t5 (List.mem_of_getElem? (i := 83) rfl) rfl), (gw_t1 (List.mem_of_getElem? (i := 10) rfl) rfl), ⟨by decide +kernel, by decide +kernel, by decide +kernel⟩, by decide +kernel⟩
theorem I_M_population : Cond.instanceMethod me_M_population.1 ∈ gw ∧ Cond.selects me_M_population.1.cls me_M_population.1 me_M_population.1 ∈ gw := ⟨(gw_t5 (List.mem_of_getElem? (i := 81) rfl) rfl), (gw_t5 (List.mem_of_getElem? (i := 82) rfl) rfl)⟩
def me_M_surjective : gs_M := (⟨"LineRulesModel", "surjective", "()I"⟩, prog_11_method_32_code, 2, (some .int))
theorem Y_M_surjective : gY me_M_surjective 0 := ⟨(gw_t5 (List.mem_of_getElem? (i := 87) rfl) rfl), (gw_t1 (List.mem_of_getElem? (i := 10) rfl) rfl), ⟨by decide +kernel, by decide +kernel, by decide +kernel⟩, by decide +kernel⟩
theorem I_M_surjective : Cond.instanceMethod me_M_surjective.1 ∈ gw ∧ Cond.selects me_M_surjective.1.cls me_M_surjective.1 me_M_surjective.1 ∈ gw := ⟨(gw_t5 (List.mem_of_getElem? (i := 85) rfl) rfl), (gw_t5 (List.mem_of_getElem? (i := 86) rfl) rfl)⟩
def me_M_makesAll : gs_M := (⟨"LineRulesModel", "makesAll", "()Z"⟩, prog_11_method_27_code, 3, (some .boolean))
theorem Y_M_makesAll : gY me_M_makesAll 0 := ⟨(gw_t5 (List.mem_of_getElem? (i := 91) rfl) rfl), (gw_t1 (List.mem_of_getElem? (i := 10) rfl) rfl), ⟨by decide +kernel, by decide +kernel, by decide +kernel⟩, by decide +kernel⟩
theorem I_M_makesAll : Cond.instanceMethod me_M_makesAll.1 ∈ gw ∧ Cond.selects me_M_makesAll.1.cls me_M_makesAll.1 me_M_makesAll.1 ∈ gw := ⟨(gw_t5 (List.mem_of_getElem? (i := 90) rfl) rfl), (gw_s (q := (⟨"LineRulesModel", "makesAll", "()Z"⟩, 54)) (by decide +kernel) rfl)⟩
def me_M_losesSomewhere : gs_M := (⟨"LineRulesModel", "losesSomewhere", "()Z"⟩, prog_11_method_30_code, 4, (some .boolean))
theorem Y_M_losesSomewhere : gY me_M_losesSomewhere 0 := ⟨(gw_t5 (List.mem_of_getElem? (i := 95) rfl) rfl), (gw_t1 (List.mem_of_getElem? (i := 10) rfl) rfl), ⟨by decide +kernel, by decide +kernel, by decide +kernel⟩, by decide +kernel⟩
theorem I_M_losesSomewhere : Cond.instanceMethod me_M_losesSomewhere.1 ∈ gw ∧ Cond.selects me_M_losesSomewhere.1.cls me_M_losesSomewhere.1 me_M_losesSomewhere.1 ∈ gw := ⟨(gw_t5 (List.mem_of_getElem? (i := 94) rfl) rfl), (gw_s (q := (⟨"LineRulesModel", "losesSomewhere", "()Z"⟩, 54)) (by decide +kernel) rfl)⟩
def me_M_comesFrom : gs_M := (⟨"LineRulesModel", "comesFrom", "(II)Z"⟩, prog_11_method_29_code, 7, (some .boolean))
theorem Y_M_comesFrom : gY me_M_comesFrom 2 := ⟨(gw_t5 (List.mem_of_getElem? (i := 99) rfl) rfl), (gw_t1 (List.mem_of_getElem? (i := 10) rfl) rfl), ⟨by decide +kernel, by decide +kernel, by decide +kernel⟩, by decide +kernel⟩
theorem I_M_comesFrom : Cond.instanceMethod me_M_comesFrom.1 ∈ gw ∧ Cond.selects me_M_comesFrom.1.cls me_M_comesFrom.1 me_M_comesFrom.1 ∈ gw := ⟨(gw_t5 (List.mem_of_getElem? (i := 98) rfl) rfl), (gw_s (q := (⟨"LineRulesModel", "comesFrom", "(II)Z"⟩, 54)) (by decide +kernel) rfl)⟩
def me_M_leadsOn : gs_M := (⟨"LineRulesModel", "leadsOn", "(IIZZ)Z"⟩, prog_11_method_28_code, 10, (some .boolean))
theorem Y_M_leadsOn : gY me_M_leadsOn 4 := ⟨(gw_t5 (List.mem_of_getElem? (i := 103) rfl) rfl), (gw_t1 (List.mem_of_getElem? (i := 10) rfl) rfl), ⟨by decide +kernel, by decide +kernel, by decide +kernel⟩, by decide +kernel⟩
theorem I_M_leadsOn : Cond.instanceMethod me_M_leadsOn.1 ∈ gw ∧ Cond.selects me_M_leadsOn.1.cls me_M_leadsOn.1 me_M_leadsOn.1 ∈ gw := ⟨(gw_t5 (List.mem_of_getElem? (i := 102) rfl) rfl), (gw_s (q := (⟨"LineRulesModel", "leadsOn", "(IIZZ)Z"⟩, 54)) (by decide +kernel) rfl)⟩
def me_M_injective : gs_M := (⟨"LineRulesModel", "injective", "()I"⟩, prog_11_method_33_code, 2, (some .int))
theorem Y_M_injective : gY me_M_injective 0 := ⟨(gw_t5 (List.mem_of_getElem? (i := 107) rfl) rfl), (gw_t1 (List.mem_of_getElem? (i := 10) rfl) rfl), ⟨by decide +kernel, by decide +kernel, by decide +kernel⟩, by decide +kernel⟩
theorem I_M_injective : Cond.instanceMethod me_M_injective.1 ∈ gw ∧ Cond.selects me_M_injective.1.cls me_M_injective.1 me_M_injective.1 ∈ gw := ⟨(gw_t5 (List.mem_of_getElem? (i := 105) rfl) rfl), (gw_t5 (List.mem_of_getElem? (i := 106) rfl) rfl)⟩
def me_M_anyPair : gs_M := (⟨"LineRulesModel", "anyPair", "()Z"⟩, prog_11_method_31_code, 4, (some .boolean))
theorem Y_M_anyPair : gY me_M_anyPair 0 := ⟨(gw_t5 (List.mem_of_getElem? (i := 111) rfl) rfl), (gw_t1 (List.mem_of_getElem? (i := 10) rfl) rfl), ⟨by decide +kernel, by decide +kernel, by decide +kernel⟩, by decide +kernel⟩
theorem I_M_anyPair : Cond.instanceMethod me_M_anyPair.1 ∈ gw ∧ Cond.selects me_M_anyPair.1.cls me_M_anyPair.1 me_M_anyPair.1 ∈ gw := ⟨(gw_t5 (List.mem_of_getElem? (i := 110) rfl) rfl), (gw_s (q := (⟨"LineRulesModel", "anyPair", "()Z"⟩, 54)) (by decide +kernel) rfl)⟩
def me_M_inverse : gs_M := (⟨"LineRulesModel", "inverse", "(I)I"⟩, prog_11_method_37_code, 2, (some .int))
theorem Y_M_inverse : gY me_M_inverse 1 := ⟨(gw_t5 (List.mem_of_getElem? (i := 115) rfl) rfl), (gw_t1 (List.mem_of_getElem? (i := 10) rfl) rfl), ⟨by decide +kernel, by decide +kernel, by decide +kernel⟩, by decide +kernel⟩
theorem I_M_inverse : Cond.instanceMethod me_M_inverse.1 ∈ gw ∧ Cond.selects me_M_inverse.1.cls me_M_inverse.1 me_M_inverse.1 ∈ gw := ⟨(gw_t5 (List.mem_of_getElem? (i := 113) rfl) rfl), (gw_t5 (List.mem_of_getElem? (i := 114) rfl) rfl)⟩
def me_M_findInverse : gs_M := (⟨"LineRulesModel", "findInverse", "()V"⟩, prog_11_method_36_code, 3, none)
theorem Y_M_findInverse : gY me_M_findInverse 0 := ⟨(gw_t5 (List.mem_of_getElem? (i := 119) rfl) rfl), (gw_t1 (List.mem_of_getElem? (i := 10) rfl) rfl), ⟨by decide +kernel, by decide +kernel, by decide +kernel⟩, by decide +kernel⟩
theorem I_M_findInverse : Cond.instanceMethod me_M_findInverse.1 ∈ gw ∧ Cond.selects me_M_findInverse.1.cls me_M_findInverse.1 me_M_findInverse.1 ∈ gw := ⟨(gw_t5 (List.mem_of_getElem? (i := 118) rfl) rfl), (gw_s (q := (⟨"LineRulesModel", "findInverse", "()V"⟩, 54)) (by decide +kernel) rfl)⟩
def me_M_tells : gs_M := (⟨"LineRulesModel", "tells", "(II)Z"⟩, prog_11_method_35_code, 9, (some .boolean))
theorem Y_M_tells : gY me_M_tells 2 := ⟨(gw_t5 (List.mem_of_getElem? (i := 123) rfl) rfl), (gw_t1 (List.mem_of_getElem? (i := 10) rfl) rfl), ⟨by decide +kernel, by decide +kernel, by decide +kernel⟩, by decide +kernel⟩
theorem I_M_tells : Cond.instanceMethod me_M_tells.1 ∈ gw ∧ Cond.selects me_M_tells.1.cls me_M_tells.1 me_M_tells.1 ∈ gw := ⟨(gw_t5 (List.mem_of_getElem? (i := 122) rfl) rfl), (gw_s (q := (⟨"LineRulesModel", "tells", "(II)Z"⟩, 54)) (by decide +kernel) rfl)⟩
def me_M_madeOf : gs_M := (⟨"LineRulesModel", "madeOf", "(II)I"⟩, prog_11_method_34_code, 5, (some .int))
theorem Y_M_madeOf : gY me_M_madeOf 2 := ⟨(gw_t5 (List.mem_of_getElem? (i := 127) rfl) rfl), (gw_t1 (List.mem_of_getElem? (i := 10) rfl) rfl), ⟨by decide +kernel, by decide +kernel, by decide +kernel⟩, by decide +kernel⟩
theorem I_M_madeOf : Cond.instanceMethod me_M_madeOf.1 ∈ gw ∧ Cond.selects me_M_madeOf.1.cls me_M_madeOf.1 me_M_madeOf.1 ∈ gw := ⟨(gw_t5 (List.mem_of_getElem? (i := 126) rfl) rfl), (gw_s (q := (⟨"LineRulesModel", "madeOf", "(II)I"⟩, 54)) (by decide +kernel) rfl)⟩
def me_M_undo : gs_M := (⟨"LineRulesModel", "undo", "(I)I"⟩, prog_11_method_38_code, 2, (some .int))
theorem Y_M_undo : gY me_M_undo 1 := ⟨(gw_t5 (List.mem_of_getElem? (i := 131) rfl) rfl), (gw_t1 (List.mem_of_getElem? (i := 10) rfl) rfl), ⟨by decide +kernel, by decide +kernel, by decide +kernel⟩, by decide +kernel⟩
theorem I_M_undo : Cond.instanceMethod me_M_undo.1 ∈ gw ∧ Cond.selects me_M_undo.1.cls me_M_undo.1 me_M_undo.1 ∈ gw := ⟨(gw_t5 (List.mem_of_getElem? (i := 129) rfl) rfl), (gw_t5 (List.mem_of_getElem? (i := 130) rfl) rfl)⟩
def me_M_conserved : gs_M := (⟨"LineRulesModel", "conserved", "()I"⟩, prog_11_method_45_code, 1, (some .int))
theorem Y_M_conserved : gY me_M_conserved 0 := ⟨(gw_t5 (List.mem_of_getElem? (i := 135) rfl) rfl), (gw_t1 (List.mem_of_getElem? (i := 10) rfl) rfl), ⟨by decide +kernel, by decide +kernel, by decide +kernel⟩, by decide +kernel⟩
theorem I_M_conserved : Cond.instanceMethod me_M_conserved.1 ∈ gw ∧ Cond.selects me_M_conserved.1.cls me_M_conserved.1 me_M_conserved.1 ∈ gw := ⟨(gw_t5 (List.mem_of_getElem? (i := 133) rfl) rfl), (gw_t5 (List.mem_of_getElem? (i := 134) rfl) rfl)⟩
def me_M_findWeights : gs_M := (⟨"LineRulesModel", "findWeights", "()V"⟩, prog_11_method_44_code, 11, none)
theorem Y_M_findWeights : gY me_M_findWeights 0 := ⟨(gw_t5 (List.mem_of_getElem? (i := 139) rfl) rfl), (gw_t1 (List.mem_of_getElem? (i := 10) rfl) rfl), ⟨by decide +kernel, by decide +kernel, by decide +kernel⟩, by decide +kernel⟩
theorem I_M_findWeights : Cond.instanceMethod me_M_findWeights.1 ∈ gw ∧ Cond.selects me_M_findWeights.1.cls me_M_findWeights.1 me_M_findWeights.1 ∈ gw := ⟨(gw_t5 (List.mem_of_getElem? (i := 138) rfl) rfl), (gw_s (q := (⟨"LineRulesModel", "findWeights", "()V"⟩, 54)) (by decide +kernel) rfl)⟩
def me_M_equation : gs_M := (⟨"LineRulesModel", "equation", "(I)V"⟩, prog_11_method_40_code, 3, none)
theorem Y_M_equation : gY me_M_equation 1 := ⟨(gw_t5 (List.mem_of_getElem? (i := 143) rfl) rfl), (gw_t1 (List.mem_of_getElem? (i := 10) rfl) rfl), ⟨by decide +kernel, by decide +kernel, by decide +kernel⟩, by decide +kernel⟩
theorem I_M_equation : Cond.instanceMethod me_M_equation.1 ∈ gw ∧ Cond.selects me_M_equation.1.cls me_M_equation.1 me_M_equation.1 ∈ gw := ⟨(gw_t5 (List.mem_of_getElem? (i := 142) rfl) rfl), (gw_s (q := (⟨"LineRulesModel", "equation", "(I)V"⟩, 54)) (by decide +kernel) rfl)⟩
def me_M_keep : gs_M := (⟨"LineRulesModel", "keep", "()V"⟩, prog_11_method_42_code, 3, none)
theorem Y_M_keep : gY me_M_keep 0 := ⟨(gw_t5 (List.mem_of_getElem? (i := 147) rfl) rfl), (gw_t1 (List.mem_of_getElem? (i := 10) rfl) rfl), ⟨by decide +kernel, by decide +kernel, by decide +kernel⟩, by decide +kernel⟩
theorem I_M_keep : Cond.instanceMethod me_M_keep.1 ∈ gw ∧ Cond.selects me_M_keep.1.cls me_M_keep.1 me_M_keep.1 ∈ gw := ⟨(gw_t5 (List.mem_of_getElem? (i := 146) rfl) rfl), (gw_s (q := (⟨"LineRulesModel", "keep", "()V"⟩, 54)) (by decide +kernel) rfl)⟩
def me_M_reduce : gs_M := (⟨"LineRulesModel", "reduce", "(II)V"⟩, prog_11_method_41_code, 10, none)
theorem Y_M_reduce : gY me_M_reduce 2 := ⟨(gw_t5 (List.mem_of_getElem? (i := 151) rfl) rfl), (gw_t1 (List.mem_of_getElem? (i := 10) rfl) rfl), ⟨by decide +kernel, by decide +kernel, by decide +kernel⟩, by decide +kernel⟩
theorem I_M_reduce : Cond.instanceMethod me_M_reduce.1 ∈ gw ∧ Cond.selects me_M_reduce.1.cls me_M_reduce.1 me_M_reduce.1 ∈ gw := ⟨(gw_t5 (List.mem_of_getElem? (i := 150) rfl) rfl), (gw_s (q := (⟨"LineRulesModel", "reduce", "(II)V"⟩, 54)) (by decide +kernel) rfl)⟩
def me_M_divisor : gs_M := (⟨"LineRulesModel", "divisor", "(JJ)J"⟩, prog_11_method_39_code, 10, (some .long))
theorem Y_M_divisor : gY me_M_divisor 2 := ⟨(gw_t5 (List.mem_of_getElem? (i := 154) rfl) rfl), (gw_t1 (List.mem_of_getElem? (i := 10) rfl) rfl), ⟨by decide +kernel, by decide +kernel, by decide +kernel⟩, by decide +kernel⟩
theorem I_M_divisor : Cond.static me_M_divisor.1 ∈ gw := (gw_t5 (List.mem_of_getElem? (i := 153) rfl) rfl)
def me_M_clearRow : gs_M := (⟨"LineRulesModel", "clearRow", "(I)V"⟩, prog_11_method_43_code, 3, none)
theorem Y_M_clearRow : gY me_M_clearRow 1 := ⟨(gw_t5 (List.mem_of_getElem? (i := 158) rfl) rfl), (gw_t1 (List.mem_of_getElem? (i := 10) rfl) rfl), ⟨by decide +kernel, by decide +kernel, by decide +kernel⟩, by decide +kernel⟩
theorem I_M_clearRow : Cond.instanceMethod me_M_clearRow.1 ∈ gw ∧ Cond.selects me_M_clearRow.1.cls me_M_clearRow.1 me_M_clearRow.1 ∈ gw := ⟨(gw_t5 (List.mem_of_getElem? (i := 157) rfl) rfl), (gw_s (q := (⟨"LineRulesModel", "clearRow", "(I)V"⟩, 54)) (by decide +kernel) rfl)⟩
def me_M_weight : gs_M := (⟨"LineRulesModel", "weight", "(II)I"⟩, prog_11_method_46_code, 3, (some .int))
theorem Y_M_weight : gY me_M_weight 2 := ⟨(gw_t5 (List.mem_of_getElem? (i := 162) rfl) rfl), (gw_t1 (List.mem_of_getElem? (i := 10) rfl) rfl), ⟨by decide +kernel, by decide +kernel, by decide +kernel⟩, by decide +kernel⟩
theorem I_M_weight : Cond.instanceMethod me_M_weight.1 ∈ gw ∧ Cond.selects me_M_weight.1.cls me_M_weight.1 me_M_weight.1 ∈ gw := ⟨(gw_t5 (List.mem_of_getElem? (i := 160) rfl) rfl), (gw_t5 (List.mem_of_getElem? (i := 161) rfl) rfl)⟩
def me_M_orphan : gs_M := (⟨"LineRulesModel", "orphan", "()I"⟩, prog_11_method_50_code, 1, (some .int))
theorem Y_M_orphan : gY me_M_orphan 0 := ⟨(gw_t5 (List.mem_of_getElem? (i := 166) rfl) rfl), (gw_t1 (List.mem_of_getElem? (i := 10) rfl) rfl), ⟨by decide +kernel, by decide +kernel, by decide +kernel⟩, by decide +kernel⟩
theorem I_M_orphan : Cond.instanceMethod me_M_orphan.1 ∈ gw ∧ Cond.selects me_M_orphan.1.cls me_M_orphan.1 me_M_orphan.1 ∈ gw := ⟨(gw_t5 (List.mem_of_getElem? (i := 164) rfl) rfl), (gw_t5 (List.mem_of_getElem? (i := 165) rfl) rfl)⟩
def me_M_findOrphan : gs_M := (⟨"LineRulesModel", "findOrphan", "()V"⟩, prog_11_method_49_code, 8, none)
theorem Y_M_findOrphan : gY me_M_findOrphan 0 := ⟨(gw_t5 (List.mem_of_getElem? (i := 170) rfl) rfl), (gw_t1 (List.mem_of_getElem? (i := 10) rfl) rfl), ⟨by decide +kernel, by decide +kernel, by decide +kernel⟩, by decide +kernel⟩
theorem I_M_findOrphan : Cond.instanceMethod me_M_findOrphan.1 ∈ gw ∧ Cond.selects me_M_findOrphan.1.cls me_M_findOrphan.1 me_M_findOrphan.1 ∈ gw := ⟨(gw_t5 (List.mem_of_getElem? (i := 169) rfl) rfl), (gw_s (q := (⟨"LineRulesModel", "findOrphan", "()V"⟩, 54)) (by decide +kernel) rfl)⟩
def me_M_behind : gs_M := (⟨"LineRulesModel", "behind", "(JI)J"⟩, prog_11_method_47_code, 8, (some .long))
theorem Y_M_behind : gY me_M_behind 2 := ⟨(gw_t5 (List.mem_of_getElem? (i := 176) rfl) rfl), (gw_t1 (List.mem_of_getElem? (i := 10) rfl) rfl), ⟨by decide +kernel, by decide +kernel, by decide +kernel⟩, by decide +kernel⟩
theorem I_M_behind : Cond.instanceMethod me_M_behind.1 ∈ gw ∧ Cond.selects me_M_behind.1.cls me_M_behind.1 me_M_behind.1 ∈ gw := ⟨(gw_t5 (List.mem_of_getElem? (i := 175) rfl) rfl), (gw_s (q := (⟨"LineRulesModel", "behind", "(JI)J"⟩, 54)) (by decide +kernel) rfl)⟩
def me_M_spell : gs_M := (⟨"LineRulesModel", "spell", "(II)V"⟩, prog_11_method_48_code, 6, none)
theorem Y_M_spell : gY me_M_spell 2 := ⟨(gw_t5 (List.mem_of_getElem? (i := 180) rfl) rfl), (gw_t1 (List.mem_of_getElem? (i := 10) rfl) rfl), ⟨by decide +kernel, by decide +kernel, by decide +kernel⟩, by decide +kernel⟩
theorem I_M_spell : Cond.instanceMethod me_M_spell.1 ∈ gw ∧ Cond.selects me_M_spell.1.cls me_M_spell.1 me_M_spell.1 ∈ gw := ⟨(gw_t5 (List.mem_of_getElem? (i := 179) rfl) rfl), (gw_s (q := (⟨"LineRulesModel", "spell", "(II)V"⟩, 54)) (by decide +kernel) rfl)⟩
def me_M_orphanAt : gs_M := (⟨"LineRulesModel", "orphanAt", "(I)I"⟩, prog_11_method_51_code, 2, (some .int))
theorem Y_M_orphanAt : gY me_M_orphanAt 1 := ⟨(gw_t5 (List.mem_of_getElem? (i := 184) rfl) rfl), (gw_t1 (List.mem_of_getElem? (i := 10) rfl) rfl), ⟨by decide +kernel, by decide +kernel, by decide +kernel⟩, by decide +kernel⟩
theorem I_M_orphanAt : Cond.instanceMethod me_M_orphanAt.1 ∈ gw ∧ Cond.selects me_M_orphanAt.1.cls me_M_orphanAt.1 me_M_orphanAt.1 ∈ gw := ⟨(gw_t5 (List.mem_of_getElem? (i := 182) rfl) rfl), (gw_t5 (List.mem_of_getElem? (i := 183) rfl) rfl)⟩
def me_M_before : gs_M := (⟨"LineRulesModel", "before", "()I"⟩, prog_11_method_57_code, 1, (some .int))
theorem Y_M_before : gY me_M_before 0 := ⟨(gw_t5 (List.mem_of_getElem? (i := 188) rfl) rfl), (gw_t1 (List.mem_of_getElem? (i := 10) rfl) rfl), ⟨by decide +kernel, by decide +kernel, by decide +kernel⟩, by decide +kernel⟩
theorem I_M_before : Cond.instanceMethod me_M_before.1 ∈ gw ∧ Cond.selects me_M_before.1.cls me_M_before.1 me_M_before.1 ∈ gw := ⟨(gw_t5 (List.mem_of_getElem? (i := 186) rfl) rfl), (gw_t5 (List.mem_of_getElem? (i := 187) rfl) rfl)⟩
def me_M_findBefore : gs_M := (⟨"LineRulesModel", "findBefore", "()V"⟩, prog_11_method_56_code, 2, none)
theorem Y_M_findBefore : gY me_M_findBefore 0 := ⟨(gw_t5 (List.mem_of_getElem? (i := 192) rfl) rfl), (gw_t1 (List.mem_of_getElem? (i := 10) rfl) rfl), ⟨by decide +kernel, by decide +kernel, by decide +kernel⟩, by decide +kernel⟩
theorem I_M_findBefore : Cond.instanceMethod me_M_findBefore.1 ∈ gw ∧ Cond.selects me_M_findBefore.1.cls me_M_findBefore.1 me_M_findBefore.1 ∈ gw := ⟨(gw_t5 (List.mem_of_getElem? (i := 191) rfl) rfl), (gw_s (q := (⟨"LineRulesModel", "findBefore", "()V"⟩, 54)) (by decide +kernel) rfl)⟩
def me_M_lookBack : gs_M := (⟨"LineRulesModel", "lookBack", "(I)V"⟩, prog_11_method_53_code, 4, none)
theorem Y_M_lookBack : gY me_M_lookBack 1 := ⟨(gw_t5 (List.mem_of_getElem? (i := 196) rfl) rfl), (gw_t1 (List.mem_of_getElem? (i := 10) rfl) rfl), ⟨by decide +kernel, by decide +kernel, by decide +kernel⟩, by decide +kernel⟩
theorem I_M_lookBack : Cond.instanceMethod me_M_lookBack.1 ∈ gw ∧ Cond.selects me_M_lookBack.1.cls me_M_lookBack.1 me_M_lookBack.1 ∈ gw := ⟨(gw_t5 (List.mem_of_getElem? (i := 195) rfl) rfl), (gw_s (q := (⟨"LineRulesModel", "lookBack", "(I)V"⟩, 54)) (by decide +kernel) rfl)⟩
def me_M_wanted : gs_M := (⟨"LineRulesModel", "wanted", "(I)I"⟩, prog_11_method_52_code, 2, (some .int))
theorem Y_M_wanted : gY me_M_wanted 1 := ⟨(gw_t5 (List.mem_of_getElem? (i := 200) rfl) rfl), (gw_t1 (List.mem_of_getElem? (i := 10) rfl) rfl), ⟨by decide +kernel, by decide +kernel, by decide +kernel⟩, by decide +kernel⟩
theorem I_M_wanted : Cond.instanceMethod me_M_wanted.1 ∈ gw ∧ Cond.selects me_M_wanted.1.cls me_M_wanted.1 me_M_wanted.1 ∈ gw := ⟨(gw_t5 (List.mem_of_getElem? (i := 199) rfl) rfl), (gw_s (q := (⟨"LineRulesModel", "wanted", "(I)I"⟩, 54)) (by decide +kernel) rfl)⟩
def me_M_spellRing : gs_M := (⟨"LineRulesModel", "spellRing", "(I)V"⟩, prog_11_method_54_code, 5, none)
theorem Y_M_spellRing : gY me_M_spellRing 1 := ⟨(gw_t5 (List.mem_of_getElem? (i := 204) rfl) rfl), (gw_t1 (List.mem_of_getElem? (i := 10) rfl) rfl), ⟨by decide +kernel, by decide +kernel, by decide +kernel⟩, by decide +kernel⟩
theorem I_M_spellRing : Cond.instanceMethod me_M_spellRing.1 ∈ gw ∧ Cond.selects me_M_spellRing.1.cls me_M_spellRing.1 me_M_spellRing.1 ∈ gw := ⟨(gw_t5 (List.mem_of_getElem? (i := 203) rfl) rfl), (gw_s (q := (⟨"LineRulesModel", "spellRing", "(I)V"⟩, 54)) (by decide +kernel) rfl)⟩
def me_M_waysFrom : gs_M := (⟨"LineRulesModel", "waysFrom", "(I)J"⟩, prog_11_method_55_code, 4, (some .long))
theorem Y_M_waysFrom : gY me_M_waysFrom 1 := ⟨(gw_t5 (List.mem_of_getElem? (i := 208) rfl) rfl), (gw_t1 (List.mem_of_getElem? (i := 10) rfl) rfl), ⟨by decide +kernel, by decide +kernel, by decide +kernel⟩, by decide +kernel⟩
theorem I_M_waysFrom : Cond.instanceMethod me_M_waysFrom.1 ∈ gw ∧ Cond.selects me_M_waysFrom.1.cls me_M_waysFrom.1 me_M_waysFrom.1 ∈ gw := ⟨(gw_t5 (List.mem_of_getElem? (i := 207) rfl) rfl), (gw_s (q := (⟨"LineRulesModel", "waysFrom", "(I)J"⟩, 54)) (by decide +kernel) rfl)⟩
def me_M_beforeAt : gs_M := (⟨"LineRulesModel", "beforeAt", "(I)I"⟩, prog_11_method_58_code, 2, (some .int))
theorem Y_M_beforeAt : gY me_M_beforeAt 1 := ⟨(gw_t5 (List.mem_of_getElem? (i := 212) rfl) rfl), (gw_t1 (List.mem_of_getElem? (i := 10) rfl) rfl), ⟨by decide +kernel, by decide +kernel, by decide +kernel⟩, by decide +kernel⟩
theorem I_M_beforeAt : Cond.instanceMethod me_M_beforeAt.1 ∈ gw ∧ Cond.selects me_M_beforeAt.1.cls me_M_beforeAt.1 me_M_beforeAt.1 ∈ gw := ⟨(gw_t5 (List.mem_of_getElem? (i := 210) rfl) rfl), (gw_t5 (List.mem_of_getElem? (i := 211) rfl) rfl)⟩
def me_M_ways : gs_M := (⟨"LineRulesModel", "ways", "()J"⟩, prog_11_method_59_code, 1, (some .long))
theorem Y_M_ways : gY me_M_ways 0 := ⟨(gw_t5 (List.mem_of_getElem? (i := 216) rfl) rfl), (gw_t1 (List.mem_of_getElem? (i := 10) rfl) rfl), ⟨by decide +kernel, by decide +kernel, by decide +kernel⟩, by decide +kernel⟩
theorem I_M_ways : Cond.instanceMethod me_M_ways.1 ∈ gw ∧ Cond.selects me_M_ways.1.cls me_M_ways.1 me_M_ways.1 ∈ gw := ⟨(gw_t5 (List.mem_of_getElem? (i := 214) rfl) rfl), (gw_t5 (List.mem_of_getElem? (i := 215) rfl) rfl)⟩
theorem lk_A_9 : (("LineRules", 9, me_T_init.1, "LineRules") : String × Nat × MethodName × String) ∈ gw_n := List.mem_of_getElem? (i := 0) rfl
theorem lk_A_18 : (("LineRules", 18, me_R_init.1, "LineRules") : String × Nat × MethodName × String) ∈ gw_n := List.mem_of_getElem? (i := 1) rfl
theorem lk_A_25 : Cond.methodLink "LineRules" 25 me_C_init.1 ∈ gw := (gw_t1 (List.mem_of_getElem? (i := 128) rfl) rfl)
theorem lk_A_34 : Cond.methodLink "LineRules" 34 me_P_init.1 ∈ gw := (gw_t1 (List.mem_of_getElem? (i := 154) rfl) rfl)
theorem lk_A_41 : Cond.methodLink "LineRules" 41 me_V_init.1 ∈ gw := (gw_t1 (List.mem_of_getElem? (i := 182) rfl) rfl)
theorem lk_A_50 : Cond.methodLink "LineRules" 50 me_W_init.1 ∈ gw := (gw_t1 (List.mem_of_getElem? (i := 207) rfl) rfl)
theorem lk_A_57 : Cond.methodLink "LineRules" 57 me_O_init.1 ∈ gw := (gw_t1 (List.mem_of_getElem? (i := 234) rfl) rfl)
theorem lk_A_64 : Cond.methodLink "LineRules" 64 me_H_init.1 ∈ gw := (gw_t2 (List.mem_of_getElem? (i := 31) rfl) rfl)
theorem lk_A_71 : Cond.methodLink "LineRules" 71 me_T_append.1 ∈ gw := (gw_t2 (List.mem_of_getElem? (i := 95) rfl) rfl)
theorem lk_A_75 : Cond.methodLink "LineRules" 75 me_T_readInto.1 ∈ gw := (gw_t2 (List.mem_of_getElem? (i := 103) rfl) rfl)
theorem lk_A_79 : Cond.methodLink "LineRules" 79 me_C_clear.1 ∈ gw := (gw_t2 (List.mem_of_getElem? (i := 199) rfl) rfl)
theorem lk_A_82 : Cond.methodLink "LineRules" 82 me_P_forget.1 ∈ gw := (gw_t2 (List.mem_of_getElem? (i := 206) rfl) rfl)
theorem lk_A_85 : Cond.methodLink "LineRules" 85 me_V_forget.1 ∈ gw := (gw_t2 (List.mem_of_getElem? (i := 210) rfl) rfl)
theorem lk_A_86 : Cond.methodLink "LineRules" 86 me_W_forget.1 ∈ gw := (gw_t2 (List.mem_of_getElem? (i := 214) rfl) rfl)
theorem lk_A_87 : Cond.methodLink "LineRules" 87 me_O_forget.1 ∈ gw := (gw_t2 (List.mem_of_getElem? (i := 218) rfl) rfl)
theorem lk_A_88 : Cond.methodLink "LineRules" 88 me_H_forget.1 ∈ gw := (gw_t2 (List.mem_of_getElem? (i := 222) rfl) rfl)
theorem lk_T_43 : Cond.methodLink "LineRules$Text" 43 me_T_fault.1 ∈ gw := (gw_t2 (List.mem_of_getElem? (i := 107) rfl) rfl)
theorem lk_T_47 : Cond.methodLink "LineRules$Text" 47 me_T_fill.1 ∈ gw := (gw_t2 (List.mem_of_getElem? (i := 167) rfl) rfl)
theorem lk_T_51 : Cond.methodLink "LineRules$Text" 51 me_T_fitsHead.1 ∈ gw := (gw_t2 (List.mem_of_getElem? (i := 111) rfl) rfl)
theorem lk_T_55 : (("LineRules$Text", 55, me_A_power.1, "LineRules") : String × Nat × MethodName × String) ∈ gw_n := List.mem_of_getElem? (i := 2) rfl
theorem lk_T_59 : Cond.methodLink "LineRules$Text" 59 me_T_digitsFault.1 ∈ gw := (gw_t2 (List.mem_of_getElem? (i := 118) rfl) rfl)
theorem lk_T_63 : Cond.methodLink "LineRules$Text" 63 me_T_valueFor.1 ∈ gw := (gw_t2 (List.mem_of_getElem? (i := 122) rfl) rfl)
theorem lk_T_87 : Cond.methodLink "LineRules$Text" 87 me_T_choice.1 ∈ gw := (gw_t2 (List.mem_of_getElem? (i := 126) rfl) rfl)
theorem lk_T_90 : Cond.methodLink "LineRules$Text" 90 me_T_joined.1 ∈ gw := (gw_t2 (List.mem_of_getElem? (i := 130) rfl) rfl)
theorem lk_T_93 : Cond.methodLink "LineRules$Text" 93 me_T_here.1 ∈ gw := (gw_t2 (List.mem_of_getElem? (i := 138) rfl) rfl)
theorem lk_T_97 : Cond.methodLink "LineRules$Text" 97 me_T_opens.1 ∈ gw := (gw_t2 (List.mem_of_getElem? (i := 150) rfl) rfl)
theorem lk_T_101 : Cond.methodLink "LineRules$Text" 101 me_T_part.1 ∈ gw := (gw_t2 (List.mem_of_getElem? (i := 134) rfl) rfl)
theorem lk_T_104 : Cond.methodLink "LineRules$Text" 104 me_T_levelOf.1 ∈ gw := (gw_t2 (List.mem_of_getElem? (i := 154) rfl) rfl)
theorem lk_T_108 : Cond.methodLink "LineRules$Text" 108 me_T_together.1 ∈ gw := (gw_t2 (List.mem_of_getElem? (i := 157) rfl) rfl)
theorem lk_T_120 : Cond.methodLink "LineRules$Text" 120 me_T_unturned.1 ∈ gw := (gw_t2 (List.mem_of_getElem? (i := 142) rfl) rfl)
theorem lk_T_123 : Cond.methodLink "LineRules$Text" 123 me_T_bracket.1 ∈ gw := (gw_t2 (List.mem_of_getElem? (i := 146) rfl) rfl)
theorem lk_T_112 : Cond.methodLink "LineRules$Text" 112 me_J_max.1 ∈ gw := (gw_t2 (List.mem_of_getElem? (i := 161) rfl) rfl)
theorem lk_T_117 : Cond.methodLink "LineRules$Text" 117 me_J_min.1 ∈ gw := (gw_t2 (List.mem_of_getElem? (i := 164) rfl) rfl)
theorem lk_T_66 : Cond.methodLink "LineRules$Text" 66 me_R_shape.1 ∈ gw := (gw_t2 (List.mem_of_getElem? (i := 171) rfl) rfl)
theorem lk_T_78 : Cond.methodLink "LineRules$Text" 78 me_T_made.1 ∈ gw := (gw_t2 (List.mem_of_getElem? (i := 176) rfl) rfl)
theorem lk_T_81 : Cond.methodLink "LineRules$Text" 81 me_R_complete.1 ∈ gw := (gw_t2 (List.mem_of_getElem? (i := 184) rfl) rfl)
theorem lk_R_45 : (("LineRules$Rule", 45, me_A_power.1, "LineRules") : String × Nat × MethodName × String) ∈ gw_n := List.mem_of_getElem? (i := 3) rfl
theorem lk_T_84 : Cond.methodLink "LineRules$Text" 84 me_T_sumOf.1 ∈ gw := (gw_t2 (List.mem_of_getElem? (i := 180) rfl) rfl)
theorem lk_R_49 : Cond.methodLink "LineRules$Rule" 49 me_Y_fillJ.1 ∈ gw := (gw_t2 (List.mem_of_getElem? (i := 188) rfl) rfl)
theorem lk_R_55 : Cond.methodLink "LineRules$Rule" 55 me_R_enter.1 ∈ gw := (gw_t2 (List.mem_of_getElem? (i := 191) rfl) rfl)
theorem lk_R_59 : Cond.methodLink "LineRules$Rule" 59 me_R_end.1 ∈ gw := (gw_t2 (List.mem_of_getElem? (i := 195) rfl) rfl)
theorem lk_C_32 : Cond.methodLink "LineRules$Ring" 32 me_Y_fillI.1 ∈ gw := (gw_t2 (List.mem_of_getElem? (i := 203) rfl) rfl)
theorem lk_A_107 : Cond.methodLink "LineRules" 107 me_C_resize.1 ∈ gw := (gw_t2 (List.mem_of_getElem? (i := 234) rfl) rfl)
theorem lk_C_29 : Cond.methodLink "LineRules$Ring" 29 me_C_clear.1 ∈ gw := (gw_t2 (List.mem_of_getElem? (i := 238) rfl) rfl)
theorem lk_A_111 : Cond.methodLink "LineRules" 111 me_C_has.1 ∈ gw := (gw_t3 (List.mem_of_getElem? (i := 3) rfl) rfl)
theorem lk_A_115 : Cond.methodLink "LineRules" 115 me_R_hasState.1 ∈ gw := (gw_t3 (List.mem_of_getElem? (i := 7) rfl) rfl)
theorem lk_A_121 : Cond.methodLink "LineRules" 121 me_C_run.1 ∈ gw := (gw_t3 (List.mem_of_getElem? (i := 19) rfl) rfl)
theorem lk_C_38 : Cond.methodLink "LineRules$Ring" 38 arraycopyName ∈ gw := (gw_t3 (List.mem_of_getElem? (i := 23) rfl) rfl)
theorem lk_C_44 : Cond.methodLink "LineRules$Ring" 44 me_C_stepOnce.1 ∈ gw := (gw_t3 (List.mem_of_getElem? (i := 26) rfl) rfl)
theorem lk_C_55 : Cond.methodLink "LineRules$Ring" 55 me_R_left.1 ∈ gw := (gw_t3 (List.mem_of_getElem? (i := 30) rfl) rfl)
theorem lk_C_59 : Cond.methodLink "LineRules$Ring" 59 me_J_floorMod.1 ∈ gw := (gw_t3 (List.mem_of_getElem? (i := 34) rfl) rfl)
theorem lk_C_68 : Cond.methodLink "LineRules$Ring" 68 me_R_end.1 ∈ gw := (gw_t3 (List.mem_of_getElem? (i := 37) rfl) rfl)
theorem lk_A_124 : Cond.methodLink "LineRules" 124 me_C_countOf.1 ∈ gw := (gw_t3 (List.mem_of_getElem? (i := 42) rfl) rfl)
theorem lk_A_127 : Cond.methodLink "LineRules" 127 me_P_missesNothing.1 ∈ gw := (gw_t3 (List.mem_of_getElem? (i := 50) rfl) rfl)
theorem lk_P_35 : Cond.methodLink "LineRules$Pairs" 35 me_P_partAndMeet.1 ∈ gw := (gw_t3 (List.mem_of_getElem? (i := 54) rfl) rfl)
theorem lk_P_45 : Cond.methodLink "LineRules$Pairs" 45 me_Y_fillJ.1 ∈ gw := (gw_t3 (List.mem_of_getElem? (i := 58) rfl) rfl)
theorem lk_P_57 : Cond.methodLink "LineRules$Pairs" 57 me_P_partAt.1 ∈ gw := (gw_t3 (List.mem_of_getElem? (i := 59) rfl) rfl)
theorem lk_P_63 : Cond.methodLink "LineRules$Pairs" 63 me_P_meetsBehind.1 ∈ gw := (gw_t3 (List.mem_of_getElem? (i := 65) rfl) rfl)
theorem lk_P_74 : Cond.methodLink "LineRules$Pairs" 74 me_R_end.1 ∈ gw := (gw_t3 (List.mem_of_getElem? (i := 63) rfl) rfl)
theorem lk_P_78 : Cond.methodLink "LineRules$Pairs" 78 me_R_behind.1 ∈ gw := (gw_t3 (List.mem_of_getElem? (i := 69) rfl) rfl)
theorem lk_A_131 : Cond.methodLink "LineRules" 131 me_P_losesNothing.1 ∈ gw := (gw_t3 (List.mem_of_getElem? (i := 77) rfl) rfl)
theorem lk_P_39 : Cond.methodLink "LineRules$Pairs" 39 me_P_missesNothing.1 ∈ gw := (gw_t3 (List.mem_of_getElem? (i := 81) rfl) rfl)
theorem lk_P_42 : Cond.methodLink "LineRules$Pairs" 42 me_P_stayApart.1 ∈ gw := (gw_t3 (List.mem_of_getElem? (i := 82) rfl) rfl)
theorem lk_P_82 : Cond.methodLink "LineRules$Pairs" 82 me_R_allNodes.1 ∈ gw := (gw_t3 (List.mem_of_getElem? (i := 86) rfl) rfl)
theorem lk_P_86 : Cond.methodLink "LineRules$Pairs" 86 me_P_lasting.1 ∈ gw := (gw_t3 (List.mem_of_getElem? (i := 91) rfl) rfl)
theorem lk_A_134 : Cond.methodLink "LineRules" 134 me_V_width.1 ∈ gw := (gw_t3 (List.mem_of_getElem? (i := 99) rfl) rfl)
theorem lk_A_138 : Cond.methodLink "LineRules" 138 me_V_place.1 ∈ gw := (gw_t3 (List.mem_of_getElem? (i := 126) rfl) rfl)
theorem lk_V_34 : Cond.methodLink "LineRules$Inverse" 34 me_V_find.1 ∈ gw := (gw_t3 (List.mem_of_getElem? (i := 103) rfl) rfl)
theorem lk_V_49 : Cond.methodLink "LineRules$Inverse" 49 me_P_losesNothing.1 ∈ gw := (gw_t3 (List.mem_of_getElem? (i := 107) rfl) rfl)
theorem lk_V_55 : Cond.methodLink "LineRules$Inverse" 55 me_V_placesTold.1 ∈ gw := (gw_t3 (List.mem_of_getElem? (i := 108) rfl) rfl)
theorem lk_V_59 : Cond.methodLink "LineRules$Inverse" 59 me_V_takeLeast.1 ∈ gw := (gw_t3 (List.mem_of_getElem? (i := 122) rfl) rfl)
theorem lk_V_63 : Cond.methodLink "LineRules$Inverse" 63 me_Y_fillI.1 ∈ gw := (gw_t3 (List.mem_of_getElem? (i := 112) rfl) rfl)
theorem lk_V_42 : (("LineRules$Inverse", 42, me_A_power.1, "LineRules") : String × Nat × MethodName × String) ∈ gw_n := List.mem_of_getElem? (i := 4) rfl
theorem lk_V_69 : Cond.methodLink "LineRules$Inverse" 69 me_V_madeOf.1 ∈ gw := (gw_t3 (List.mem_of_getElem? (i := 114) rfl) rfl)
theorem lk_V_72 : Cond.methodLink "LineRules$Inverse" 72 me_V_samePlaces.1 ∈ gw := (gw_t3 (List.mem_of_getElem? (i := 118) rfl) rfl)
theorem lk_A_141 : Cond.methodLink "LineRules" 141 me_V_cellOf.1 ∈ gw := (gw_t3 (List.mem_of_getElem? (i := 134) rfl) rfl)
theorem lk_A_144 : Cond.methodLink "LineRules" 144 me_W_count.1 ∈ gw := (gw_t3 (List.mem_of_getElem? (i := 142) rfl) rfl)
theorem lk_W_35 : Cond.methodLink "LineRules$Weights" 35 me_W_find.1 ∈ gw := (gw_t3 (List.mem_of_getElem? (i := 146) rfl) rfl)
theorem lk_W_44 : Cond.methodLink "LineRules$Weights" 44 me_Y_fillJ.1 ∈ gw := (gw_t3 (List.mem_of_getElem? (i := 150) rfl) rfl)
theorem lk_W_53 : Cond.methodLink "LineRules$Weights" 53 me_W_writeEquation.1 ∈ gw := (gw_t3 (List.mem_of_getElem? (i := 151) rfl) rfl)
theorem lk_W_57 : Cond.methodLink "LineRules$Weights" 57 me_W_tie.1 ∈ gw := (gw_t3 (List.mem_of_getElem? (i := 160) rfl) rfl)
theorem lk_W_63 : Cond.methodLink "LineRules$Weights" 63 me_W_writeWeight.1 ∈ gw := (gw_t3 (List.mem_of_getElem? (i := 175) rfl) rfl)
theorem lk_W_74 : Cond.methodLink "LineRules$Weights" 74 me_R_end.1 ∈ gw := (gw_t3 (List.mem_of_getElem? (i := 155) rfl) rfl)
theorem lk_W_78 : Cond.methodLink "LineRules$Weights" 78 me_W_addGain.1 ∈ gw := (gw_t3 (List.mem_of_getElem? (i := 156) rfl) rfl)
theorem lk_W_85 : Cond.methodLink "LineRules$Weights" 85 arraycopyName ∈ gw := (gw_t3 (List.mem_of_getElem? (i := 164) rfl) rfl)
theorem lk_W_91 : Cond.methodLink "LineRules$Weights" 91 me_W_shorten.1 ∈ gw := (gw_t3 (List.mem_of_getElem? (i := 165) rfl) rfl)
theorem lk_W_95 : Cond.methodLink "LineRules$Weights" 95 me_J_abs.1 ∈ gw := (gw_t3 (List.mem_of_getElem? (i := 169) rfl) rfl)
theorem lk_W_101 : Cond.methodLink "LineRules$Weights" 101 me_W_commonDivisor.1 ∈ gw := (gw_t3 (List.mem_of_getElem? (i := 172) rfl) rfl)
theorem lk_A_146 : Cond.methodLink "LineRules" 146 me_W_at.1 ∈ gw := (gw_t3 (List.mem_of_getElem? (i := 183) rfl) rfl)
theorem lk_W_38 : Cond.methodLink "LineRules$Weights" 38 me_R_hasState.1 ∈ gw := (gw_t3 (List.mem_of_getElem? (i := 187) rfl) rfl)
theorem lk_A_150 : Cond.methodLink "LineRules" 150 me_O_length.1 ∈ gw := (gw_t3 (List.mem_of_getElem? (i := 192) rfl) rfl)
theorem lk_O_47 : Cond.methodLink "LineRules$Orphan" 47 me_O_find.1 ∈ gw := (gw_t3 (List.mem_of_getElem? (i := 196) rfl) rfl)
theorem lk_O_50 : Cond.methodLink "LineRules$Orphan" 50 me_P_missesNothing.1 ∈ gw := (gw_t3 (List.mem_of_getElem? (i := 200) rfl) rfl)
theorem lk_O_56 : Cond.methodLink "LineRules$Orphan" 56 me_O_search.1 ∈ gw := (gw_t3 (List.mem_of_getElem? (i := 201) rfl) rfl)
theorem lk_O_60 : Cond.methodLink "LineRules$Orphan" 60 me_R_allNodes.1 ∈ gw := (gw_t3 (List.mem_of_getElem? (i := 205) rfl) rfl)
theorem lk_O_66 : Cond.methodLink "LineRules$Orphan" 66 me_O_meet.1 ∈ gw := (gw_t3 (List.mem_of_getElem? (i := 206) rfl) rfl)
theorem lk_O_70 : Cond.methodLink "LineRules$Orphan" 70 me_O_spread.1 ∈ gw := (gw_t3 (List.mem_of_getElem? (i := 210) rfl) rfl)
theorem lk_O_77 : Cond.methodLink "LineRules$Orphan" 77 me_O_write.1 ∈ gw := (gw_t3 (List.mem_of_getElem? (i := 216) rfl) rfl)
theorem lk_O_81 : Cond.methodLink "LineRules$Orphan" 81 me_Y_fillJ.1 ∈ gw := (gw_t3 (List.mem_of_getElem? (i := 214) rfl) rfl)
theorem lk_O_90 : Cond.methodLink "LineRules$Orphan" 90 me_R_behind.1 ∈ gw := (gw_t3 (List.mem_of_getElem? (i := 215) rfl) rfl)
theorem lk_A_153 : Cond.methodLink "LineRules" 153 me_O_cell.1 ∈ gw := (gw_t3 (List.mem_of_getElem? (i := 224) rfl) rfl)
theorem lk_A_156 : Cond.methodLink "LineRules" 156 me_H_exists.1 ∈ gw := (gw_t3 (List.mem_of_getElem? (i := 232) rfl) rfl)
theorem lk_H_47 : Cond.methodLink "LineRules$Past" 47 me_H_find.1 ∈ gw := (gw_t3 (List.mem_of_getElem? (i := 236) rfl) rfl)
theorem lk_H_66 : Cond.methodLink "LineRules$Past" 66 me_H_comesBackTo.1 ∈ gw := (gw_t4 (List.mem_of_getElem? (i := 0) rfl) rfl)
theorem lk_H_69 : Cond.methodLink "LineRules$Past" 69 me_H_trace.1 ∈ gw := (gw_t4 (List.mem_of_getElem? (i := 14) rfl) rfl)
theorem lk_H_83 : Cond.methodLink "LineRules$Past" 83 me_H_due.1 ∈ gw := (gw_t4 (List.mem_of_getElem? (i := 4) rfl) rfl)
theorem lk_H_87 : Cond.methodLink "LineRules$Past" 87 me_H_leadingInto.1 ∈ gw := (gw_t4 (List.mem_of_getElem? (i := 9) rfl) rfl)
theorem lk_H_76 : Cond.methodLink "LineRules$Past" 76 me_R_left.1 ∈ gw := (gw_t4 (List.mem_of_getElem? (i := 8) rfl) rfl)
theorem lk_H_91 : Cond.methodLink "LineRules$Past" 91 me_R_behind.1 ∈ gw := (gw_t4 (List.mem_of_getElem? (i := 13) rfl) rfl)
theorem lk_H_95 : Cond.methodLink "LineRules$Past" 95 me_H_leastCell.1 ∈ gw := (gw_t4 (List.mem_of_getElem? (i := 18) rfl) rfl)
theorem lk_H_105 : Cond.methodLink "LineRules$Past" 105 me_R_end.1 ∈ gw := (gw_t4 (List.mem_of_getElem? (i := 22) rfl) rfl)
theorem lk_A_159 : Cond.methodLink "LineRules" 159 me_H_cell.1 ∈ gw := (gw_t4 (List.mem_of_getElem? (i := 27) rfl) rfl)
theorem lk_H_50 : Cond.methodLink "LineRules$Past" 50 me_C_has.1 ∈ gw := (gw_t4 (List.mem_of_getElem? (i := 31) rfl) rfl)
theorem lk_A_160 : Cond.methodLink "LineRules" 160 me_H_count.1 ∈ gw := (gw_t4 (List.mem_of_getElem? (i := 36) rfl) rfl)
theorem lk_H_62 : Cond.methodLink "LineRules$Past" 62 me_H_walksBackTo.1 ∈ gw := (gw_t4 (List.mem_of_getElem? (i := 40) rfl) rfl)
theorem lk_H_111 : Cond.methodLink "LineRules$Past" 111 me_Y_fillJ.1 ∈ gw := (gw_t4 (List.mem_of_getElem? (i := 44) rfl) rfl)
theorem lk_H_117 : Cond.methodLink "LineRules$Past" 117 me_H_goOn.1 ∈ gw := (gw_t4 (List.mem_of_getElem? (i := 45) rfl) rfl)
theorem lk_H_129 : Cond.methodLink "LineRules$Past" 129 me_Y_fillR.1 ∈ gw := (gw_t4 (List.mem_of_getElem? (i := 49) rfl) rfl)
theorem lk_Y_13 : Cond.methodLink "java/util/Arrays" 13 me_Y_rangeCheck.1 ∈ gw := (gw_t4 (List.mem_of_getElem? (i := 52) rfl) rfl)
theorem lk_M_176 : Cond.methodLink "LineRulesModel" 176 me_M_readAll.1 ∈ gw := (gw_t4 (List.mem_of_getElem? (i := 234) rfl) rfl)
theorem lk_M_147 : Cond.methodLink "LineRulesModel" 147 me_M_powerOf.1 ∈ gw := (gw_t4 (List.mem_of_getElem? (i := 238) rfl) rfl)
theorem lk_M_191 : Cond.methodLink "LineRulesModel" 191 me_M_digitSum.1 ∈ gw := (gw_t5 (List.mem_of_getElem? (i := 53) rfl) rfl)
theorem lk_M_173 : Cond.methodLink "LineRulesModel" 173 me_M_work.1 ∈ gw := (gw_t5 (List.mem_of_getElem? (i := 5) rfl) rfl)
theorem lk_M_169 : Cond.methodLink "LineRulesModel" 169 me_M_readRow.1 ∈ gw := (gw_t5 (List.mem_of_getElem? (i := 1) rfl) rfl)
theorem lk_M_118 : Cond.methodLink "LineRulesModel" 118 me_M_fresh.1 ∈ gw := (gw_t5 (List.mem_of_getElem? (i := 9) rfl) rfl)
theorem lk_M_161 : Cond.methodLink "LineRulesModel" 161 me_M_begins.1 ∈ gw := (gw_t5 (List.mem_of_getElem? (i := 13) rfl) rfl)
theorem lk_M_165 : Cond.methodLink "LineRulesModel" 165 me_M_goesOn.1 ∈ gw := (gw_t5 (List.mem_of_getElem? (i := 25) rfl) rfl)
theorem lk_M_155 : Cond.methodLink "LineRulesModel" 155 me_M_endChoice.1 ∈ gw := (gw_t5 (List.mem_of_getElem? (i := 49) rfl) rfl)
theorem lk_M_141 : Cond.methodLink "LineRulesModel" 141 me_M_operand.1 ∈ gw := (gw_t5 (List.mem_of_getElem? (i := 17) rfl) rfl)
theorem lk_M_151 : Cond.methodLink "LineRulesModel" 151 me_M_open.1 ∈ gw := (gw_t5 (List.mem_of_getElem? (i := 21) rfl) rfl)
theorem lk_M_125 : Cond.methodLink "LineRulesModel" 125 me_M_endProduct.1 ∈ gw := (gw_t5 (List.mem_of_getElem? (i := 29) rfl) rfl)
theorem lk_M_128 : Cond.methodLink "LineRulesModel" 128 me_M_endSum.1 ∈ gw := (gw_t5 (List.mem_of_getElem? (i := 33) rfl) rfl)
theorem lk_M_132 : Cond.methodLink "LineRulesModel" 132 me_M_endTest.1 ∈ gw := (gw_t5 (List.mem_of_getElem? (i := 37) rfl) rfl)
theorem lk_M_135 : Cond.methodLink "LineRulesModel" 135 me_M_endBoth.1 ∈ gw := (gw_t5 (List.mem_of_getElem? (i := 41) rfl) rfl)
theorem lk_M_138 : Cond.methodLink "LineRulesModel" 138 me_M_endEither.1 ∈ gw := (gw_t5 (List.mem_of_getElem? (i := 45) rfl) rfl)
theorem lk_M_213 : Cond.methodLink "LineRulesModel" 213 me_M_turn.1 ∈ gw := (gw_t5 (List.mem_of_getElem? (i := 76) rfl) rfl)
theorem lk_M_223 : Cond.methodLink "LineRulesModel" 223 me_M_makesAll.1 ∈ gw := (gw_t5 (List.mem_of_getElem? (i := 88) rfl) rfl)
theorem lk_M_227 : Cond.methodLink "LineRulesModel" 227 me_M_losesSomewhere.1 ∈ gw := (gw_t5 (List.mem_of_getElem? (i := 92) rfl) rfl)
theorem lk_M_216 : Cond.methodLink "LineRulesModel" 216 me_M_comesFrom.1 ∈ gw := (gw_t5 (List.mem_of_getElem? (i := 96) rfl) rfl)
theorem lk_M_219 : Cond.methodLink "LineRulesModel" 219 me_M_leadsOn.1 ∈ gw := (gw_t5 (List.mem_of_getElem? (i := 100) rfl) rfl)
theorem lk_M_230 : Cond.methodLink "LineRulesModel" 230 me_M_anyPair.1 ∈ gw := (gw_t5 (List.mem_of_getElem? (i := 108) rfl) rfl)
theorem lk_M_245 : Cond.methodLink "LineRulesModel" 245 me_M_findInverse.1 ∈ gw := (gw_t5 (List.mem_of_getElem? (i := 116) rfl) rfl)
theorem lk_M_242 : Cond.methodLink "LineRulesModel" 242 me_M_tells.1 ∈ gw := (gw_t5 (List.mem_of_getElem? (i := 120) rfl) rfl)
theorem lk_M_233 : Cond.methodLink "LineRulesModel" 233 me_M_madeOf.1 ∈ gw := (gw_t5 (List.mem_of_getElem? (i := 124) rfl) rfl)
theorem lk_M_267 : Cond.methodLink "LineRulesModel" 267 me_M_findWeights.1 ∈ gw := (gw_t5 (List.mem_of_getElem? (i := 136) rfl) rfl)
theorem lk_M_258 : Cond.methodLink "LineRulesModel" 258 me_M_equation.1 ∈ gw := (gw_t5 (List.mem_of_getElem? (i := 140) rfl) rfl)
theorem lk_M_261 : Cond.methodLink "LineRulesModel" 261 me_M_keep.1 ∈ gw := (gw_t5 (List.mem_of_getElem? (i := 144) rfl) rfl)
theorem lk_M_264 : Cond.methodLink "LineRulesModel" 264 me_M_clearRow.1 ∈ gw := (gw_t5 (List.mem_of_getElem? (i := 155) rfl) rfl)
theorem lk_M_248 : Cond.methodLink "LineRulesModel" 248 me_M_divisor.1 ∈ gw := (gw_t5 (List.mem_of_getElem? (i := 152) rfl) rfl)
theorem lk_M_252 : Cond.methodLink "LineRulesModel" 252 me_M_reduce.1 ∈ gw := (gw_t5 (List.mem_of_getElem? (i := 148) rfl) rfl)
theorem lk_M_285 : Cond.methodLink "LineRulesModel" 285 me_M_findOrphan.1 ∈ gw := (gw_t5 (List.mem_of_getElem? (i := 167) rfl) rfl)
theorem lk_M_273 : Cond.methodLink "LineRulesModel" 273 me_M_surjective.1 ∈ gw := (gw_t5 (List.mem_of_getElem? (i := 171) rfl) rfl)
theorem lk_M_278 : Cond.methodLink "LineRulesModel" 278 me_M_behind.1 ∈ gw := (gw_t5 (List.mem_of_getElem? (i := 173) rfl) rfl)
theorem lk_M_282 : Cond.methodLink "LineRulesModel" 282 me_M_spell.1 ∈ gw := (gw_t5 (List.mem_of_getElem? (i := 177) rfl) rfl)
theorem lk_M_308 : Cond.methodLink "LineRulesModel" 308 me_M_findBefore.1 ∈ gw := (gw_t5 (List.mem_of_getElem? (i := 189) rfl) rfl)
theorem lk_M_298 : Cond.methodLink "LineRulesModel" 298 me_M_lookBack.1 ∈ gw := (gw_t5 (List.mem_of_getElem? (i := 193) rfl) rfl)
theorem lk_M_301 : Cond.methodLink "LineRulesModel" 301 me_M_spellRing.1 ∈ gw := (gw_t5 (List.mem_of_getElem? (i := 201) rfl) rfl)
theorem lk_M_304 : Cond.methodLink "LineRulesModel" 304 me_M_waysFrom.1 ∈ gw := (gw_t5 (List.mem_of_getElem? (i := 205) rfl) rfl)
theorem lk_M_288 : Cond.methodLink "LineRulesModel" 288 me_M_wanted.1 ∈ gw := (gw_t5 (List.mem_of_getElem? (i := 197) rfl) rfl)
theorem fl_A_10 : gF "LineRules" 10 0 0 := ⟨"LineRules", TX0, 8, rfl, by decide, inX0, (gw_t2 (List.mem_of_getElem? (i := 66) rfl) rfl), rfl⟩
theorem fl_A_19 : gF "LineRules" 19 0 1 := ⟨"LineRules", TX0, 8, rfl, by decide, inX0, (gw_t2 (List.mem_of_getElem? (i := 67) rfl) rfl), rfl⟩
theorem fl_A_28 : gF "LineRules" 28 0 2 := ⟨"LineRules", TX0, 8, rfl, by decide, inX0, (gw_t2 (List.mem_of_getElem? (i := 68) rfl) rfl), rfl⟩
theorem fl_A_35 : gF "LineRules" 35 0 3 := ⟨"LineRules", TX0, 8, rfl, by decide, inX0, (gw_t2 (List.mem_of_getElem? (i := 69) rfl) rfl), rfl⟩
theorem fl_A_44 : gF "LineRules" 44 0 4 := ⟨"LineRules", TX0, 8, rfl, by decide, inX0, (gw_t2 (List.mem_of_getElem? (i := 70) rfl) rfl), rfl⟩
theorem fl_A_51 : gF "LineRules" 51 0 5 := ⟨"LineRules", TX0, 8, rfl, by decide, inX0, (gw_t2 (List.mem_of_getElem? (i := 71) rfl) rfl), rfl⟩
theorem fl_A_58 : gF "LineRules" 58 0 6 := ⟨"LineRules", TX0, 8, rfl, by decide, inX0, (gw_t2 (List.mem_of_getElem? (i := 72) rfl) rfl), rfl⟩
theorem fl_A_67 : gF "LineRules" 67 0 7 := ⟨"LineRules", TX0, 8, rfl, by decide, inX0, (gw_t2 (List.mem_of_getElem? (i := 73) rfl) rfl), rfl⟩
theorem fl_T_9 : gF "LineRules$Text" 9 1 0 := ⟨"LineRules$Text", TX1, 9, rfl, by decide, inX1, (gw_t1 (List.mem_of_getElem? (i := 28) rfl) rfl), rfl⟩
theorem fl_T_15 : gF "LineRules$Text" 15 1 1 := ⟨"LineRules$Text", TX1, 9, rfl, by decide, inX1, (gw_t1 (List.mem_of_getElem? (i := 29) rfl) rfl), rfl⟩
theorem fl_T_19 : gF "LineRules$Text" 19 1 2 := ⟨"LineRules$Text", TX1, 9, rfl, by decide, inX1, (gw_t1 (List.mem_of_getElem? (i := 30) rfl) rfl), rfl⟩
theorem fp_T_19 : gFp "LineRules$Text" 19 1 2 .int := ⟨"LineRules$Text", TX1, 9, tyX1, rfl, by decide, inX1, (gw_t1 (List.mem_of_getElem? (i := 30) rfl) rfl), rfl, tyX1_ok, nmX1, rfl, by decide +kernel⟩
theorem fl_T_23 : gF "LineRules$Text" 23 1 3 := ⟨"LineRules$Text", TX1, 9, rfl, by decide, inX1, (gw_t1 (List.mem_of_getElem? (i := 31) rfl) rfl), rfl⟩
theorem fp_T_23 : gFp "LineRules$Text" 23 1 3 .int := ⟨"LineRules$Text", TX1, 9, tyX1, rfl, by decide, inX1, (gw_t1 (List.mem_of_getElem? (i := 31) rfl) rfl), rfl, tyX1_ok, nmX1, rfl, by decide +kernel⟩
theorem fl_T_26 : gF "LineRules$Text" 26 1 4 := ⟨"LineRules$Text", TX1, 9, rfl, by decide, inX1, (gw_t1 (List.mem_of_getElem? (i := 32) rfl) rfl), rfl⟩
theorem fp_T_26 : gFp "LineRules$Text" 26 1 4 .int := ⟨"LineRules$Text", TX1, 9, tyX1, rfl, by decide, inX1, (gw_t1 (List.mem_of_getElem? (i := 32) rfl) rfl), rfl, tyX1_ok, nmX1, rfl, by decide +kernel⟩
theorem fl_T_29 : gF "LineRules$Text" 29 1 5 := ⟨"LineRules$Text", TX1, 9, rfl, by decide, inX1, (gw_t1 (List.mem_of_getElem? (i := 33) rfl) rfl), rfl⟩
theorem fp_T_29 : gFp "LineRules$Text" 29 1 5 .char := ⟨"LineRules$Text", TX1, 9, tyX1, rfl, by decide, inX1, (gw_t1 (List.mem_of_getElem? (i := 33) rfl) rfl), rfl, tyX1_ok, nmX1, rfl, by decide +kernel⟩
theorem fl_T_33 : gF "LineRules$Text" 33 1 6 := ⟨"LineRules$Text", TX1, 9, rfl, by decide, inX1, (gw_t1 (List.mem_of_getElem? (i := 34) rfl) rfl), rfl⟩
theorem fp_T_33 : gFp "LineRules$Text" 33 1 6 .int := ⟨"LineRules$Text", TX1, 9, tyX1, rfl, by decide, inX1, (gw_t1 (List.mem_of_getElem? (i := 34) rfl) rfl), rfl, tyX1_ok, nmX1, rfl, by decide +kernel⟩
theorem fl_T_36 : gF "LineRules$Text" 36 1 7 := ⟨"LineRules$Text", TX1, 9, rfl, by decide, inX1, (gw_t1 (List.mem_of_getElem? (i := 35) rfl) rfl), rfl⟩
theorem fp_T_36 : gFp "LineRules$Text" 36 1 7 .int := ⟨"LineRules$Text", TX1, 9, tyX1, rfl, by decide, inX1, (gw_t1 (List.mem_of_getElem? (i := 35) rfl) rfl), rfl, tyX1_ok, nmX1, rfl, by decide +kernel⟩
theorem fl_T_39 : gF "LineRules$Text" 39 1 8 := ⟨"LineRules$Text", TX1, 9, rfl, by decide, inX1, (gw_t1 (List.mem_of_getElem? (i := 36) rfl) rfl), rfl⟩
theorem fp_T_39 : gFp "LineRules$Text" 39 1 8 .boolean := ⟨"LineRules$Text", TX1, 9, tyX1, rfl, by decide, inX1, (gw_t1 (List.mem_of_getElem? (i := 36) rfl) rfl), rfl, tyX1_ok, nmX1, rfl, by decide +kernel⟩
theorem fl_R_9 : gF "LineRules$Rule" 9 2 0 := ⟨"LineRules$Rule", TX2, 10, rfl, by decide, inX2, (gw_t1 (List.mem_of_getElem? (i := 64) rfl) rfl), rfl⟩
theorem fl_R_15 : gF "LineRules$Rule" 15 2 1 := ⟨"LineRules$Rule", TX2, 10, rfl, by decide, inX2, (gw_t1 (List.mem_of_getElem? (i := 72) rfl) rfl), rfl⟩
theorem fl_R_19 : gF "LineRules$Rule" 19 2 2 := ⟨"LineRules$Rule", TX2, 10, rfl, by decide, inX2, (gw_t1 (List.mem_of_getElem? (i := 73) rfl) rfl), rfl⟩
theorem fl_R_22 : gF "LineRules$Rule" 22 2 3 := ⟨"LineRules$Rule", TX2, 10, rfl, by decide, inX2, (gw_t1 (List.mem_of_getElem? (i := 75) rfl) rfl), rfl⟩
theorem fl_R_25 : gF "LineRules$Rule" 25 2 4 := ⟨"LineRules$Rule", TX2, 10, rfl, by decide, inX2, (gw_t1 (List.mem_of_getElem? (i := 77) rfl) rfl), rfl⟩
theorem fl_R_28 : gF "LineRules$Rule" 28 2 5 := ⟨"LineRules$Rule", TX2, 10, rfl, by decide, inX2, (gw_t1 (List.mem_of_getElem? (i := 79) rfl) rfl), rfl⟩
theorem fp_R_28 : gFp "LineRules$Rule" 28 2 5 .boolean := ⟨"LineRules$Rule", TX2, 10, tyX2, rfl, by decide, inX2, (gw_t1 (List.mem_of_getElem? (i := 79) rfl) rfl), rfl, tyX2_ok, nmX2, rfl, by decide +kernel⟩
theorem fl_R_32 : gF "LineRules$Rule" 32 2 6 := ⟨"LineRules$Rule", TX2, 10, rfl, by decide, inX2, (gw_t1 (List.mem_of_getElem? (i := 81) rfl) rfl), rfl⟩
theorem fp_R_32 : gFp "LineRules$Rule" 32 2 6 .int := ⟨"LineRules$Rule", TX2, 10, tyX2, rfl, by decide, inX2, (gw_t1 (List.mem_of_getElem? (i := 81) rfl) rfl), rfl, tyX2_ok, nmX2, rfl, by decide +kernel⟩
theorem fl_R_36 : gF "LineRules$Rule" 36 2 7 := ⟨"LineRules$Rule", TX2, 10, rfl, by decide, inX2, (gw_t1 (List.mem_of_getElem? (i := 89) rfl) rfl), rfl⟩
theorem fp_R_36 : gFp "LineRules$Rule" 36 2 7 .int := ⟨"LineRules$Rule", TX2, 10, tyX2, rfl, by decide, inX2, (gw_t1 (List.mem_of_getElem? (i := 89) rfl) rfl), rfl, tyX2_ok, nmX2, rfl, by decide +kernel⟩
theorem fl_R_39 : gF "LineRules$Rule" 39 2 8 := ⟨"LineRules$Rule", TX2, 10, rfl, by decide, inX2, (gw_t1 (List.mem_of_getElem? (i := 94) rfl) rfl), rfl⟩
theorem fp_R_39 : gFp "LineRules$Rule" 39 2 8 .int := ⟨"LineRules$Rule", TX2, 10, tyX2, rfl, by decide, inX2, (gw_t1 (List.mem_of_getElem? (i := 94) rfl) rfl), rfl, tyX2_ok, nmX2, rfl, by decide +kernel⟩
theorem fl_R_42 : gF "LineRules$Rule" 42 2 9 := ⟨"LineRules$Rule", TX2, 10, rfl, by decide, inX2, (gw_t1 (List.mem_of_getElem? (i := 99) rfl) rfl), rfl⟩
theorem fp_R_42 : gFp "LineRules$Rule" 42 2 9 .int := ⟨"LineRules$Rule", TX2, 10, tyX2, rfl, by decide, inX2, (gw_t1 (List.mem_of_getElem? (i := 99) rfl) rfl), rfl, tyX2_ok, nmX2, rfl, by decide +kernel⟩
theorem fl_C_9 : gF "LineRules$Ring" 9 3 0 := ⟨"LineRules$Ring", TX3, 5, rfl, by decide, inX3, (gw_t1 (List.mem_of_getElem? (i := 132) rfl) rfl), rfl⟩
theorem fl_C_15 : gF "LineRules$Ring" 15 3 1 := ⟨"LineRules$Ring", TX3, 5, rfl, by decide, inX3, (gw_t1 (List.mem_of_getElem? (i := 135) rfl) rfl), rfl⟩
theorem fp_C_15 : gFp "LineRules$Ring" 15 3 1 .int := ⟨"LineRules$Ring", TX3, 5, tyX3, rfl, by decide, inX3, (gw_t1 (List.mem_of_getElem? (i := 135) rfl) rfl), rfl, tyX3_ok, nmX3, rfl, by decide +kernel⟩
theorem fl_C_19 : gF "LineRules$Ring" 19 3 3 := ⟨"LineRules$Ring", TX3, 5, rfl, by decide, inX3, (gw_t1 (List.mem_of_getElem? (i := 139) rfl) rfl), rfl⟩
theorem fl_C_22 : gF "LineRules$Ring" 22 3 4 := ⟨"LineRules$Ring", TX3, 5, rfl, by decide, inX3, (gw_t1 (List.mem_of_getElem? (i := 140) rfl) rfl), rfl⟩
theorem fl_C_25 : gF "LineRules$Ring" 25 3 2 := ⟨"LineRules$Ring", TX3, 5, rfl, by decide, inX3, (gw_t1 (List.mem_of_getElem? (i := 138) rfl) rfl), rfl⟩
theorem fl_P_9 : gF "LineRules$Pairs" 9 4 1 := ⟨"LineRules$Pairs", TX4, 7, rfl, by decide, inX4, (gw_t1 (List.mem_of_getElem? (i := 159) rfl) rfl), rfl⟩
theorem fl_P_15 : gF "LineRules$Pairs" 15 4 2 := ⟨"LineRules$Pairs", TX4, 7, rfl, by decide, inX4, (gw_t1 (List.mem_of_getElem? (i := 160) rfl) rfl), rfl⟩
theorem fl_P_18 : gF "LineRules$Pairs" 18 4 3 := ⟨"LineRules$Pairs", TX4, 7, rfl, by decide, inX4, (gw_t1 (List.mem_of_getElem? (i := 161) rfl) rfl), rfl⟩
theorem fp_P_18 : gFp "LineRules$Pairs" 18 4 3 .boolean := ⟨"LineRules$Pairs", TX4, 7, tyX4, rfl, by decide, inX4, (gw_t1 (List.mem_of_getElem? (i := 161) rfl) rfl), rfl, tyX4_ok, nmX4, rfl, by decide +kernel⟩
theorem fl_P_22 : gF "LineRules$Pairs" 22 4 4 := ⟨"LineRules$Pairs", TX4, 7, rfl, by decide, inX4, (gw_t1 (List.mem_of_getElem? (i := 162) rfl) rfl), rfl⟩
theorem fp_P_22 : gFp "LineRules$Pairs" 22 4 4 .boolean := ⟨"LineRules$Pairs", TX4, 7, tyX4, rfl, by decide, inX4, (gw_t1 (List.mem_of_getElem? (i := 162) rfl) rfl), rfl, tyX4_ok, nmX4, rfl, by decide +kernel⟩
theorem fl_P_25 : gF "LineRules$Pairs" 25 4 5 := ⟨"LineRules$Pairs", TX4, 7, rfl, by decide, inX4, (gw_t1 (List.mem_of_getElem? (i := 163) rfl) rfl), rfl⟩
theorem fp_P_25 : gFp "LineRules$Pairs" 25 4 5 .boolean := ⟨"LineRules$Pairs", TX4, 7, tyX4, rfl, by decide, inX4, (gw_t1 (List.mem_of_getElem? (i := 163) rfl) rfl), rfl, tyX4_ok, nmX4, rfl, by decide +kernel⟩
theorem fl_P_28 : gF "LineRules$Pairs" 28 4 6 := ⟨"LineRules$Pairs", TX4, 7, rfl, by decide, inX4, (gw_t1 (List.mem_of_getElem? (i := 164) rfl) rfl), rfl⟩
theorem fp_P_28 : gFp "LineRules$Pairs" 28 4 6 .boolean := ⟨"LineRules$Pairs", TX4, 7, tyX4, rfl, by decide, inX4, (gw_t1 (List.mem_of_getElem? (i := 164) rfl) rfl), rfl, tyX4_ok, nmX4, rfl, by decide +kernel⟩
theorem fl_P_31 : gF "LineRules$Pairs" 31 4 0 := ⟨"LineRules$Pairs", TX4, 7, rfl, by decide, inX4, (gw_t1 (List.mem_of_getElem? (i := 158) rfl) rfl), rfl⟩
theorem fl_V_9 : gF "LineRules$Inverse" 9 5 2 := ⟨"LineRules$Inverse", TX5, 6, rfl, by decide, inX5, (gw_t1 (List.mem_of_getElem? (i := 188) rfl) rfl), rfl⟩
theorem fl_V_15 : gF "LineRules$Inverse" 15 5 3 := ⟨"LineRules$Inverse", TX5, 6, rfl, by decide, inX5, (gw_t1 (List.mem_of_getElem? (i := 189) rfl) rfl), rfl⟩
theorem fp_V_15 : gFp "LineRules$Inverse" 15 5 3 .boolean := ⟨"LineRules$Inverse", TX5, 6, tyX5, rfl, by decide, inX5, (gw_t1 (List.mem_of_getElem? (i := 189) rfl) rfl), rfl, tyX5_ok, nmX5, rfl, by decide +kernel⟩
theorem fl_V_19 : gF "LineRules$Inverse" 19 5 4 := ⟨"LineRules$Inverse", TX5, 6, rfl, by decide, inX5, (gw_t1 (List.mem_of_getElem? (i := 190) rfl) rfl), rfl⟩
theorem fp_V_19 : gFp "LineRules$Inverse" 19 5 4 .int := ⟨"LineRules$Inverse", TX5, 6, tyX5, rfl, by decide, inX5, (gw_t1 (List.mem_of_getElem? (i := 190) rfl) rfl), rfl, tyX5_ok, nmX5, rfl, by decide +kernel⟩
theorem fl_V_23 : gF "LineRules$Inverse" 23 5 5 := ⟨"LineRules$Inverse", TX5, 6, rfl, by decide, inX5, (gw_t1 (List.mem_of_getElem? (i := 191) rfl) rfl), rfl⟩
theorem fp_V_23 : gFp "LineRules$Inverse" 23 5 5 .int := ⟨"LineRules$Inverse", TX5, 6, tyX5, rfl, by decide, inX5, (gw_t1 (List.mem_of_getElem? (i := 191) rfl) rfl), rfl, tyX5_ok, nmX5, rfl, by decide +kernel⟩
theorem fl_V_26 : gF "LineRules$Inverse" 26 5 0 := ⟨"LineRules$Inverse", TX5, 6, rfl, by decide, inX5, (gw_t1 (List.mem_of_getElem? (i := 186) rfl) rfl), rfl⟩
theorem fl_V_30 : gF "LineRules$Inverse" 30 5 1 := ⟨"LineRules$Inverse", TX5, 6, rfl, by decide, inX5, (gw_t1 (List.mem_of_getElem? (i := 187) rfl) rfl), rfl⟩
theorem fl_W_11 : gF "LineRules$Weights" 11 6 1 := ⟨"LineRules$Weights", TX6, 6, rfl, by decide, inX6, (gw_t1 (List.mem_of_getElem? (i := 214) rfl) rfl), rfl⟩
theorem fl_W_16 : gF "LineRules$Weights" 16 6 2 := ⟨"LineRules$Weights", TX6, 6, rfl, by decide, inX6, (gw_t1 (List.mem_of_getElem? (i := 215) rfl) rfl), rfl⟩
theorem fl_W_19 : gF "LineRules$Weights" 19 6 3 := ⟨"LineRules$Weights", TX6, 6, rfl, by decide, inX6, (gw_t1 (List.mem_of_getElem? (i := 216) rfl) rfl), rfl⟩
theorem fl_W_23 : gF "LineRules$Weights" 23 6 4 := ⟨"LineRules$Weights", TX6, 6, rfl, by decide, inX6, (gw_t1 (List.mem_of_getElem? (i := 217) rfl) rfl), rfl⟩
theorem fp_W_23 : gFp "LineRules$Weights" 23 6 4 .boolean := ⟨"LineRules$Weights", TX6, 6, tyX6, rfl, by decide, inX6, (gw_t1 (List.mem_of_getElem? (i := 217) rfl) rfl), rfl, tyX6_ok, nmX6, rfl, by decide +kernel⟩
theorem fl_W_27 : gF "LineRules$Weights" 27 6 5 := ⟨"LineRules$Weights", TX6, 6, rfl, by decide, inX6, (gw_t1 (List.mem_of_getElem? (i := 218) rfl) rfl), rfl⟩
theorem fp_W_27 : gFp "LineRules$Weights" 27 6 5 .int := ⟨"LineRules$Weights", TX6, 6, tyX6, rfl, by decide, inX6, (gw_t1 (List.mem_of_getElem? (i := 218) rfl) rfl), rfl, tyX6_ok, nmX6, rfl, by decide +kernel⟩
theorem fl_W_31 : gF "LineRules$Weights" 31 6 0 := ⟨"LineRules$Weights", TX6, 6, rfl, by decide, inX6, (gw_t1 (List.mem_of_getElem? (i := 213) rfl) rfl), rfl⟩
theorem fl_O_9 : gF "LineRules$Orphan" 9 7 2 := ⟨"LineRules$Orphan", TX7, 10, rfl, by decide, inX7, (gw_t2 (List.mem_of_getElem? (i := 0) rfl) rfl), rfl⟩
theorem fl_O_15 : gF "LineRules$Orphan" 15 7 3 := ⟨"LineRules$Orphan", TX7, 10, rfl, by decide, inX7, (gw_t2 (List.mem_of_getElem? (i := 1) rfl) rfl), rfl⟩
theorem fl_O_19 : gF "LineRules$Orphan" 19 7 4 := ⟨"LineRules$Orphan", TX7, 10, rfl, by decide, inX7, (gw_t2 (List.mem_of_getElem? (i := 2) rfl) rfl), rfl⟩
theorem fl_O_22 : gF "LineRules$Orphan" 22 7 5 := ⟨"LineRules$Orphan", TX7, 10, rfl, by decide, inX7, (gw_t2 (List.mem_of_getElem? (i := 3) rfl) rfl), rfl⟩
theorem fl_O_25 : gF "LineRules$Orphan" 25 7 6 := ⟨"LineRules$Orphan", TX7, 10, rfl, by decide, inX7, (gw_t2 (List.mem_of_getElem? (i := 4) rfl) rfl), rfl⟩
theorem fl_O_28 : gF "LineRules$Orphan" 28 7 7 := ⟨"LineRules$Orphan", TX7, 10, rfl, by decide, inX7, (gw_t2 (List.mem_of_getElem? (i := 5) rfl) rfl), rfl⟩
theorem fp_O_28 : gFp "LineRules$Orphan" 28 7 7 .int := ⟨"LineRules$Orphan", TX7, 10, tyX7, rfl, by decide, inX7, (gw_t2 (List.mem_of_getElem? (i := 5) rfl) rfl), rfl, tyX7_ok, nmX7, rfl, by decide +kernel⟩
theorem fl_O_32 : gF "LineRules$Orphan" 32 7 8 := ⟨"LineRules$Orphan", TX7, 10, rfl, by decide, inX7, (gw_t2 (List.mem_of_getElem? (i := 6) rfl) rfl), rfl⟩
theorem fp_O_32 : gFp "LineRules$Orphan" 32 7 8 .boolean := ⟨"LineRules$Orphan", TX7, 10, tyX7, rfl, by decide, inX7, (gw_t2 (List.mem_of_getElem? (i := 6) rfl) rfl), rfl, tyX7_ok, nmX7, rfl, by decide +kernel⟩
theorem fl_O_36 : gF "LineRules$Orphan" 36 7 9 := ⟨"LineRules$Orphan", TX7, 10, rfl, by decide, inX7, (gw_t2 (List.mem_of_getElem? (i := 7) rfl) rfl), rfl⟩
theorem fp_O_36 : gFp "LineRules$Orphan" 36 7 9 .int := ⟨"LineRules$Orphan", TX7, 10, tyX7, rfl, by decide, inX7, (gw_t2 (List.mem_of_getElem? (i := 7) rfl) rfl), rfl, tyX7_ok, nmX7, rfl, by decide +kernel⟩
theorem fl_O_39 : gF "LineRules$Orphan" 39 7 0 := ⟨"LineRules$Orphan", TX7, 10, rfl, by decide, inX7, (gw_t1 (List.mem_of_getElem? (i := 238) rfl) rfl), rfl⟩
theorem fl_O_43 : gF "LineRules$Orphan" 43 7 1 := ⟨"LineRules$Orphan", TX7, 10, rfl, by decide, inX7, (gw_t1 (List.mem_of_getElem? (i := 239) rfl) rfl), rfl⟩
theorem fl_H_9 : gF "LineRules$Past" 9 8 2 := ⟨"LineRules$Past", TX8, 10, rfl, by decide, inX8, (gw_t2 (List.mem_of_getElem? (i := 37) rfl) rfl), rfl⟩
theorem fl_H_15 : gF "LineRules$Past" 15 8 3 := ⟨"LineRules$Past", TX8, 10, rfl, by decide, inX8, (gw_t2 (List.mem_of_getElem? (i := 38) rfl) rfl), rfl⟩
theorem fl_H_19 : gF "LineRules$Past" 19 8 4 := ⟨"LineRules$Past", TX8, 10, rfl, by decide, inX8, (gw_t2 (List.mem_of_getElem? (i := 39) rfl) rfl), rfl⟩
theorem fp_H_19 : gFp "LineRules$Past" 19 8 4 (.array .long) := ⟨"LineRules$Past", TX8, 10, tyX8, rfl, by decide, inX8, (gw_t2 (List.mem_of_getElem? (i := 39) rfl) rfl), rfl, tyX8_ok, nmX8, rfl, by decide +kernel⟩
theorem fl_H_22 : gF "LineRules$Past" 22 8 5 := ⟨"LineRules$Past", TX8, 10, rfl, by decide, inX8, (gw_t2 (List.mem_of_getElem? (i := 40) rfl) rfl), rfl⟩
theorem fp_H_22 : gFp "LineRules$Past" 22 8 5 (.array .long) := ⟨"LineRules$Past", TX8, 10, tyX8, rfl, by decide, inX8, (gw_t2 (List.mem_of_getElem? (i := 40) rfl) rfl), rfl, tyX8_ok, nmX8, rfl, by decide +kernel⟩
theorem fl_H_25 : gF "LineRules$Past" 25 8 6 := ⟨"LineRules$Past", TX8, 10, rfl, by decide, inX8, (gw_t2 (List.mem_of_getElem? (i := 41) rfl) rfl), rfl⟩
theorem fp_H_25 : gFp "LineRules$Past" 25 8 6 .boolean := ⟨"LineRules$Past", TX8, 10, tyX8, rfl, by decide, inX8, (gw_t2 (List.mem_of_getElem? (i := 41) rfl) rfl), rfl, tyX8_ok, nmX8, rfl, by decide +kernel⟩
theorem fl_H_29 : gF "LineRules$Past" 29 8 7 := ⟨"LineRules$Past", TX8, 10, rfl, by decide, inX8, (gw_t2 (List.mem_of_getElem? (i := 42) rfl) rfl), rfl⟩
theorem fp_H_29 : gFp "LineRules$Past" 29 8 7 .boolean := ⟨"LineRules$Past", TX8, 10, tyX8, rfl, by decide, inX8, (gw_t2 (List.mem_of_getElem? (i := 42) rfl) rfl), rfl, tyX8_ok, nmX8, rfl, by decide +kernel⟩
theorem fl_H_32 : gF "LineRules$Past" 32 8 8 := ⟨"LineRules$Past", TX8, 10, rfl, by decide, inX8, (gw_t2 (List.mem_of_getElem? (i := 43) rfl) rfl), rfl⟩
theorem fp_H_32 : gFp "LineRules$Past" 32 8 8 .boolean := ⟨"LineRules$Past", TX8, 10, tyX8, rfl, by decide, inX8, (gw_t2 (List.mem_of_getElem? (i := 43) rfl) rfl), rfl, tyX8_ok, nmX8, rfl, by decide +kernel⟩
theorem fl_H_35 : gF "LineRules$Past" 35 8 9 := ⟨"LineRules$Past", TX8, 10, rfl, by decide, inX8, (gw_t2 (List.mem_of_getElem? (i := 44) rfl) rfl), rfl⟩
theorem fp_H_35 : gFp "LineRules$Past" 35 8 9 .long := ⟨"LineRules$Past", TX8, 10, tyX8, rfl, by decide, inX8, (gw_t2 (List.mem_of_getElem? (i := 44) rfl) rfl), rfl, tyX8_ok, nmX8, rfl, by decide +kernel⟩
theorem fl_H_39 : gF "LineRules$Past" 39 8 0 := ⟨"LineRules$Past", TX8, 10, rfl, by decide, inX8, (gw_t2 (List.mem_of_getElem? (i := 35) rfl) rfl), rfl⟩
theorem fl_H_43 : gF "LineRules$Past" 43 8 1 := ⟨"LineRules$Past", TX8, 10, rfl, by decide, inX8, (gw_t2 (List.mem_of_getElem? (i := 36) rfl) rfl), rfl⟩
theorem fl_A_89 : gF "LineRules" 89 2 6 := ⟨"LineRules$Rule", TX2, 10, rfl, by decide, inX2, (gw_t1 (List.mem_of_getElem? (i := 82) rfl) rfl), rfl⟩
theorem fl_T_72 : gF "LineRules$Text" 72 2 8 := ⟨"LineRules$Rule", TX2, 10, rfl, by decide, inX2, (gw_t1 (List.mem_of_getElem? (i := 97) rfl) rfl), rfl⟩
theorem fl_T_75 : gF "LineRules$Text" 75 2 0 := ⟨"LineRules$Rule", TX2, 10, rfl, by decide, inX2, (gw_t1 (List.mem_of_getElem? (i := 68) rfl) rfl), rfl⟩
theorem fl_A_93 : gF "LineRules" 93 2 5 := ⟨"LineRules$Rule", TX2, 10, rfl, by decide, inX2, (gw_t1 (List.mem_of_getElem? (i := 80) rfl) rfl), rfl⟩
theorem fl_A_97 : gF "LineRules" 97 2 8 := ⟨"LineRules$Rule", TX2, 10, rfl, by decide, inX2, (gw_t1 (List.mem_of_getElem? (i := 95) rfl) rfl), rfl⟩
theorem fl_A_100 : gF "LineRules" 100 2 0 := ⟨"LineRules$Rule", TX2, 10, rfl, by decide, inX2, (gw_t1 (List.mem_of_getElem? (i := 65) rfl) rfl), rfl⟩
theorem fl_A_104 : gF "LineRules" 104 3 1 := ⟨"LineRules$Ring", TX3, 5, rfl, by decide, inX3, (gw_t1 (List.mem_of_getElem? (i := 136) rfl) rfl), rfl⟩
theorem fl_A_118 : gF "LineRules" 118 3 0 := ⟨"LineRules$Ring", TX3, 5, rfl, by decide, inX3, (gw_t1 (List.mem_of_getElem? (i := 133) rfl) rfl), rfl⟩
theorem fl_C_47 : gF "LineRules$Ring" 47 2 7 := ⟨"LineRules$Rule", TX2, 10, rfl, by decide, inX2, (gw_t1 (List.mem_of_getElem? (i := 91) rfl) rfl), rfl⟩
theorem fl_C_52 : gF "LineRules$Ring" 52 2 6 := ⟨"LineRules$Rule", TX2, 10, rfl, by decide, inX2, (gw_t1 (List.mem_of_getElem? (i := 87) rfl) rfl), rfl⟩
theorem fl_C_65 : gF "LineRules$Ring" 65 2 0 := ⟨"LineRules$Rule", TX2, 10, rfl, by decide, inX2, (gw_t1 (List.mem_of_getElem? (i := 69) rfl) rfl), rfl⟩
theorem fl_P_51 : gF "LineRules$Pairs" 51 2 9 := ⟨"LineRules$Rule", TX2, 10, rfl, by decide, inX2, (gw_t1 (List.mem_of_getElem? (i := 100) rfl) rfl), rfl⟩
theorem fl_P_67 : gF "LineRules$Pairs" 67 2 6 := ⟨"LineRules$Rule", TX2, 10, rfl, by decide, inX2, (gw_t1 (List.mem_of_getElem? (i := 85) rfl) rfl), rfl⟩
theorem fl_P_70 : gF "LineRules$Pairs" 70 2 0 := ⟨"LineRules$Rule", TX2, 10, rfl, by decide, inX2, (gw_t1 (List.mem_of_getElem? (i := 67) rfl) rfl), rfl⟩
theorem fl_V_46 : gF "LineRules$Inverse" 46 2 7 := ⟨"LineRules$Rule", TX2, 10, rfl, by decide, inX2, (gw_t1 (List.mem_of_getElem? (i := 90) rfl) rfl), rfl⟩
theorem fl_V_37 : gF "LineRules$Inverse" 37 2 6 := ⟨"LineRules$Rule", TX2, 10, rfl, by decide, inX2, (gw_t1 (List.mem_of_getElem? (i := 83) rfl) rfl), rfl⟩
theorem fl_V_76 : gF "LineRules$Inverse" 76 2 0 := ⟨"LineRules$Rule", TX2, 10, rfl, by decide, inX2, (gw_t1 (List.mem_of_getElem? (i := 70) rfl) rfl), rfl⟩
theorem fl_V_79 : gF "LineRules$Inverse" 79 2 8 := ⟨"LineRules$Rule", TX2, 10, rfl, by decide, inX2, (gw_t1 (List.mem_of_getElem? (i := 98) rfl) rfl), rfl⟩
theorem fl_W_50 : gF "LineRules$Weights" 50 2 8 := ⟨"LineRules$Rule", TX2, 10, rfl, by decide, inX2, (gw_t1 (List.mem_of_getElem? (i := 96) rfl) rfl), rfl⟩
theorem fl_W_60 : gF "LineRules$Weights" 60 2 6 := ⟨"LineRules$Rule", TX2, 10, rfl, by decide, inX2, (gw_t1 (List.mem_of_getElem? (i := 84) rfl) rfl), rfl⟩
theorem fl_W_67 : gF "LineRules$Weights" 67 2 0 := ⟨"LineRules$Rule", TX2, 10, rfl, by decide, inX2, (gw_t1 (List.mem_of_getElem? (i := 66) rfl) rfl), rfl⟩
theorem fl_W_71 : gF "LineRules$Weights" 71 2 9 := ⟨"LineRules$Rule", TX2, 10, rfl, by decide, inX2, (gw_t1 (List.mem_of_getElem? (i := 102) rfl) rfl), rfl⟩
theorem fl_W_82 : gF "LineRules$Weights" 82 2 7 := ⟨"LineRules$Rule", TX2, 10, rfl, by decide, inX2, (gw_t1 (List.mem_of_getElem? (i := 92) rfl) rfl), rfl⟩
theorem fl_O_74 : gF "LineRules$Orphan" 74 2 6 := ⟨"LineRules$Rule", TX2, 10, rfl, by decide, inX2, (gw_t1 (List.mem_of_getElem? (i := 86) rfl) rfl), rfl⟩
theorem fl_O_87 : gF "LineRules$Orphan" 87 2 9 := ⟨"LineRules$Rule", TX2, 10, rfl, by decide, inX2, (gw_t1 (List.mem_of_getElem? (i := 103) rfl) rfl), rfl⟩
theorem fl_H_56 : gF "LineRules$Past" 56 2 9 := ⟨"LineRules$Rule", TX2, 10, rfl, by decide, inX2, (gw_t1 (List.mem_of_getElem? (i := 101) rfl) rfl), rfl⟩
theorem fl_H_80 : gF "LineRules$Past" 80 3 1 := ⟨"LineRules$Ring", TX3, 5, rfl, by decide, inX3, (gw_t1 (List.mem_of_getElem? (i := 137) rfl) rfl), rfl⟩
theorem fl_H_73 : gF "LineRules$Past" 73 3 0 := ⟨"LineRules$Ring", TX3, 5, rfl, by decide, inX3, (gw_t1 (List.mem_of_getElem? (i := 134) rfl) rfl), rfl⟩
theorem fl_H_99 : gF "LineRules$Past" 99 2 7 := ⟨"LineRules$Rule", TX2, 10, rfl, by decide, inX2, (gw_t1 (List.mem_of_getElem? (i := 93) rfl) rfl), rfl⟩
theorem fl_H_102 : gF "LineRules$Past" 102 2 6 := ⟨"LineRules$Rule", TX2, 10, rfl, by decide, inX2, (gw_t1 (List.mem_of_getElem? (i := 88) rfl) rfl), rfl⟩
theorem fl_H_108 : gF "LineRules$Past" 108 2 0 := ⟨"LineRules$Rule", TX2, 10, rfl, by decide, inX2, (gw_t1 (List.mem_of_getElem? (i := 71) rfl) rfl), rfl⟩
theorem fl_H_120 : gF "LineRules$Past" 120 2 2 := ⟨"LineRules$Rule", TX2, 10, rfl, by decide, inX2, (gw_t1 (List.mem_of_getElem? (i := 74) rfl) rfl), rfl⟩
theorem fl_H_123 : gF "LineRules$Past" 123 2 3 := ⟨"LineRules$Rule", TX2, 10, rfl, by decide, inX2, (gw_t1 (List.mem_of_getElem? (i := 76) rfl) rfl), rfl⟩
theorem fl_H_126 : gF "LineRules$Past" 126 2 4 := ⟨"LineRules$Rule", TX2, 10, rfl, by decide, inX2, (gw_t1 (List.mem_of_getElem? (i := 78) rfl) rfl), rfl⟩
theorem fl_M_7 : gF "LineRulesModel" 7 9 1 := ⟨"LineRulesModel", TX9, 54, rfl, by decide, inX9, (gw_t4 (List.mem_of_getElem? (i := 63) rfl) rfl), rfl⟩
theorem fl_M_13 : gF "LineRulesModel" 13 9 6 := ⟨"LineRulesModel", TX9, 54, rfl, by decide, inX9, (gw_t4 (List.mem_of_getElem? (i := 68) rfl) rfl), rfl⟩
theorem fl_M_16 : gF "LineRulesModel" 16 9 7 := ⟨"LineRulesModel", TX9, 54, rfl, by decide, inX9, (gw_t4 (List.mem_of_getElem? (i := 69) rfl) rfl), rfl⟩
theorem fp_M_16 : gFp "LineRulesModel" 16 9 7 .int := ⟨"LineRulesModel", TX9, 54, tyX9, rfl, by decide, inX9, (gw_t4 (List.mem_of_getElem? (i := 69) rfl) rfl), rfl, tyX9_ok, nmX9, rfl, by decide +kernel⟩
theorem fl_M_20 : gF "LineRulesModel" 20 9 8 := ⟨"LineRulesModel", TX9, 54, rfl, by decide, inX9, (gw_t4 (List.mem_of_getElem? (i := 70) rfl) rfl), rfl⟩
theorem fl_M_23 : gF "LineRulesModel" 23 9 9 := ⟨"LineRulesModel", TX9, 54, rfl, by decide, inX9, (gw_t4 (List.mem_of_getElem? (i := 71) rfl) rfl), rfl⟩
theorem fl_M_26 : gF "LineRulesModel" 26 9 14 := ⟨"LineRulesModel", TX9, 54, rfl, by decide, inX9, (gw_t4 (List.mem_of_getElem? (i := 76) rfl) rfl), rfl⟩
theorem fl_M_29 : gF "LineRulesModel" 29 9 15 := ⟨"LineRulesModel", TX9, 54, rfl, by decide, inX9, (gw_t4 (List.mem_of_getElem? (i := 77) rfl) rfl), rfl⟩
theorem fl_M_32 : gF "LineRulesModel" 32 9 16 := ⟨"LineRulesModel", TX9, 54, rfl, by decide, inX9, (gw_t4 (List.mem_of_getElem? (i := 78) rfl) rfl), rfl⟩
theorem fl_M_35 : gF "LineRulesModel" 35 9 17 := ⟨"LineRulesModel", TX9, 54, rfl, by decide, inX9, (gw_t4 (List.mem_of_getElem? (i := 79) rfl) rfl), rfl⟩
theorem fl_M_38 : gF "LineRulesModel" 38 9 18 := ⟨"LineRulesModel", TX9, 54, rfl, by decide, inX9, (gw_t4 (List.mem_of_getElem? (i := 80) rfl) rfl), rfl⟩
theorem fl_M_41 : gF "LineRulesModel" 41 9 19 := ⟨"LineRulesModel", TX9, 54, rfl, by decide, inX9, (gw_t4 (List.mem_of_getElem? (i := 81) rfl) rfl), rfl⟩
theorem fl_M_45 : gF "LineRulesModel" 45 9 20 := ⟨"LineRulesModel", TX9, 54, rfl, by decide, inX9, (gw_t4 (List.mem_of_getElem? (i := 82) rfl) rfl), rfl⟩
theorem fl_M_48 : gF "LineRulesModel" 48 9 21 := ⟨"LineRulesModel", TX9, 54, rfl, by decide, inX9, (gw_t4 (List.mem_of_getElem? (i := 83) rfl) rfl), rfl⟩
theorem fl_M_51 : gF "LineRulesModel" 51 9 22 := ⟨"LineRulesModel", TX9, 54, rfl, by decide, inX9, (gw_t4 (List.mem_of_getElem? (i := 84) rfl) rfl), rfl⟩
theorem fl_M_54 : gF "LineRulesModel" 54 9 23 := ⟨"LineRulesModel", TX9, 54, rfl, by decide, inX9, (gw_t4 (List.mem_of_getElem? (i := 85) rfl) rfl), rfl⟩
theorem fl_M_57 : gF "LineRulesModel" 57 9 24 := ⟨"LineRulesModel", TX9, 54, rfl, by decide, inX9, (gw_t4 (List.mem_of_getElem? (i := 86) rfl) rfl), rfl⟩
theorem fl_M_60 : gF "LineRulesModel" 60 9 25 := ⟨"LineRulesModel", TX9, 54, rfl, by decide, inX9, (gw_t4 (List.mem_of_getElem? (i := 87) rfl) rfl), rfl⟩
theorem fl_M_63 : gF "LineRulesModel" 63 9 26 := ⟨"LineRulesModel", TX9, 54, rfl, by decide, inX9, (gw_t4 (List.mem_of_getElem? (i := 88) rfl) rfl), rfl⟩
theorem fl_M_66 : gF "LineRulesModel" 66 9 27 := ⟨"LineRulesModel", TX9, 54, rfl, by decide, inX9, (gw_t4 (List.mem_of_getElem? (i := 89) rfl) rfl), rfl⟩
theorem fl_M_69 : gF "LineRulesModel" 69 9 30 := ⟨"LineRulesModel", TX9, 54, rfl, by decide, inX9, (gw_t4 (List.mem_of_getElem? (i := 92) rfl) rfl), rfl⟩
theorem fl_M_72 : gF "LineRulesModel" 72 9 34 := ⟨"LineRulesModel", TX9, 54, rfl, by decide, inX9, (gw_t4 (List.mem_of_getElem? (i := 96) rfl) rfl), rfl⟩
theorem fl_M_75 : gF "LineRulesModel" 75 9 37 := ⟨"LineRulesModel", TX9, 54, rfl, by decide, inX9, (gw_t4 (List.mem_of_getElem? (i := 99) rfl) rfl), rfl⟩
theorem fl_M_78 : gF "LineRulesModel" 78 9 38 := ⟨"LineRulesModel", TX9, 54, rfl, by decide, inX9, (gw_t4 (List.mem_of_getElem? (i := 100) rfl) rfl), rfl⟩
theorem fl_M_81 : gF "LineRulesModel" 81 9 39 := ⟨"LineRulesModel", TX9, 54, rfl, by decide, inX9, (gw_t4 (List.mem_of_getElem? (i := 101) rfl) rfl), rfl⟩
theorem fl_M_85 : gF "LineRulesModel" 85 9 40 := ⟨"LineRulesModel", TX9, 54, rfl, by decide, inX9, (gw_t4 (List.mem_of_getElem? (i := 102) rfl) rfl), rfl⟩
theorem fl_M_88 : gF "LineRulesModel" 88 9 43 := ⟨"LineRulesModel", TX9, 54, rfl, by decide, inX9, (gw_t4 (List.mem_of_getElem? (i := 105) rfl) rfl), rfl⟩
theorem fl_M_91 : gF "LineRulesModel" 91 9 44 := ⟨"LineRulesModel", TX9, 54, rfl, by decide, inX9, (gw_t4 (List.mem_of_getElem? (i := 106) rfl) rfl), rfl⟩
theorem fl_M_94 : gF "LineRulesModel" 94 9 45 := ⟨"LineRulesModel", TX9, 54, rfl, by decide, inX9, (gw_t4 (List.mem_of_getElem? (i := 107) rfl) rfl), rfl⟩
theorem fl_M_97 : gF "LineRulesModel" 97 9 46 := ⟨"LineRulesModel", TX9, 54, rfl, by decide, inX9, (gw_t4 (List.mem_of_getElem? (i := 108) rfl) rfl), rfl⟩
theorem fl_M_100 : gF "LineRulesModel" 100 9 50 := ⟨"LineRulesModel", TX9, 54, rfl, by decide, inX9, (gw_t4 (List.mem_of_getElem? (i := 112) rfl) rfl), rfl⟩
theorem fl_M_103 : gF "LineRulesModel" 103 9 51 := ⟨"LineRulesModel", TX9, 54, rfl, by decide, inX9, (gw_t4 (List.mem_of_getElem? (i := 113) rfl) rfl), rfl⟩
theorem fl_M_106 : gF "LineRulesModel" 106 9 52 := ⟨"LineRulesModel", TX9, 54, rfl, by decide, inX9, (gw_t4 (List.mem_of_getElem? (i := 114) rfl) rfl), rfl⟩
theorem fl_M_109 : gF "LineRulesModel" 109 9 53 := ⟨"LineRulesModel", TX9, 54, rfl, by decide, inX9, (gw_t4 (List.mem_of_getElem? (i := 115) rfl) rfl), rfl⟩
theorem fl_M_112 : gF "LineRulesModel" 112 9 0 := ⟨"LineRulesModel", TX9, 54, rfl, by decide, inX9, (gw_t4 (List.mem_of_getElem? (i := 62) rfl) rfl), rfl⟩
theorem fp_M_112 : gFp "LineRulesModel" 112 9 0 .int := ⟨"LineRulesModel", TX9, 54, tyX9, rfl, by decide, inX9, (gw_t4 (List.mem_of_getElem? (i := 62) rfl) rfl), rfl, tyX9_ok, nmX9, rfl, by decide +kernel⟩
theorem fl_M_122 : gF "LineRulesModel" 122 9 10 := ⟨"LineRulesModel", TX9, 54, rfl, by decide, inX9, (gw_t4 (List.mem_of_getElem? (i := 72) rfl) rfl), rfl⟩
theorem fp_M_122 : gFp "LineRulesModel" 122 9 10 .int := ⟨"LineRulesModel", TX9, 54, tyX9, rfl, by decide, inX9, (gw_t4 (List.mem_of_getElem? (i := 72) rfl) rfl), rfl, tyX9_ok, nmX9, rfl, by decide +kernel⟩
theorem fl_M_179 : gF "LineRulesModel" 179 9 2 := ⟨"LineRulesModel", TX9, 54, rfl, by decide, inX9, (gw_t4 (List.mem_of_getElem? (i := 64) rfl) rfl), rfl⟩
theorem fp_M_179 : gFp "LineRulesModel" 179 9 2 .int := ⟨"LineRulesModel", TX9, 54, tyX9, rfl, by decide, inX9, (gw_t4 (List.mem_of_getElem? (i := 64) rfl) rfl), rfl, tyX9_ok, nmX9, rfl, by decide +kernel⟩
theorem fl_M_144 : gF "LineRulesModel" 144 9 11 := ⟨"LineRulesModel", TX9, 54, rfl, by decide, inX9, (gw_t4 (List.mem_of_getElem? (i := 73) rfl) rfl), rfl⟩
theorem fp_M_144 : gFp "LineRulesModel" 144 9 11 .int := ⟨"LineRulesModel", TX9, 54, tyX9, rfl, by decide, inX9, (gw_t4 (List.mem_of_getElem? (i := 73) rfl) rfl), rfl, tyX9_ok, nmX9, rfl, by decide +kernel⟩
theorem fl_M_182 : gF "LineRulesModel" 182 9 3 := ⟨"LineRulesModel", TX9, 54, rfl, by decide, inX9, (gw_t4 (List.mem_of_getElem? (i := 65) rfl) rfl), rfl⟩
theorem fp_M_182 : gFp "LineRulesModel" 182 9 3 .int := ⟨"LineRulesModel", TX9, 54, tyX9, rfl, by decide, inX9, (gw_t4 (List.mem_of_getElem? (i := 65) rfl) rfl), rfl, tyX9_ok, nmX9, rfl, by decide +kernel⟩
theorem fl_M_185 : gF "LineRulesModel" 185 9 5 := ⟨"LineRulesModel", TX9, 54, rfl, by decide, inX9, (gw_t4 (List.mem_of_getElem? (i := 67) rfl) rfl), rfl⟩
theorem fp_M_185 : gFp "LineRulesModel" 185 9 5 .int := ⟨"LineRulesModel", TX9, 54, tyX9, rfl, by decide, inX9, (gw_t4 (List.mem_of_getElem? (i := 67) rfl) rfl), rfl, tyX9_ok, nmX9, rfl, by decide +kernel⟩
theorem fl_M_188 : gF "LineRulesModel" 188 9 4 := ⟨"LineRulesModel", TX9, 54, rfl, by decide, inX9, (gw_t4 (List.mem_of_getElem? (i := 66) rfl) rfl), rfl⟩
theorem fp_M_188 : gFp "LineRulesModel" 188 9 4 .int := ⟨"LineRulesModel", TX9, 54, tyX9, rfl, by decide, inX9, (gw_t4 (List.mem_of_getElem? (i := 66) rfl) rfl), rfl, tyX9_ok, nmX9, rfl, by decide +kernel⟩
theorem fl_M_194 : gF "LineRulesModel" 194 9 28 := ⟨"LineRulesModel", TX9, 54, rfl, by decide, inX9, (gw_t4 (List.mem_of_getElem? (i := 90) rfl) rfl), rfl⟩
theorem fp_M_194 : gFp "LineRulesModel" 194 9 28 .int := ⟨"LineRulesModel", TX9, 54, tyX9, rfl, by decide, inX9, (gw_t4 (List.mem_of_getElem? (i := 90) rfl) rfl), rfl, tyX9_ok, nmX9, rfl, by decide +kernel⟩
theorem fl_M_197 : gF "LineRulesModel" 197 9 29 := ⟨"LineRulesModel", TX9, 54, rfl, by decide, inX9, (gw_t4 (List.mem_of_getElem? (i := 91) rfl) rfl), rfl⟩
theorem fp_M_197 : gFp "LineRulesModel" 197 9 29 .int := ⟨"LineRulesModel", TX9, 54, tyX9, rfl, by decide, inX9, (gw_t4 (List.mem_of_getElem? (i := 91) rfl) rfl), rfl, tyX9_ok, nmX9, rfl, by decide +kernel⟩
theorem fl_M_200 : gF "LineRulesModel" 200 9 31 := ⟨"LineRulesModel", TX9, 54, rfl, by decide, inX9, (gw_t4 (List.mem_of_getElem? (i := 93) rfl) rfl), rfl⟩
theorem fp_M_200 : gFp "LineRulesModel" 200 9 31 .boolean := ⟨"LineRulesModel", TX9, 54, tyX9, rfl, by decide, inX9, (gw_t4 (List.mem_of_getElem? (i := 93) rfl) rfl), rfl, tyX9_ok, nmX9, rfl, by decide +kernel⟩
theorem fl_M_204 : gF "LineRulesModel" 204 9 35 := ⟨"LineRulesModel", TX9, 54, rfl, by decide, inX9, (gw_t4 (List.mem_of_getElem? (i := 97) rfl) rfl), rfl⟩
theorem fp_M_204 : gFp "LineRulesModel" 204 9 35 .boolean := ⟨"LineRulesModel", TX9, 54, tyX9, rfl, by decide, inX9, (gw_t4 (List.mem_of_getElem? (i := 97) rfl) rfl), rfl, tyX9_ok, nmX9, rfl, by decide +kernel⟩
theorem fl_M_207 : gF "LineRulesModel" 207 9 41 := ⟨"LineRulesModel", TX9, 54, rfl, by decide, inX9, (gw_t4 (List.mem_of_getElem? (i := 103) rfl) rfl), rfl⟩
theorem fp_M_207 : gFp "LineRulesModel" 207 9 41 .boolean := ⟨"LineRulesModel", TX9, 54, tyX9, rfl, by decide, inX9, (gw_t4 (List.mem_of_getElem? (i := 103) rfl) rfl), rfl, tyX9_ok, nmX9, rfl, by decide +kernel⟩
theorem fl_M_210 : gF "LineRulesModel" 210 9 47 := ⟨"LineRulesModel", TX9, 54, rfl, by decide, inX9, (gw_t4 (List.mem_of_getElem? (i := 109) rfl) rfl), rfl⟩
theorem fp_M_210 : gFp "LineRulesModel" 210 9 47 .boolean := ⟨"LineRulesModel", TX9, 54, tyX9, rfl, by decide, inX9, (gw_t4 (List.mem_of_getElem? (i := 109) rfl) rfl), rfl, tyX9_ok, nmX9, rfl, by decide +kernel⟩
theorem fl_M_158 : gF "LineRulesModel" 158 9 12 := ⟨"LineRulesModel", TX9, 54, rfl, by decide, inX9, (gw_t4 (List.mem_of_getElem? (i := 74) rfl) rfl), rfl⟩
theorem fp_M_158 : gFp "LineRulesModel" 158 9 12 .int := ⟨"LineRulesModel", TX9, 54, tyX9, rfl, by decide, inX9, (gw_t4 (List.mem_of_getElem? (i := 74) rfl) rfl), rfl, tyX9_ok, nmX9, rfl, by decide +kernel⟩
theorem fl_M_115 : gF "LineRulesModel" 115 9 13 := ⟨"LineRulesModel", TX9, 54, rfl, by decide, inX9, (gw_t4 (List.mem_of_getElem? (i := 75) rfl) rfl), rfl⟩
theorem fp_M_115 : gFp "LineRulesModel" 115 9 13 .int := ⟨"LineRulesModel", TX9, 54, tyX9, rfl, by decide, inX9, (gw_t4 (List.mem_of_getElem? (i := 75) rfl) rfl), rfl, tyX9_ok, nmX9, rfl, by decide +kernel⟩
theorem fl_M_236 : gF "LineRulesModel" 236 9 32 := ⟨"LineRulesModel", TX9, 54, rfl, by decide, inX9, (gw_t4 (List.mem_of_getElem? (i := 94) rfl) rfl), rfl⟩
theorem fp_M_236 : gFp "LineRulesModel" 236 9 32 .int := ⟨"LineRulesModel", TX9, 54, tyX9, rfl, by decide, inX9, (gw_t4 (List.mem_of_getElem? (i := 94) rfl) rfl), rfl, tyX9_ok, nmX9, rfl, by decide +kernel⟩
theorem fl_M_239 : gF "LineRulesModel" 239 9 33 := ⟨"LineRulesModel", TX9, 54, rfl, by decide, inX9, (gw_t4 (List.mem_of_getElem? (i := 95) rfl) rfl), rfl⟩
theorem fp_M_239 : gFp "LineRulesModel" 239 9 33 .int := ⟨"LineRulesModel", TX9, 54, tyX9, rfl, by decide, inX9, (gw_t4 (List.mem_of_getElem? (i := 95) rfl) rfl), rfl, tyX9_ok, nmX9, rfl, by decide +kernel⟩
theorem fl_M_255 : gF "LineRulesModel" 255 9 36 := ⟨"LineRulesModel", TX9, 54, rfl, by decide, inX9, (gw_t4 (List.mem_of_getElem? (i := 98) rfl) rfl), rfl⟩
theorem fp_M_255 : gFp "LineRulesModel" 255 9 36 .int := ⟨"LineRulesModel", TX9, 54, tyX9, rfl, by decide, inX9, (gw_t4 (List.mem_of_getElem? (i := 98) rfl) rfl), rfl, tyX9_ok, nmX9, rfl, by decide +kernel⟩
theorem fl_M_270 : gF "LineRulesModel" 270 9 42 := ⟨"LineRulesModel", TX9, 54, rfl, by decide, inX9, (gw_t4 (List.mem_of_getElem? (i := 104) rfl) rfl), rfl⟩
theorem fp_M_270 : gFp "LineRulesModel" 270 9 42 .int := ⟨"LineRulesModel", TX9, 54, tyX9, rfl, by decide, inX9, (gw_t4 (List.mem_of_getElem? (i := 104) rfl) rfl), rfl, tyX9_ok, nmX9, rfl, by decide +kernel⟩
theorem fl_M_291 : gF "LineRulesModel" 291 9 48 := ⟨"LineRulesModel", TX9, 54, rfl, by decide, inX9, (gw_t4 (List.mem_of_getElem? (i := 110) rfl) rfl), rfl⟩
theorem fp_M_291 : gFp "LineRulesModel" 291 9 48 .boolean := ⟨"LineRulesModel", TX9, 54, tyX9, rfl, by decide, inX9, (gw_t4 (List.mem_of_getElem? (i := 110) rfl) rfl), rfl, tyX9_ok, nmX9, rfl, by decide +kernel⟩
theorem fl_M_294 : gF "LineRulesModel" 294 9 49 := ⟨"LineRulesModel", TX9, 54, rfl, by decide, inX9, (gw_t4 (List.mem_of_getElem? (i := 111) rfl) rfl), rfl⟩
theorem fp_M_294 : gFp "LineRulesModel" 294 9 49 .long := ⟨"LineRulesModel", TX9, 54, tyX9, rfl, by decide, inX9, (gw_t4 (List.mem_of_getElem? (i := 111) rfl) rfl), rfl, tyX9_ok, nmX9, rfl, by decide +kernel⟩
def lyC : gs_L := fun k => match k with
  | 0 => .inr (0, [4, 7, 13, 17, 20, 22, 34, 40])
  | 1 => .inr (1, [5, 6, 0, 0, 0, 0, 0, 0, 0])
  | 2 => .inl (3, 64, 0)
  | 3 => .inl (0, 4, 0)
  | 4 => .inr (2, [8, 9, 10, 11, 12, 0, 0, 0, 0, 0])
  | 5 => .inl (0, 256, 0)
  | 6 => .inl (1, 256, 0)
  | 7 => .inl (0, 256, 0)
  | 8 => .inl (0, 256, 0)
  | 9 => .inl (0, 5, 0)
  | 10 => .inr (3, [14, 0, 7, 15, 16])
  | 11 => .inl (0, 64, 0)
  | 12 => .inl (0, 64, 0)
  | 13 => .inl (0, 64, 0)
  | 14 => .inr (4, [7, 18, 19, 0, 0, 0, 0])
  | 15 => .inl (1, 64, 0)
  | 16 => .inl (1, 64, 0)
  | 17 => .inr (5, [7, 17, 21, 0, 0, 0])
  | 18 => .inl (0, 1024, 0)
  | 19 => .inr (6, [7, 23, 28, 33, 0, 0])
  | 20 => .inl (4, 4, 21)
  | 21 => .inl (1, 4, 0)
  | 22 => .inl (1, 4, 0)
  | 23 => .inl (1, 4, 0)
  | 24 => .inl (1, 4, 0)
  | 25 => .inl (4, 4, 26)
  | 26 => .inl (1, 4, 0)
  | 27 => .inl (1, 4, 0)
  | 28 => .inl (1, 4, 0)
  | 29 => .inl (1, 4, 0)
  | 30 => .inl (1, 4, 0)
  | 31 => .inr (7, [7, 17, 35, 36, 37, 38, 39, 0, 0, 0])
  | 32 => .inl (1, 500, 0)
  | 33 => .inl (0, 500, 0)
  | 34 => .inl (0, 500, 0)
  | 35 => .inl (1, 4, 0)
  | 36 => .inl (0, 500, 0)
  | 37 => .inr (8, [7, 13, 41, 42, 2, 2, 0, 0, 0, 1])
  | 38 => .inl (1, 65, 0)
  | 39 => .inl (0, 64, 0)
  | 40 => .inl (1, 64, 0)
  | _ => .inl (1, 64, 0)
def lyM : gs_L := fun k => match k with
  | 0 => .inr (9, [0, 4, 0, 0, 0, 0, 5, 0, 6, 7, 0, 0, 0, 0, 8, 9, 10, 11, 12, 13, 14, 15, 16, 17, 18, 19, 20, 21, 0, 0, 22, 0, 0, 0, 23, 0, 0, 24, 25, 26, 27, 0, 0, 28, 29, 30, 31, 0, 0, 1, 32, 33, 34, 35])
  | 1 => .inl (0, 64, 0)
  | 2 => .inl (0, 256, 0)
  | 3 => .inl (0, 64, 0)
  | 4 => .inl (0, 64, 0)
  | 5 => .inl (0, 6, 0)
  | 6 => .inl (0, 6, 0)
  | 7 => .inl (0, 6, 0)
  | 8 => .inl (0, 6, 0)
  | 9 => .inl (0, 6, 0)
  | 10 => .inl (2, 6, 0)
  | 11 => .inl (0, 6, 0)
  | 12 => .inl (0, 6, 0)
  | 13 => .inl (0, 6, 0)
  | 14 => .inl (0, 6, 0)
  | 15 => .inl (0, 6, 0)
  | 16 => .inl (2, 6, 0)
  | 17 => .inl (0, 6, 0)
  | 18 => .inl (2, 6, 0)
  | 19 => .inl (2, 4096, 0)
  | 20 => .inl (0, 1024, 0)
  | 21 => .inl (0, 16, 0)
  | 22 => .inl (2, 4, 0)
  | 23 => .inl (1, 16, 0)
  | 24 => .inl (1, 4, 0)
  | 25 => .inl (0, 512, 0)
  | 26 => .inl (1, 500, 0)
  | 27 => .inl (0, 500, 0)
  | 28 => .inl (0, 500, 0)
  | 29 => .inl (0, 68, 0)
  | 30 => .inl (1, 64, 0)
  | 31 => .inl (1, 64, 0)
  | _ => .inl (1, 65, 0)
theorem ly_ties {i : Int32} (h : vp_in i 4) : 21 + i.toNatClampNeg < 42 ∧ lyC (21 + i.toNatClampNeg) = .inl (1, 4, 0) := by
  obtain ⟨j, hj, rfl⟩ := vp_in_of h (by decide)
  rw [nI_clamp (by omega)]
  rcases (show j = 0 ∨ j = 1 ∨ j = 2 ∨ j = 3 by omega) with h | h | h | h <;> subst h <;> exact ⟨by decide, rfl⟩
theorem ly_basis {i : Int32} (h : vp_in i 4) : 26 + i.toNatClampNeg < 42 ∧ lyC (26 + i.toNatClampNeg) = .inl (1, 4, 0) := by
  obtain ⟨j, hj, rfl⟩ := vp_in_of h (by decide)
  rw [nI_clamp (by omega)]
  rcases (show j = 0 ∨ j = 1 ∨ j = 2 ∨ j = 3 by omega) with h | h | h | h <;> subst h <;> exact ⟨by decide, rfl⟩
end
section
/-! java/util/Arrays.fill -/
theorem d_Y_fillI_0 : decode me_Y_fillI.2.1 0 = .ok (.iconst 0, 1) := by decide +kernel
theorem d_Y_fillI_1 : decode me_Y_fillI.2.1 1 = .ok (.istore_n 2, 1) := by decide +kernel
theorem d_Y_fillI_2 : decode me_Y_fillI.2.1 2 = .ok (.aload_n 0, 1) := by decide +kernel
theorem d_Y_fillI_3 : decode me_Y_fillI.2.1 3 = .ok (.arraylength, 1) := by decide +kernel
theorem d_Y_fillI_4 : decode me_Y_fillI.2.1 4 = .ok (.istore_n 3, 1) := by decide +kernel
theorem d_Y_fillI_5 : decode me_Y_fillI.2.1 5 = .ok (.iload_n 2, 1) := by decide +kernel
theorem d_Y_fillI_6 : decode me_Y_fillI.2.1 6 = .ok (.iload_n 3, 1) := by decide +kernel
theorem d_Y_fillI_7 : decode me_Y_fillI.2.1 7 = .ok (.if_icmp .ge 13, 3) := by decide +kernel
theorem d_Y_fillI_10 : decode me_Y_fillI.2.1 10 = .ok (.aload_n 0, 1) := by decide +kernel
theorem d_Y_fillI_11 : decode me_Y_fillI.2.1 11 = .ok (.iload_n 2, 1) := by decide +kernel
theorem d_Y_fillI_12 : decode me_Y_fillI.2.1 12 = .ok (.iload_n 1, 1) := by decide +kernel
theorem d_Y_fillI_13 : decode me_Y_fillI.2.1 13 = .ok (.iastore, 1) := by decide +kernel
theorem d_Y_fillI_14 : decode me_Y_fillI.2.1 14 = .ok (.iinc 2 1, 3) := by decide +kernel
theorem d_Y_fillI_17 : decode me_Y_fillI.2.1 17 = .ok (.goto (-12), 3) := by decide +kernel
theorem d_Y_fillI_20 : decode me_Y_fillI.2.1 20 = .ok (.return_, 1) := by decide +kernel
abbrev G_Y_fillI_0 (l : Launch) (v : gs_V) (n : Nat) (post : gs_S → Prop) (σ : gs_S) (x0 : Nat) (x1 : Int32) : Prop := gG l v lyC 42 me_Y_fillI n (qV v lyC 42 post) 0 [(0, .ref (v.2.2 x0)), (1, .int x1)] [] σ
abbrev G_Y_fillI_5 (l : Launch) (v : gs_V) (n : Nat) (post : gs_S → Prop) (σ : gs_S) (x0 : Nat) (x1 : Int32) (x2 : Int32) (x3 : Int32) : Prop := gG l v lyC 42 me_Y_fillI n (qV v lyC 42 post) 5 [(0, .ref (v.2.2 x0)), (1, .int x1), (2, .int x2), (3, .int x3)] [] σ
set_option maxRecDepth 20000 in
set_option maxHeartbeats 1000000 in
theorem T_Y_fillI_0 {l : Launch} {v : gs_V} {n : Nat} {post : gs_S → Prop} {σ : gs_S} {x0 : Nat} {x1 : Int32} {len : Nat} (hx0 : x0 < 42 ∧ lyC x0 = .inl (0, len, 0)) (h : G_Y_fillI_5 l v n post σ x0 x1 0 (Int32.ofNat len)) : G_Y_fillI_0 l v n post σ x0 x1 := by
  refine g_iconst d_Y_fillI_0 (x := 0) (by decide) ?_
  refine g_istore_n (L' := [(2, .int 0), (0, .ref (v.2.2 x0)), (1, .int x1)]) d_Y_fillI_1 rfl (by decide) rfl ?_
  refine g_aload_n d_Y_fillI_2 1 rfl rfl ?_
  refine g_alen (x := Int32.ofNat len) d_Y_fillI_3 hx0.1 hx0.2 (by decide) (by rfl) ?_
  refine g_istore_n (L' := [(3, .int (Int32.ofNat len)), (2, .int 0), (0, .ref (v.2.2 x0)), (1, .int x1)]) d_Y_fillI_4 rfl (by decide) rfl ?_
  exact g_sub [2, 3, 1, 0] rfl h
set_option maxRecDepth 20000 in
set_option maxHeartbeats 1000000 in
theorem T_Y_fillI_5 {l : Launch} {v : gs_V} {n : Nat} {post : gs_S → Prop} {σ : gs_S} {x0 : Nat} {x1 : Int32} {x2 : Int32} {x3 : Int32} {len : Nat} (hx0 : x0 < 42 ∧ lyC x0 = .inl (0, len, 0)) (h : ((x3 ≤ x2 → post σ) ∧ (¬ x3 ≤ x2 → vp_in x2 len ∧ G_Y_fillI_5 l v n post (gs_pI σ x0 x2.toNatClampNeg x1) x0 x1 (x2 + 1) x3))) : G_Y_fillI_5 l v n post σ x0 x1 x2 x3 := by
  refine g_iload_n d_Y_fillI_5 2 rfl rfl ?_
  refine g_iload_n d_Y_fillI_6 3 rfl rfl ?_
  refine g_icmp_ge (tgt := 20) d_Y_fillI_7 rfl (fun hc => ?_) (fun hc => ?_)
  · have h := h.1 hc
    exact g_vret d_Y_fillI_20 rfl h
  · have h := h.2 hc
    refine g_aload_n d_Y_fillI_10 0 rfl rfl ?_
    refine g_iload_n d_Y_fillI_11 2 rfl rfl ?_
    refine g_iload_n d_Y_fillI_12 1 rfl rfl ?_
    have hi1 := h.1
    have h := h.2
    refine g_iast d_Y_fillI_13 hx0.1 hx0.2 hi1 ?_
    refine g_iinc (L' := [(2, .int (x2 + 1)), (0, .ref (v.2.2 x0)), (1, .int x1), (3, .int x3)]) d_Y_fillI_14 2 rfl (by rfl) (by decide) rfl ?_
    refine g_goto (tgt := 5) d_Y_fillI_17 rfl ?_
    exact g_sub [1, 2, 0, 3] rfl h
theorem E_Y_fillI {l : Launch} {v : gs_V} {n : Nat} {post : gs_S → Prop} {σ : gs_S} {x0 : Nat} {x1 : Int32} (h : G_Y_fillI_0 l v n post σ x0 x1) : gM l v lyC 42 me_Y_fillI (n + 1) [.ref (v.2.2 x0), .int x1] σ (qV v lyC 42 post) := gM_of (by decide +kernel) (Nat.le_of_ble_eq_true rfl) h
/-! java/util/Arrays.fill -/
theorem d_Y_fillJ_0 : decode me_Y_fillJ.2.1 0 = .ok (.iconst 0, 1) := by decide +kernel
theorem d_Y_fillJ_1 : decode me_Y_fillJ.2.1 1 = .ok (.istore_n 3, 1) := by decide +kernel
theorem d_Y_fillJ_2 : decode me_Y_fillJ.2.1 2 = .ok (.aload_n 0, 1) := by decide +kernel
theorem d_Y_fillJ_3 : decode me_Y_fillJ.2.1 3 = .ok (.arraylength, 1) := by decide +kernel
theorem d_Y_fillJ_4 : decode me_Y_fillJ.2.1 4 = .ok (.istore 4, 2) := by decide +kernel
theorem d_Y_fillJ_6 : decode me_Y_fillJ.2.1 6 = .ok (.iload_n 3, 1) := by decide +kernel
theorem d_Y_fillJ_7 : decode me_Y_fillJ.2.1 7 = .ok (.iload 4, 2) := by decide +kernel
theorem d_Y_fillJ_9 : decode me_Y_fillJ.2.1 9 = .ok (.if_icmp .ge 13, 3) := by decide +kernel
theorem d_Y_fillJ_12 : decode me_Y_fillJ.2.1 12 = .ok (.aload_n 0, 1) := by decide +kernel
theorem d_Y_fillJ_13 : decode me_Y_fillJ.2.1 13 = .ok (.iload_n 3, 1) := by decide +kernel
theorem d_Y_fillJ_14 : decode me_Y_fillJ.2.1 14 = .ok (.lload_n 1, 1) := by decide +kernel
theorem d_Y_fillJ_15 : decode me_Y_fillJ.2.1 15 = .ok (.lastore, 1) := by decide +kernel
theorem d_Y_fillJ_16 : decode me_Y_fillJ.2.1 16 = .ok (.iinc 3 1, 3) := by decide +kernel
theorem d_Y_fillJ_19 : decode me_Y_fillJ.2.1 19 = .ok (.goto (-13), 3) := by decide +kernel
theorem d_Y_fillJ_22 : decode me_Y_fillJ.2.1 22 = .ok (.return_, 1) := by decide +kernel
abbrev G_Y_fillJ_0 (l : Launch) (v : gs_V) (n : Nat) (post : gs_S → Prop) (σ : gs_S) (x0 : Nat) (x1 : Int64) : Prop := gG l v lyC 42 me_Y_fillJ n (qV v lyC 42 post) 0 [(0, .ref (v.2.2 x0)), (1, .long x1)] [] σ
abbrev G_Y_fillJ_6 (l : Launch) (v : gs_V) (n : Nat) (post : gs_S → Prop) (σ : gs_S) (x0 : Nat) (x1 : Int64) (x3 : Int32) (x4 : Int32) : Prop := gG l v lyC 42 me_Y_fillJ n (qV v lyC 42 post) 6 [(0, .ref (v.2.2 x0)), (1, .long x1), (3, .int x3), (4, .int x4)] [] σ
set_option maxRecDepth 20000 in
set_option maxHeartbeats 1000000 in
theorem T_Y_fillJ_0 {l : Launch} {v : gs_V} {n : Nat} {post : gs_S → Prop} {σ : gs_S} {x0 : Nat} {x1 : Int64} {len : Nat} (hx0 : x0 < 42 ∧ lyC x0 = .inl (1, len, 0)) (h : G_Y_fillJ_6 l v n post σ x0 x1 0 (Int32.ofNat len)) : G_Y_fillJ_0 l v n post σ x0 x1 := by
  refine g_iconst d_Y_fillJ_0 (x := 0) (by decide) ?_
  refine g_istore_n (L' := [(3, .int 0), (0, .ref (v.2.2 x0)), (1, .long x1)]) d_Y_fillJ_1 rfl (by decide) rfl ?_
  refine g_aload_n d_Y_fillJ_2 1 rfl rfl ?_
  refine g_alen (x := Int32.ofNat len) d_Y_fillJ_3 hx0.1 hx0.2 (by decide) (by rfl) ?_
  refine g_istore (L' := [(4, .int (Int32.ofNat len)), (3, .int 0), (0, .ref (v.2.2 x0)), (1, .long x1)]) d_Y_fillJ_4 (by decide) rfl ?_
  exact g_sub [2, 3, 1, 0] rfl h
set_option maxRecDepth 20000 in
set_option maxHeartbeats 1000000 in
theorem T_Y_fillJ_6 {l : Launch} {v : gs_V} {n : Nat} {post : gs_S → Prop} {σ : gs_S} {x0 : Nat} {x1 : Int64} {x3 : Int32} {x4 : Int32} {len : Nat} (hx0 : x0 < 42 ∧ lyC x0 = .inl (1, len, 0)) (h : ((x4 ≤ x3 → post σ) ∧ (¬ x4 ≤ x3 → vp_in x3 len ∧ G_Y_fillJ_6 l v n post (gs_pL σ x0 x3.toNatClampNeg x1) x0 x1 (x3 + 1) x4))) : G_Y_fillJ_6 l v n post σ x0 x1 x3 x4 := by
  refine g_iload_n d_Y_fillJ_6 2 rfl rfl ?_
  refine g_iload d_Y_fillJ_7 3 rfl ?_
  refine g_icmp_ge (tgt := 22) d_Y_fillJ_9 rfl (fun hc => ?_) (fun hc => ?_)
  · have h := h.1 hc
    exact g_vret d_Y_fillJ_22 rfl h
  · have h := h.2 hc
    refine g_aload_n d_Y_fillJ_12 0 rfl rfl ?_
    refine g_iload_n d_Y_fillJ_13 2 rfl rfl ?_
    refine g_lload_n d_Y_fillJ_14 1 rfl rfl ?_
    have hi1 := h.1
    have h := h.2
    refine g_last d_Y_fillJ_15 hx0.1 hx0.2 hi1 ?_
    refine g_iinc (L' := [(3, .int (x3 + 1)), (0, .ref (v.2.2 x0)), (1, .long x1), (4, .int x4)]) d_Y_fillJ_16 2 rfl (by rfl) (by decide) rfl ?_
    refine g_goto (tgt := 6) d_Y_fillJ_19 rfl ?_
    exact g_sub [1, 2, 0, 3] rfl h
theorem E_Y_fillJ {l : Launch} {v : gs_V} {n : Nat} {post : gs_S → Prop} {σ : gs_S} {x0 : Nat} {x1 : Int64} (h : G_Y_fillJ_0 l v n post σ x0 x1) : gM l v lyC 42 me_Y_fillJ (n + 1) [.ref (v.2.2 x0), .long x1] σ (qV v lyC 42 post) := gM_of (by decide +kernel) (Nat.le_of_ble_eq_true rfl) h
/-! LineRules$Rule.hasState -/
theorem d_R_hasState_0 : decode me_R_hasState.2.1 0 = .ok (.iload_n 1, 1) := by decide +kernel
theorem d_R_hasState_1 : decode me_R_hasState.2.1 1 = .ok (.ifCond .lt 15, 3) := by decide +kernel
theorem d_R_hasState_4 : decode me_R_hasState.2.1 4 = .ok (.iload_n 1, 1) := by decide +kernel
theorem d_R_hasState_5 : decode me_R_hasState.2.1 5 = .ok (.aload_n 0, 1) := by decide +kernel
theorem d_R_hasState_6 : decode me_R_hasState.2.1 6 = .ok (.getfield 32, 3) := by decide +kernel
theorem d_R_hasState_9 : decode me_R_hasState.2.1 9 = .ok (.if_icmp .ge 7, 3) := by decide +kernel
theorem d_R_hasState_12 : decode me_R_hasState.2.1 12 = .ok (.iconst 1, 1) := by decide +kernel
theorem d_R_hasState_13 : decode me_R_hasState.2.1 13 = .ok (.goto 4, 3) := by decide +kernel
theorem d_R_hasState_16 : decode me_R_hasState.2.1 16 = .ok (.iconst 0, 1) := by decide +kernel
theorem d_R_hasState_17 : decode me_R_hasState.2.1 17 = .ok (.ireturn, 1) := by decide +kernel
abbrev G_R_hasState_0 (l : Launch) (v : gs_V) (n : Nat) (post : Int32 → gs_S → Prop) (σ : gs_S) (x1 : Int32) : Prop := gG l v lyC 42 me_R_hasState n (qI v lyC 42 post) 0 [(0, .ref (v.2.2 4)), (1, .int x1)] [] σ
abbrev G_R_hasState_16 (l : Launch) (v : gs_V) (n : Nat) (post : Int32 → gs_S → Prop) (σ : gs_S) : Prop := gG l v lyC 42 me_R_hasState n (qI v lyC 42 post) 16 [] [] σ
abbrev G_R_hasState_17 (l : Launch) (v : gs_V) (n : Nat) (post : Int32 → gs_S → Prop) (σ : gs_S) (s0 : Int32) : Prop := gG l v lyC 42 me_R_hasState n (qI v lyC 42 post) 17 [] [.int s0] σ
set_option maxRecDepth 20000 in
set_option maxHeartbeats 1000000 in
theorem T_R_hasState_0 {l : Launch} {v : gs_V} {n : Nat} {post : Int32 → gs_S → Prop} {σ : gs_S} {x1 : Int32} (h : ((x1 < 0 → G_R_hasState_16 l v n post σ) ∧ (¬ x1 < 0 → (((σ.1 4 6) ≤ x1 → G_R_hasState_16 l v n post σ) ∧ (¬ (σ.1 4 6) ≤ x1 → G_R_hasState_17 l v n post σ 1))))) : G_R_hasState_0 l v n post σ x1 := by
  refine g_iload_n d_R_hasState_0 1 rfl rfl ?_
  refine g_if_lt (tgt := 16) d_R_hasState_1 rfl (fun hc => ?_) (fun hc => ?_)
  · have h := h.1 hc
    exact g_sub [] rfl h
  · have h := h.2 hc
    refine g_iload_n d_R_hasState_4 1 rfl rfl ?_
    refine g_aload_n d_R_hasState_5 0 rfl rfl ?_
    refine g_getV (x := .int (σ.1 4 6)) d_R_hasState_6 fl_R_32 (by decide) rfl rfl rfl ?_
    refine g_icmp_ge (tgt := 16) d_R_hasState_9 rfl (fun hc => ?_) (fun hc => ?_)
    · have h := h.1 hc
      exact g_sub [] rfl h
    · have h := h.2 hc
      refine g_iconst d_R_hasState_12 (x := 1) (by decide) ?_
      refine g_goto (tgt := 17) d_R_hasState_13 rfl ?_
      exact g_sub [] rfl h
set_option maxRecDepth 20000 in
set_option maxHeartbeats 1000000 in
theorem T_R_hasState_16 {l : Launch} {v : gs_V} {n : Nat} {post : Int32 → gs_S → Prop} {σ : gs_S} (h : G_R_hasState_17 l v n post σ 0) : G_R_hasState_16 l v n post σ := by
  refine g_iconst d_R_hasState_16 (x := 0) (by decide) ?_
  exact h
set_option maxRecDepth 20000 in
set_option maxHeartbeats 1000000 in
theorem T_R_hasState_17 {l : Launch} {v : gs_V} {n : Nat} {post : Int32 → gs_S → Prop} {σ : gs_S} {s0 : Int32} (h : narrow .boolean (.int s0) = .int s0 ∧ post s0 σ) : G_R_hasState_17 l v n post σ s0 := by
  exact g_zret d_R_hasState_17 rfl h.1 h.2
theorem E_R_hasState {l : Launch} {v : gs_V} {n : Nat} {post : Int32 → gs_S → Prop} {σ : gs_S} {x1 : Int32} (h : G_R_hasState_0 l v n post σ x1) : gM l v lyC 42 me_R_hasState (n + 1) [.ref (v.2.2 4), .int x1] σ (qI v lyC 42 post) := gM_of (by decide +kernel) (Nat.le_of_ble_eq_true rfl) h
/-! LineRules$Ring.clear -/
theorem d_C_clear_0 : decode me_C_clear.2.1 0 = .ok (.aload_n 0, 1) := by decide +kernel
theorem d_C_clear_1 : decode me_C_clear.2.1 1 = .ok (.getfield 9, 3) := by decide +kernel
theorem d_C_clear_4 : decode me_C_clear.2.1 4 = .ok (.iconst 0, 1) := by decide +kernel
theorem d_C_clear_5 : decode me_C_clear.2.1 5 = .ok (.invokestatic 32, 3) := by decide +kernel
theorem d_C_clear_8 : decode me_C_clear.2.1 8 = .ok (.return_, 1) := by decide +kernel
abbrev G_C_clear_0 (l : Launch) (v : gs_V) (n : Nat) (post : gs_S → Prop) (σ : gs_S) : Prop := gG l v lyC 42 me_C_clear n (qV v lyC 42 post) 0 [(0, .ref (v.2.2 10))] [] σ
set_option maxRecDepth 20000 in
set_option maxHeartbeats 1000000 in
theorem T_C_clear_0 {l : Launch} {v : gs_V} {n : Nat} {post : gs_S → Prop} {σ : gs_S} (h : gM l v lyC 42 me_Y_fillI n [.ref (v.2.2 11), .int 0] σ (qV v lyC 42 (fun σ1 => post σ1))) : G_C_clear_0 l v n post σ := by
  refine g_aload_n d_C_clear_0 0 rfl rfl ?_
  refine g_getV (x := .ref (v.2.2 11)) d_C_clear_1 fl_C_9 (by decide) rfl rfl rfl ?_
  refine g_iconst d_C_clear_4 (x := 0) (by decide) ?_
  refine g_callSv (av := [.ref (v.2.2 11), .int 0]) (rest := []) d_C_clear_5 Y_Y_fillI lk_C_32 I_Y_fillI rfl (Nat.le_of_ble_eq_true rfl) rfl h (fun σ1 h => ?_)
  exact g_vret d_C_clear_8 rfl h
theorem E_C_clear {l : Launch} {v : gs_V} {n : Nat} {post : gs_S → Prop} {σ : gs_S} (h : G_C_clear_0 l v n post σ) : gM l v lyC 42 me_C_clear (n + 1) [.ref (v.2.2 10)] σ (qV v lyC 42 post) := gM_of (by decide +kernel) (Nat.le_of_ble_eq_true rfl) h
/-! LineRules$Ring.has -/
theorem d_C_has_0 : decode me_C_has.2.1 0 = .ok (.iload_n 1, 1) := by decide +kernel
theorem d_C_has_1 : decode me_C_has.2.1 1 = .ok (.ifCond .lt 15, 3) := by decide +kernel
theorem d_C_has_4 : decode me_C_has.2.1 4 = .ok (.iload_n 1, 1) := by decide +kernel
theorem d_C_has_5 : decode me_C_has.2.1 5 = .ok (.aload_n 0, 1) := by decide +kernel
theorem d_C_has_6 : decode me_C_has.2.1 6 = .ok (.getfield 15, 3) := by decide +kernel
theorem d_C_has_9 : decode me_C_has.2.1 9 = .ok (.if_icmp .ge 7, 3) := by decide +kernel
theorem d_C_has_12 : decode me_C_has.2.1 12 = .ok (.iconst 1, 1) := by decide +kernel
theorem d_C_has_13 : decode me_C_has.2.1 13 = .ok (.goto 4, 3) := by decide +kernel
theorem d_C_has_16 : decode me_C_has.2.1 16 = .ok (.iconst 0, 1) := by decide +kernel
theorem d_C_has_17 : decode me_C_has.2.1 17 = .ok (.ireturn, 1) := by decide +kernel
abbrev G_C_has_0 (l : Launch) (v : gs_V) (n : Nat) (post : Int32 → gs_S → Prop) (σ : gs_S) (x1 : Int32) : Prop := gG l v lyC 42 me_C_has n (qI v lyC 42 post) 0 [(0, .ref (v.2.2 10)), (1, .int x1)] [] σ
abbrev G_C_has_16 (l : Launch) (v : gs_V) (n : Nat) (post : Int32 → gs_S → Prop) (σ : gs_S) : Prop := gG l v lyC 42 me_C_has n (qI v lyC 42 post) 16 [] [] σ
abbrev G_C_has_17 (l : Launch) (v : gs_V) (n : Nat) (post : Int32 → gs_S → Prop) (σ : gs_S) (s0 : Int32) : Prop := gG l v lyC 42 me_C_has n (qI v lyC 42 post) 17 [] [.int s0] σ
set_option maxRecDepth 20000 in
set_option maxHeartbeats 1000000 in
theorem T_C_has_0 {l : Launch} {v : gs_V} {n : Nat} {post : Int32 → gs_S → Prop} {σ : gs_S} {x1 : Int32} (h : ((x1 < 0 → G_C_has_16 l v n post σ) ∧ (¬ x1 < 0 → (((σ.1 10 1) ≤ x1 → G_C_has_16 l v n post σ) ∧ (¬ (σ.1 10 1) ≤ x1 → G_C_has_17 l v n post σ 1))))) : G_C_has_0 l v n post σ x1 := by
  refine g_iload_n d_C_has_0 1 rfl rfl ?_
  refine g_if_lt (tgt := 16) d_C_has_1 rfl (fun hc => ?_) (fun hc => ?_)
  · have h := h.1 hc
    exact g_sub [] rfl h
  · have h := h.2 hc
    refine g_iload_n d_C_has_4 1 rfl rfl ?_
    refine g_aload_n d_C_has_5 0 rfl rfl ?_
    refine g_getV (x := .int (σ.1 10 1)) d_C_has_6 fl_C_15 (by decide) rfl rfl rfl ?_
    refine g_icmp_ge (tgt := 16) d_C_has_9 rfl (fun hc => ?_) (fun hc => ?_)
    · have h := h.1 hc
      exact g_sub [] rfl h
    · have h := h.2 hc
      refine g_iconst d_C_has_12 (x := 1) (by decide) ?_
      refine g_goto (tgt := 17) d_C_has_13 rfl ?_
      exact g_sub [] rfl h
set_option maxRecDepth 20000 in
set_option maxHeartbeats 1000000 in
theorem T_C_has_16 {l : Launch} {v : gs_V} {n : Nat} {post : Int32 → gs_S → Prop} {σ : gs_S} (h : G_C_has_17 l v n post σ 0) : G_C_has_16 l v n post σ := by
  refine g_iconst d_C_has_16 (x := 0) (by decide) ?_
  exact h
set_option maxRecDepth 20000 in
set_option maxHeartbeats 1000000 in
theorem T_C_has_17 {l : Launch} {v : gs_V} {n : Nat} {post : Int32 → gs_S → Prop} {σ : gs_S} {s0 : Int32} (h : narrow .boolean (.int s0) = .int s0 ∧ post s0 σ) : G_C_has_17 l v n post σ s0 := by
  exact g_zret d_C_has_17 rfl h.1 h.2
theorem E_C_has {l : Launch} {v : gs_V} {n : Nat} {post : Int32 → gs_S → Prop} {σ : gs_S} {x1 : Int32} (h : G_C_has_0 l v n post σ x1) : gM l v lyC 42 me_C_has (n + 1) [.ref (v.2.2 10), .int x1] σ (qI v lyC 42 post) := gM_of (by decide +kernel) (Nat.le_of_ble_eq_true rfl) h
/-! LineRules$Ring.resize -/
theorem d_C_resize_0 : decode me_C_resize.2.1 0 = .ok (.aload_n 0, 1) := by decide +kernel
theorem d_C_resize_1 : decode me_C_resize.2.1 1 = .ok (.iload_n 1, 1) := by decide +kernel
theorem d_C_resize_2 : decode me_C_resize.2.1 2 = .ok (.putfield 15, 3) := by decide +kernel
theorem d_C_resize_5 : decode me_C_resize.2.1 5 = .ok (.aload_n 0, 1) := by decide +kernel
theorem d_C_resize_6 : decode me_C_resize.2.1 6 = .ok (.invokevirtual 29, 3) := by decide +kernel
theorem d_C_resize_9 : decode me_C_resize.2.1 9 = .ok (.return_, 1) := by decide +kernel
abbrev G_C_resize_0 (l : Launch) (v : gs_V) (n : Nat) (post : gs_S → Prop) (σ : gs_S) (x1 : Int32) : Prop := gG l v lyC 42 me_C_resize n (qV v lyC 42 post) 0 [(0, .ref (v.2.2 10)), (1, .int x1)] [] σ
set_option maxRecDepth 20000 in
set_option maxHeartbeats 1000000 in
theorem T_C_resize_0 {l : Launch} {v : gs_V} {n : Nat} {post : gs_S → Prop} {σ : gs_S} {x1 : Int32} (h : gM l v lyC 42 me_C_clear n [.ref (v.2.2 10)] (gs_pI σ 10 1 x1) (qV v lyC 42 (fun σ1 => post σ1))) : G_C_resize_0 l v n post σ x1 := by
  refine g_aload_n d_C_resize_0 0 rfl rfl ?_
  refine g_iload_n d_C_resize_1 1 rfl rfl ?_
  refine g_putI d_C_resize_2 fp_C_15 (by decide) rfl rfl ⟨rfl, rfl⟩ ?_
  refine g_aload_n d_C_resize_5 0 rfl rfl ?_
  refine g_callVv (av := []) (rest := []) d_C_resize_6 Y_C_clear lk_C_29 (by decide) rfl rfl I_C_clear rfl (Nat.le_of_ble_eq_true rfl) rfl h (fun σ1 h => ?_)
  exact g_vret d_C_resize_9 rfl h
theorem E_C_resize {l : Launch} {v : gs_V} {n : Nat} {post : gs_S → Prop} {σ : gs_S} {x1 : Int32} (h : G_C_resize_0 l v n post σ x1) : gM l v lyC 42 me_C_resize (n + 1) [.ref (v.2.2 10), .int x1] σ (qV v lyC 42 post) := gM_of (by decide +kernel) (Nat.le_of_ble_eq_true rfl) h
end
section
/-! LineRules$Text.append -/
theorem d_T_append_0 : decode me_T_append.2.1 0 = .ok (.iload_n 1, 1) := by decide +kernel
theorem d_T_append_1 : decode me_T_append.2.1 1 = .ok (.bipush 32, 2) := by decide +kernel
theorem d_T_append_3 : decode me_T_append.2.1 3 = .ok (.if_icmp .lt 9, 3) := by decide +kernel
theorem d_T_append_6 : decode me_T_append.2.1 6 = .ok (.iload_n 1, 1) := by decide +kernel
theorem d_T_append_7 : decode me_T_append.2.1 7 = .ok (.bipush 126, 2) := by decide +kernel
theorem d_T_append_9 : decode me_T_append.2.1 9 = .ok (.if_icmp .le 5, 3) := by decide +kernel
theorem d_T_append_12 : decode me_T_append.2.1 12 = .ok (.iconst (-1), 1) := by decide +kernel
theorem d_T_append_13 : decode me_T_append.2.1 13 = .ok (.ireturn, 1) := by decide +kernel
theorem d_T_append_14 : decode me_T_append.2.1 14 = .ok (.aload_n 0, 1) := by decide +kernel
theorem d_T_append_15 : decode me_T_append.2.1 15 = .ok (.getfield 19, 3) := by decide +kernel
theorem d_T_append_18 : decode me_T_append.2.1 18 = .ok (.bipush 64, 2) := by decide +kernel
theorem d_T_append_20 : decode me_T_append.2.1 20 = .ok (.if_icmp .lt 6, 3) := by decide +kernel
theorem d_T_append_23 : decode me_T_append.2.1 23 = .ok (.bipush (-2), 2) := by decide +kernel
theorem d_T_append_25 : decode me_T_append.2.1 25 = .ok (.ireturn, 1) := by decide +kernel
theorem d_T_append_26 : decode me_T_append.2.1 26 = .ok (.aload_n 0, 1) := by decide +kernel
theorem d_T_append_27 : decode me_T_append.2.1 27 = .ok (.getfield 9, 3) := by decide +kernel
theorem d_T_append_30 : decode me_T_append.2.1 30 = .ok (.aload_n 0, 1) := by decide +kernel
theorem d_T_append_31 : decode me_T_append.2.1 31 = .ok (.getfield 19, 3) := by decide +kernel
theorem d_T_append_34 : decode me_T_append.2.1 34 = .ok (.iload_n 1, 1) := by decide +kernel
theorem d_T_append_35 : decode me_T_append.2.1 35 = .ok (.i2c, 1) := by decide +kernel
theorem d_T_append_36 : decode me_T_append.2.1 36 = .ok (.castore, 1) := by decide +kernel
theorem d_T_append_37 : decode me_T_append.2.1 37 = .ok (.aload_n 0, 1) := by decide +kernel
theorem d_T_append_38 : decode me_T_append.2.1 38 = .ok (.dup, 1) := by decide +kernel
theorem d_T_append_39 : decode me_T_append.2.1 39 = .ok (.getfield 19, 3) := by decide +kernel
theorem d_T_append_42 : decode me_T_append.2.1 42 = .ok (.iconst 1, 1) := by decide +kernel
theorem d_T_append_43 : decode me_T_append.2.1 43 = .ok (.iadd, 1) := by decide +kernel
theorem d_T_append_44 : decode me_T_append.2.1 44 = .ok (.putfield 19, 3) := by decide +kernel
theorem d_T_append_47 : decode me_T_append.2.1 47 = .ok (.aload_n 0, 1) := by decide +kernel
theorem d_T_append_48 : decode me_T_append.2.1 48 = .ok (.getfield 19, 3) := by decide +kernel
theorem d_T_append_51 : decode me_T_append.2.1 51 = .ok (.ireturn, 1) := by decide +kernel
abbrev G_T_append_0 (l : Launch) (v : gs_V) (n : Nat) (post : Int32 → gs_S → Prop) (σ : gs_S) (x1 : Int32) : Prop := gG l v lyC 42 me_T_append n (qI v lyC 42 post) 0 [(0, .ref (v.2.2 1)), (1, .int x1)] [] σ
abbrev G_T_append_12 (l : Launch) (v : gs_V) (n : Nat) (post : Int32 → gs_S → Prop) (σ : gs_S) : Prop := gG l v lyC 42 me_T_append n (qI v lyC 42 post) 12 [] [] σ
set_option maxRecDepth 20000 in
set_option maxHeartbeats 1000000 in
theorem T_T_append_0 {l : Launch} {v : gs_V} {n : Nat} {post : Int32 → gs_S → Prop} {σ : gs_S} {x1 : Int32} (h : ((x1 < 32 → G_T_append_12 l v n post σ) ∧ (¬ x1 < 32 → ((x1 ≤ 126 → (((σ.1 1 2) < 64 → vp_in (σ.1 1 2) 64 ∧ post ((σ.1 1 2) + 1) (gs_pI (gs_pI σ 2 ((σ.1 1 2).toNatClampNeg) (vp_nar .char ((x1.toUInt32 % 65536).toInt32))) 1 2 ((σ.1 1 2) + 1))) ∧ (¬ (σ.1 1 2) < 64 → post ((-2)) σ))) ∧ (¬ x1 ≤ 126 → G_T_append_12 l v n post σ))))) : G_T_append_0 l v n post σ x1 := by
  refine g_iload_n d_T_append_0 1 rfl rfl ?_
  refine g_bipush d_T_append_1 (x := 32) (by decide) ?_
  refine g_icmp_lt (tgt := 12) d_T_append_3 rfl (fun hc => ?_) (fun hc => ?_)
  · have h := h.1 hc
    exact g_sub [] rfl h
  · have h := h.2 hc
    refine g_iload_n d_T_append_6 1 rfl rfl ?_
    refine g_bipush d_T_append_7 (x := 126) (by decide) ?_
    refine g_icmp_le (tgt := 14) d_T_append_9 rfl (fun hc => ?_) (fun hc => ?_)
    · have h := h.1 hc
      refine g_aload_n d_T_append_14 0 rfl rfl ?_
      refine g_getV (x := .int (σ.1 1 2)) d_T_append_15 fl_T_19 (by decide) rfl rfl rfl ?_
      refine g_bipush d_T_append_18 (x := 64) (by decide) ?_
      refine g_icmp_lt (tgt := 26) d_T_append_20 rfl (fun hc => ?_) (fun hc => ?_)
      · have h := h.1 hc
        refine g_aload_n d_T_append_26 0 rfl rfl ?_
        refine g_getV (x := .ref (v.2.2 2)) d_T_append_27 fl_T_9 (by decide) rfl rfl rfl ?_
        refine g_aload_n d_T_append_30 0 rfl rfl ?_
        refine g_getV (x := .int (σ.1 1 2)) d_T_append_31 fl_T_19 (by decide) rfl rfl rfl ?_
        refine g_iload_n d_T_append_34 1 rfl rfl ?_
        refine g_i2c d_T_append_35 ?_
        have hi1 := h.1
        have h := h.2
        refine g_cast d_T_append_36 (by decide) rfl hi1 ?_
        refine g_aload_n d_T_append_37 0 rfl rfl ?_
        refine g_dup d_T_append_38 rfl ?_
        refine g_getV (x := .int (σ.1 1 2)) d_T_append_39 fl_T_19 (by decide) rfl rfl rfl ?_
        refine g_iconst d_T_append_42 (x := 1) (by decide) ?_
        refine g_iadd d_T_append_43 ?_
        refine g_putI d_T_append_44 fp_T_19 (by decide) rfl rfl ⟨rfl, rfl⟩ ?_
        refine g_aload_n d_T_append_47 0 rfl rfl ?_
        refine g_getV (x := .int ((σ.1 1 2) + 1)) d_T_append_48 fl_T_19 (by decide) rfl rfl rfl ?_
        exact g_iret d_T_append_51 rfl h
      · have h := h.2 hc
        refine g_bipush d_T_append_23 (x := (-2)) (by decide) ?_
        exact g_iret d_T_append_25 rfl h
    · have h := h.2 hc
      exact g_sub [] rfl h
set_option maxRecDepth 20000 in
set_option maxHeartbeats 1000000 in
theorem T_T_append_12 {l : Launch} {v : gs_V} {n : Nat} {post : Int32 → gs_S → Prop} {σ : gs_S} (h : post ((-1)) σ) : G_T_append_12 l v n post σ := by
  refine g_iconst d_T_append_12 (x := (-1)) (by decide) ?_
  exact g_iret d_T_append_13 rfl h
theorem E_T_append {l : Launch} {v : gs_V} {n : Nat} {post : Int32 → gs_S → Prop} {σ : gs_S} {x1 : Int32} (h : G_T_append_0 l v n post σ x1) : gM l v lyC 42 me_T_append (n + 1) [.ref (v.2.2 1), .int x1] σ (qI v lyC 42 post) := gM_of (by decide +kernel) (Nat.le_of_ble_eq_true rfl) h
/-! LineRules$Text.fault -/
theorem d_T_fault_0 : decode me_T_fault.2.1 0 = .ok (.iconst 0, 1) := by decide +kernel
theorem d_T_fault_1 : decode me_T_fault.2.1 1 = .ok (.istore_n 1, 1) := by decide +kernel
theorem d_T_fault_2 : decode me_T_fault.2.1 2 = .ok (.iload_n 1, 1) := by decide +kernel
theorem d_T_fault_3 : decode me_T_fault.2.1 3 = .ok (.iconst 3, 1) := by decide +kernel
theorem d_T_fault_4 : decode me_T_fault.2.1 4 = .ok (.if_icmp .ge 33, 3) := by decide +kernel
theorem d_T_fault_7 : decode me_T_fault.2.1 7 = .ok (.iload_n 1, 1) := by decide +kernel
theorem d_T_fault_8 : decode me_T_fault.2.1 8 = .ok (.aload_n 0, 1) := by decide +kernel
theorem d_T_fault_9 : decode me_T_fault.2.1 9 = .ok (.getfield 19, 3) := by decide +kernel
theorem d_T_fault_12 : decode me_T_fault.2.1 12 = .ok (.if_icmp .ge 17, 3) := by decide +kernel
theorem d_T_fault_15 : decode me_T_fault.2.1 15 = .ok (.aload_n 0, 1) := by decide +kernel
theorem d_T_fault_16 : decode me_T_fault.2.1 16 = .ok (.iload_n 1, 1) := by decide +kernel
theorem d_T_fault_17 : decode me_T_fault.2.1 17 = .ok (.aload_n 0, 1) := by decide +kernel
theorem d_T_fault_18 : decode me_T_fault.2.1 18 = .ok (.getfield 9, 3) := by decide +kernel
theorem d_T_fault_21 : decode me_T_fault.2.1 21 = .ok (.iload_n 1, 1) := by decide +kernel
theorem d_T_fault_22 : decode me_T_fault.2.1 22 = .ok (.caload, 1) := by decide +kernel
theorem d_T_fault_23 : decode me_T_fault.2.1 23 = .ok (.invokevirtual 51, 3) := by decide +kernel
theorem d_T_fault_26 : decode me_T_fault.2.1 26 = .ok (.ifCond .ne 5, 3) := by decide +kernel
theorem d_T_fault_29 : decode me_T_fault.2.1 29 = .ok (.iload_n 1, 1) := by decide +kernel
theorem d_T_fault_30 : decode me_T_fault.2.1 30 = .ok (.ireturn, 1) := by decide +kernel
theorem d_T_fault_31 : decode me_T_fault.2.1 31 = .ok (.iinc 1 1, 3) := by decide +kernel
theorem d_T_fault_34 : decode me_T_fault.2.1 34 = .ok (.goto (-32), 3) := by decide +kernel
theorem d_T_fault_37 : decode me_T_fault.2.1 37 = .ok (.aload_n 0, 1) := by decide +kernel
theorem d_T_fault_38 : decode me_T_fault.2.1 38 = .ok (.aload_n 0, 1) := by decide +kernel
theorem d_T_fault_39 : decode me_T_fault.2.1 39 = .ok (.getfield 9, 3) := by decide +kernel
theorem d_T_fault_42 : decode me_T_fault.2.1 42 = .ok (.iconst 0, 1) := by decide +kernel
theorem d_T_fault_43 : decode me_T_fault.2.1 43 = .ok (.caload, 1) := by decide +kernel
theorem d_T_fault_44 : decode me_T_fault.2.1 44 = .ok (.bipush 48, 2) := by decide +kernel
theorem d_T_fault_46 : decode me_T_fault.2.1 46 = .ok (.isub, 1) := by decide +kernel
theorem d_T_fault_47 : decode me_T_fault.2.1 47 = .ok (.putfield 23, 3) := by decide +kernel
theorem d_T_fault_50 : decode me_T_fault.2.1 50 = .ok (.aload_n 0, 1) := by decide +kernel
theorem d_T_fault_51 : decode me_T_fault.2.1 51 = .ok (.aload_n 0, 1) := by decide +kernel
theorem d_T_fault_52 : decode me_T_fault.2.1 52 = .ok (.getfield 9, 3) := by decide +kernel
theorem d_T_fault_55 : decode me_T_fault.2.1 55 = .ok (.iconst 1, 1) := by decide +kernel
theorem d_T_fault_56 : decode me_T_fault.2.1 56 = .ok (.caload, 1) := by decide +kernel
theorem d_T_fault_57 : decode me_T_fault.2.1 57 = .ok (.bipush 48, 2) := by decide +kernel
theorem d_T_fault_59 : decode me_T_fault.2.1 59 = .ok (.isub, 1) := by decide +kernel
theorem d_T_fault_60 : decode me_T_fault.2.1 60 = .ok (.putfield 26, 3) := by decide +kernel
theorem d_T_fault_63 : decode me_T_fault.2.1 63 = .ok (.aload_n 0, 1) := by decide +kernel
theorem d_T_fault_64 : decode me_T_fault.2.1 64 = .ok (.aload_n 0, 1) := by decide +kernel
theorem d_T_fault_65 : decode me_T_fault.2.1 65 = .ok (.getfield 9, 3) := by decide +kernel
theorem d_T_fault_68 : decode me_T_fault.2.1 68 = .ok (.iconst 2, 1) := by decide +kernel
theorem d_T_fault_69 : decode me_T_fault.2.1 69 = .ok (.caload, 1) := by decide +kernel
theorem d_T_fault_70 : decode me_T_fault.2.1 70 = .ok (.putfield 29, 3) := by decide +kernel
theorem d_T_fault_73 : decode me_T_fault.2.1 73 = .ok (.aload_n 0, 1) := by decide +kernel
theorem d_T_fault_74 : decode me_T_fault.2.1 74 = .ok (.getfield 29, 3) := by decide +kernel
theorem d_T_fault_77 : decode me_T_fault.2.1 77 = .ok (.lookupswitch 61 #[(83, 43), (84, 27)], 27) := by decide +kernel
theorem d_T_fault_104 : decode me_T_fault.2.1 104 = .ok (.aload_n 0, 1) := by decide +kernel
theorem d_T_fault_105 : decode me_T_fault.2.1 105 = .ok (.aload_n 0, 1) := by decide +kernel
theorem d_T_fault_106 : decode me_T_fault.2.1 106 = .ok (.getfield 23, 3) := by decide +kernel
theorem d_T_fault_109 : decode me_T_fault.2.1 109 = .ok (.aload_n 0, 1) := by decide +kernel
theorem d_T_fault_110 : decode me_T_fault.2.1 110 = .ok (.getfield 26, 3) := by decide +kernel
theorem d_T_fault_113 : decode me_T_fault.2.1 113 = .ok (.invokestatic 55, 3) := by decide +kernel
theorem d_T_fault_116 : decode me_T_fault.2.1 116 = .ok (.invokevirtual 59, 3) := by decide +kernel
theorem d_T_fault_119 : decode me_T_fault.2.1 119 = .ok (.ireturn, 1) := by decide +kernel
theorem d_T_fault_120 : decode me_T_fault.2.1 120 = .ok (.aload_n 0, 1) := by decide +kernel
theorem d_T_fault_121 : decode me_T_fault.2.1 121 = .ok (.aload_n 0, 1) := by decide +kernel
theorem d_T_fault_122 : decode me_T_fault.2.1 122 = .ok (.getfield 26, 3) := by decide +kernel
theorem d_T_fault_125 : decode me_T_fault.2.1 125 = .ok (.aload_n 0, 1) := by decide +kernel
theorem d_T_fault_126 : decode me_T_fault.2.1 126 = .ok (.getfield 23, 3) := by decide +kernel
theorem d_T_fault_129 : decode me_T_fault.2.1 129 = .ok (.iconst 1, 1) := by decide +kernel
theorem d_T_fault_130 : decode me_T_fault.2.1 130 = .ok (.isub, 1) := by decide +kernel
theorem d_T_fault_131 : decode me_T_fault.2.1 131 = .ok (.imul, 1) := by decide +kernel
theorem d_T_fault_132 : decode me_T_fault.2.1 132 = .ok (.iconst 1, 1) := by decide +kernel
theorem d_T_fault_133 : decode me_T_fault.2.1 133 = .ok (.iadd, 1) := by decide +kernel
theorem d_T_fault_134 : decode me_T_fault.2.1 134 = .ok (.invokevirtual 59, 3) := by decide +kernel
theorem d_T_fault_137 : decode me_T_fault.2.1 137 = .ok (.ireturn, 1) := by decide +kernel
theorem d_T_fault_138 : decode me_T_fault.2.1 138 = .ok (.aload_n 0, 1) := by decide +kernel
theorem d_T_fault_139 : decode me_T_fault.2.1 139 = .ok (.iconst 0, 1) := by decide +kernel
theorem d_T_fault_140 : decode me_T_fault.2.1 140 = .ok (.invokevirtual 63, 3) := by decide +kernel
theorem d_T_fault_143 : decode me_T_fault.2.1 143 = .ok (.pop, 1) := by decide +kernel
theorem d_T_fault_144 : decode me_T_fault.2.1 144 = .ok (.aload_n 0, 1) := by decide +kernel
theorem d_T_fault_145 : decode me_T_fault.2.1 145 = .ok (.getfield 39, 3) := by decide +kernel
theorem d_T_fault_148 : decode me_T_fault.2.1 148 = .ok (.ifCond .ne 14, 3) := by decide +kernel
theorem d_T_fault_151 : decode me_T_fault.2.1 151 = .ok (.aload_n 0, 1) := by decide +kernel
theorem d_T_fault_152 : decode me_T_fault.2.1 152 = .ok (.getfield 33, 3) := by decide +kernel
theorem d_T_fault_155 : decode me_T_fault.2.1 155 = .ok (.aload_n 0, 1) := by decide +kernel
theorem d_T_fault_156 : decode me_T_fault.2.1 156 = .ok (.getfield 19, 3) := by decide +kernel
theorem d_T_fault_159 : decode me_T_fault.2.1 159 = .ok (.if_icmp .ge 10, 3) := by decide +kernel
theorem d_T_fault_162 : decode me_T_fault.2.1 162 = .ok (.aload_n 0, 1) := by decide +kernel
theorem d_T_fault_163 : decode me_T_fault.2.1 163 = .ok (.getfield 33, 3) := by decide +kernel
theorem d_T_fault_166 : decode me_T_fault.2.1 166 = .ok (.goto 4, 3) := by decide +kernel
theorem d_T_fault_169 : decode me_T_fault.2.1 169 = .ok (.iconst (-1), 1) := by decide +kernel
theorem d_T_fault_170 : decode me_T_fault.2.1 170 = .ok (.ireturn, 1) := by decide +kernel
abbrev G_T_fault_0 (l : Launch) (v : gs_V) (n : Nat) (post : Int32 → gs_S → Prop) (σ : gs_S) : Prop := gG l v lyC 42 me_T_fault n (qI v lyC 42 post) 0 [(0, .ref (v.2.2 1))] [] σ
abbrev G_T_fault_2 (l : Launch) (v : gs_V) (n : Nat) (post : Int32 → gs_S → Prop) (σ : gs_S) (x1 : Int32) : Prop := gG l v lyC 42 me_T_fault n (qI v lyC 42 post) 2 [(0, .ref (v.2.2 1)), (1, .int x1)] [] σ
abbrev G_T_fault_29 (l : Launch) (v : gs_V) (n : Nat) (post : Int32 → gs_S → Prop) (σ : gs_S) (x1 : Int32) : Prop := gG l v lyC 42 me_T_fault n (qI v lyC 42 post) 29 [(1, .int x1)] [] σ
abbrev G_T_fault_162 (l : Launch) (v : gs_V) (n : Nat) (post : Int32 → gs_S → Prop) (σ : gs_S) : Prop := gG l v lyC 42 me_T_fault n (qI v lyC 42 post) 162 [(0, .ref (v.2.2 1))] [] σ
abbrev G_T_fault_170 (l : Launch) (v : gs_V) (n : Nat) (post : Int32 → gs_S → Prop) (σ : gs_S) (s0 : Int32) : Prop := gG l v lyC 42 me_T_fault n (qI v lyC 42 post) 170 [] [.int s0] σ
set_option maxRecDepth 20000 in
set_option maxHeartbeats 1000000 in
theorem T_T_fault_0 {l : Launch} {v : gs_V} {n : Nat} {post : Int32 → gs_S → Prop} {σ : gs_S} (h : G_T_fault_2 l v n post σ 0) : G_T_fault_0 l v n post σ := by
  refine g_iconst d_T_fault_0 (x := 0) (by decide) ?_
  refine g_istore_n (L' := [(1, .int 0), (0, .ref (v.2.2 1))]) d_T_fault_1 rfl (by decide) rfl ?_
  exact g_sub [1, 0] rfl h
set_option maxRecDepth 20000 in
set_option maxHeartbeats 1000000 in
theorem T_T_fault_2 {l : Launch} {v : gs_V} {n : Nat} {post : Int32 → gs_S → Prop} {σ : gs_S} {x1 : Int32} (h : ((3 ≤ x1 → (narrow .char (.int (σ.1 2 2)) = .int (σ.1 2 2) ∧ fits .char (.int (σ.1 2 2)) = true) ∧ (((σ.1 2 2) = 83 → gM l v lyC 42 me_T_digitsFault n [.ref (v.2.2 1), .int ((((σ.1 2 1) - 48) * (((σ.1 2 0) - 48) - 1)) + 1)] (gs_pI (gs_pI (gs_pI σ 1 3 ((σ.1 2 0) - 48)) 1 4 ((σ.1 2 1) - 48)) 1 5 (σ.1 2 2)) (qI v lyC 42 (fun r1 σ1 => post r1 σ1))) ∧ ((σ.1 2 2) = 84 → gM l v lyC 42 me_A_power n [.int ((σ.1 2 0) - 48), .int ((σ.1 2 1) - 48)] (gs_pI (gs_pI (gs_pI σ 1 3 ((σ.1 2 0) - 48)) 1 4 ((σ.1 2 1) - 48)) 1 5 (σ.1 2 2)) (qI v lyC 42 (fun r2 σ2 => gM l v lyC 42 me_T_digitsFault n [.ref (v.2.2 1), .int r2] σ2 (qI v lyC 42 (fun r3 σ3 => post r3 σ3))))) ∧ (¬ (σ.1 2 2) = 83 → ¬ (σ.1 2 2) = 84 → gM l v lyC 42 me_T_valueFor n [.ref (v.2.2 1), .int 0] (gs_pI (gs_pI (gs_pI σ 1 3 ((σ.1 2 0) - 48)) 1 4 ((σ.1 2 1) - 48)) 1 5 (σ.1 2 2)) (qI v lyC 42 (fun r4 σ4 => ((¬ (σ4.1 1 8) = 0 → G_T_fault_162 l v n post σ4) ∧ ((σ4.1 1 8) = 0 → (((σ4.1 1 2) ≤ (σ4.1 1 6) → G_T_fault_170 l v n post σ4 ((-1))) ∧ (¬ (σ4.1 1 2) ≤ (σ4.1 1 6) → G_T_fault_162 l v n post σ4))))))))) ∧ (¬ 3 ≤ x1 → (((σ.1 1 2) ≤ x1 → G_T_fault_29 l v n post σ x1) ∧ (¬ (σ.1 1 2) ≤ x1 → vp_in x1 64 ∧ gM l v lyC 42 me_T_fitsHead n [.ref (v.2.2 1), .int x1, .int (σ.1 2 x1.toNatClampNeg)] σ (qI v lyC 42 (fun r6 σ6 => ((¬ r6 = 0 → G_T_fault_2 l v n post σ6 (x1 + 1)) ∧ (r6 = 0 → G_T_fault_29 l v n post σ6 x1))))))))) : G_T_fault_2 l v n post σ x1 := by
  refine g_iload_n d_T_fault_2 1 rfl rfl ?_
  refine g_iconst d_T_fault_3 (x := 3) (by decide) ?_
  refine g_icmp_ge (tgt := 37) d_T_fault_4 rfl (fun hc => ?_) (fun hc => ?_)
  · have h := h.1 hc
    refine g_aload_n d_T_fault_37 0 rfl rfl ?_
    refine g_aload_n d_T_fault_38 0 rfl rfl ?_
    refine g_getV (x := .ref (v.2.2 2)) d_T_fault_39 fl_T_9 (by decide) rfl rfl rfl ?_
    refine g_iconst d_T_fault_42 (x := 0) (by decide) ?_
    refine g_cald (x := σ.1 2 0) d_T_fault_43 (by decide) rfl (g_lit (k := 0) (by decide) (by decide)) rfl ?_
    refine g_bipush d_T_fault_44 (x := 48) (by decide) ?_
    refine g_isub d_T_fault_46 ?_
    refine g_putI d_T_fault_47 fp_T_23 (by decide) rfl rfl ⟨rfl, rfl⟩ ?_
    refine g_aload_n d_T_fault_50 0 rfl rfl ?_
    refine g_aload_n d_T_fault_51 0 rfl rfl ?_
    refine g_getV (x := .ref (v.2.2 2)) d_T_fault_52 fl_T_9 (by decide) rfl rfl rfl ?_
    refine g_iconst d_T_fault_55 (x := 1) (by decide) ?_
    refine g_cald (x := σ.1 2 1) d_T_fault_56 (by decide) rfl (g_lit (k := 1) (by decide) (by decide)) rfl ?_
    refine g_bipush d_T_fault_57 (x := 48) (by decide) ?_
    refine g_isub d_T_fault_59 ?_
    refine g_putI d_T_fault_60 fp_T_26 (by decide) rfl rfl ⟨rfl, rfl⟩ ?_
    refine g_aload_n d_T_fault_63 0 rfl rfl ?_
    refine g_aload_n d_T_fault_64 0 rfl rfl ?_
    refine g_getV (x := .ref (v.2.2 2)) d_T_fault_65 fl_T_9 (by decide) rfl rfl rfl ?_
    refine g_iconst d_T_fault_68 (x := 2) (by decide) ?_
    refine g_cald (x := σ.1 2 2) d_T_fault_69 (by decide) rfl (g_lit (k := 2) (by decide) (by decide)) rfl ?_
    have hnf := h.1
    have h := h.2
    refine g_putI d_T_fault_70 fp_T_29 (by decide) rfl rfl hnf ?_
    refine g_aload_n d_T_fault_73 0 rfl rfl ?_
    refine g_getV (x := .int (σ.1 2 2)) d_T_fault_74 fl_T_29 (by decide) rfl rfl rfl ?_
    by_cases hk0 : (σ.1 2 2) = 83
    · refine g_lookup (tgt := 120) d_T_fault_77 (by decide +kernel) (by rw [hk0] <;> decide +kernel) rfl ?_
      have h := h.1 hk0
      refine g_aload_n d_T_fault_120 0 rfl rfl ?_
      refine g_aload_n d_T_fault_121 0 rfl rfl ?_
      refine g_getV (x := .int ((σ.1 2 1) - 48)) d_T_fault_122 fl_T_26 (by decide) rfl rfl rfl ?_
      refine g_aload_n d_T_fault_125 0 rfl rfl ?_
      refine g_getV (x := .int ((σ.1 2 0) - 48)) d_T_fault_126 fl_T_23 (by decide) rfl rfl rfl ?_
      refine g_iconst d_T_fault_129 (x := 1) (by decide) ?_
      refine g_isub d_T_fault_130 ?_
      refine g_imul d_T_fault_131 ?_
      refine g_iconst d_T_fault_132 (x := 1) (by decide) ?_
      refine g_iadd d_T_fault_133 ?_
      refine g_callVi (av := [.int ((((σ.1 2 1) - 48) * (((σ.1 2 0) - 48) - 1)) + 1)]) (rest := []) d_T_fault_134 Y_T_digitsFault lk_T_59 (by decide) rfl rfl I_T_digitsFault rfl (Nat.le_of_ble_eq_true rfl) rfl h (fun r1 σ1 h => ?_)
      exact g_iret d_T_fault_137 rfl h
    have h := h.2
    by_cases hk1 : (σ.1 2 2) = 84
    · refine g_lookup (tgt := 104) d_T_fault_77 (by decide +kernel) (by rw [hk1] <;> decide +kernel) rfl ?_
      have h := h.1 hk1
      refine g_aload_n d_T_fault_104 0 rfl rfl ?_
      refine g_aload_n d_T_fault_105 0 rfl rfl ?_
      refine g_getV (x := .int ((σ.1 2 0) - 48)) d_T_fault_106 fl_T_23 (by decide) rfl rfl rfl ?_
      refine g_aload_n d_T_fault_109 0 rfl rfl ?_
      refine g_getV (x := .int ((σ.1 2 1) - 48)) d_T_fault_110 fl_T_26 (by decide) rfl rfl rfl ?_
      refine g_callSNi (av := [.int ((σ.1 2 0) - 48), .int ((σ.1 2 1) - 48)]) (rest := [.ref (v.2.2 1)]) d_T_fault_113 Y_A_power lk_T_55 I_A_power rfl (Nat.le_of_ble_eq_true rfl) rfl h (fun r2 σ2 h => ?_)
      refine g_callVi (av := [.int r2]) (rest := []) d_T_fault_116 Y_T_digitsFault lk_T_59 (by decide) rfl rfl I_T_digitsFault rfl (Nat.le_of_ble_eq_true rfl) rfl h (fun r3 σ3 h => ?_)
      exact g_iret d_T_fault_119 rfl h
    have h := h.2
    refine g_lookup (tgt := 138) d_T_fault_77 (by decide +kernel) (by show Op.lookupswitch.offset [(83, 43), (84, 27)] _ _ = _; rw [lv_osw hk0 (by decide +kernel), lv_osw hk1 (by decide +kernel)] <;> rfl) rfl ?_
    have h := h hk0 hk1
    refine g_aload_n d_T_fault_138 0 rfl rfl ?_
    refine g_iconst d_T_fault_139 (x := 0) (by decide) ?_
    refine g_callVi (av := [.int 0]) (rest := []) d_T_fault_140 Y_T_valueFor lk_T_63 (by decide) rfl rfl I_T_valueFor rfl (Nat.le_of_ble_eq_true rfl) rfl h (fun r4 σ4 h => ?_)
    refine g_pop d_T_fault_143 rfl ?_
    refine g_aload_n d_T_fault_144 0 rfl rfl ?_
    refine g_getV (x := .int (σ4.1 1 8)) d_T_fault_145 fl_T_39 (by decide) rfl rfl rfl ?_
    refine g_if_ne (tgt := 162) d_T_fault_148 rfl (fun hc => ?_) (fun hc => ?_)
    · have h := h.1 hc
      exact g_sub [0] rfl h
    · have h := h.2 hc
      refine g_aload_n d_T_fault_151 0 rfl rfl ?_
      refine g_getV (x := .int (σ4.1 1 6)) d_T_fault_152 fl_T_33 (by decide) rfl rfl rfl ?_
      refine g_aload_n d_T_fault_155 0 rfl rfl ?_
      refine g_getV (x := .int (σ4.1 1 2)) d_T_fault_156 fl_T_19 (by decide) rfl rfl rfl ?_
      refine g_icmp_ge (tgt := 169) d_T_fault_159 rfl (fun hc => ?_) (fun hc => ?_)
      · have h := h.1 hc
        refine g_iconst d_T_fault_169 (x := (-1)) (by decide) ?_
        exact g_sub [] rfl h
      · have h := h.2 hc
        exact g_sub [0] rfl h
  · have h := h.2 hc
    refine g_iload_n d_T_fault_7 1 rfl rfl ?_
    refine g_aload_n d_T_fault_8 0 rfl rfl ?_
    refine g_getV (x := .int (σ.1 1 2)) d_T_fault_9 fl_T_19 (by decide) rfl rfl rfl ?_
    refine g_icmp_ge (tgt := 29) d_T_fault_12 rfl (fun hc => ?_) (fun hc => ?_)
    · have h := h.1 hc
      exact g_sub [1] rfl h
    · have h := h.2 hc
      refine g_aload_n d_T_fault_15 0 rfl rfl ?_
      refine g_iload_n d_T_fault_16 1 rfl rfl ?_
      refine g_aload_n d_T_fault_17 0 rfl rfl ?_
      refine g_getV (x := .ref (v.2.2 2)) d_T_fault_18 fl_T_9 (by decide) rfl rfl rfl ?_
      refine g_iload_n d_T_fault_21 1 rfl rfl ?_
      have hi5 := h.1
      have h := h.2
      refine g_cald (x := σ.1 2 x1.toNatClampNeg) d_T_fault_22 (by decide) rfl hi5 rfl ?_
      refine g_callVi (av := [.int x1, .int (σ.1 2 x1.toNatClampNeg)]) (rest := []) d_T_fault_23 Y_T_fitsHead lk_T_51 (by decide) rfl rfl I_T_fitsHead rfl (Nat.le_of_ble_eq_true rfl) rfl h (fun r6 σ6 h => ?_)
      refine g_if_ne (tgt := 31) d_T_fault_26 rfl (fun hc => ?_) (fun hc => ?_)
      · have h := h.1 hc
        refine g_iinc (L' := [(1, .int (x1 + 1)), (0, .ref (v.2.2 1))]) d_T_fault_31 1 rfl (by rfl) (by decide) rfl ?_
        refine g_goto (tgt := 2) d_T_fault_34 rfl ?_
        exact g_sub [1, 0] rfl h
      · have h := h.2 hc
        exact g_sub [1] rfl h
set_option maxRecDepth 20000 in
set_option maxHeartbeats 1000000 in
theorem T_T_fault_29 {l : Launch} {v : gs_V} {n : Nat} {post : Int32 → gs_S → Prop} {σ : gs_S} {x1 : Int32} (h : post x1 σ) : G_T_fault_29 l v n post σ x1 := by
  refine g_iload_n d_T_fault_29 0 rfl rfl ?_
  exact g_iret d_T_fault_30 rfl h
set_option maxRecDepth 20000 in
set_option maxHeartbeats 1000000 in
theorem T_T_fault_162 {l : Launch} {v : gs_V} {n : Nat} {post : Int32 → gs_S → Prop} {σ : gs_S} (h : G_T_fault_170 l v n post σ (σ.1 1 6)) : G_T_fault_162 l v n post σ := by
  refine g_aload_n d_T_fault_162 0 rfl rfl ?_
  refine g_getV (x := .int (σ.1 1 6)) d_T_fault_163 fl_T_33 (by decide) rfl rfl rfl ?_
  refine g_goto (tgt := 170) d_T_fault_166 rfl ?_
  exact g_sub [] rfl h
set_option maxRecDepth 20000 in
set_option maxHeartbeats 1000000 in
theorem T_T_fault_170 {l : Launch} {v : gs_V} {n : Nat} {post : Int32 → gs_S → Prop} {σ : gs_S} {s0 : Int32} (h : post s0 σ) : G_T_fault_170 l v n post σ s0 := by
  exact g_iret d_T_fault_170 rfl h
theorem E_T_fault {l : Launch} {v : gs_V} {n : Nat} {post : Int32 → gs_S → Prop} {σ : gs_S} (h : G_T_fault_0 l v n post σ) : gM l v lyC 42 me_T_fault (n + 1) [.ref (v.2.2 1)] σ (qI v lyC 42 post) := gM_of (by decide +kernel) (Nat.le_of_ble_eq_true rfl) h
/-! LineRules$Text.readInto -/
theorem d_T_readInto_0 : decode me_T_readInto.2.1 0 = .ok (.aload_n 0, 1) := by decide +kernel
theorem d_T_readInto_1 : decode me_T_readInto.2.1 1 = .ok (.invokevirtual 43, 3) := by decide +kernel
theorem d_T_readInto_4 : decode me_T_readInto.2.1 4 = .ok (.istore_n 2, 1) := by decide +kernel
theorem d_T_readInto_5 : decode me_T_readInto.2.1 5 = .ok (.iload_n 2, 1) := by decide +kernel
theorem d_T_readInto_6 : decode me_T_readInto.2.1 6 = .ok (.iconst (-1), 1) := by decide +kernel
theorem d_T_readInto_7 : decode me_T_readInto.2.1 7 = .ok (.if_icmp .ne 8, 3) := by decide +kernel
theorem d_T_readInto_10 : decode me_T_readInto.2.1 10 = .ok (.aload_n 0, 1) := by decide +kernel
theorem d_T_readInto_11 : decode me_T_readInto.2.1 11 = .ok (.aload_n 1, 1) := by decide +kernel
theorem d_T_readInto_12 : decode me_T_readInto.2.1 12 = .ok (.invokevirtual 47, 3) := by decide +kernel
theorem d_T_readInto_15 : decode me_T_readInto.2.1 15 = .ok (.aload_n 0, 1) := by decide +kernel
theorem d_T_readInto_16 : decode me_T_readInto.2.1 16 = .ok (.iconst 0, 1) := by decide +kernel
theorem d_T_readInto_17 : decode me_T_readInto.2.1 17 = .ok (.putfield 19, 3) := by decide +kernel
theorem d_T_readInto_20 : decode me_T_readInto.2.1 20 = .ok (.iload_n 2, 1) := by decide +kernel
theorem d_T_readInto_21 : decode me_T_readInto.2.1 21 = .ok (.ireturn, 1) := by decide +kernel
abbrev G_T_readInto_0 (l : Launch) (v : gs_V) (n : Nat) (post : Int32 → gs_S → Prop) (σ : gs_S) : Prop := gG l v lyC 42 me_T_readInto n (qI v lyC 42 post) 0 [(0, .ref (v.2.2 1)), (1, .ref (v.2.2 4))] [] σ
abbrev G_T_readInto_15 (l : Launch) (v : gs_V) (n : Nat) (post : Int32 → gs_S → Prop) (σ : gs_S) (x2 : Int32) : Prop := gG l v lyC 42 me_T_readInto n (qI v lyC 42 post) 15 [(0, .ref (v.2.2 1)), (2, .int x2)] [] σ
set_option maxRecDepth 20000 in
set_option maxHeartbeats 1000000 in
theorem T_T_readInto_0 {l : Launch} {v : gs_V} {n : Nat} {post : Int32 → gs_S → Prop} {σ : gs_S} (h : gM l v lyC 42 me_T_fault n [.ref (v.2.2 1)] σ (qI v lyC 42 (fun r1 σ1 => ((¬ r1 = ((-1)) → G_T_readInto_15 l v n post σ1 r1) ∧ (r1 = ((-1)) → gM l v lyC 42 me_T_fill n [.ref (v.2.2 1), .ref (v.2.2 4)] σ1 (qV v lyC 42 (fun σ2 => G_T_readInto_15 l v n post σ2 r1))))))) : G_T_readInto_0 l v n post σ := by
  refine g_aload_n d_T_readInto_0 0 rfl rfl ?_
  refine g_callVi (av := []) (rest := []) d_T_readInto_1 Y_T_fault lk_T_43 (by decide) rfl rfl I_T_fault rfl (Nat.le_of_ble_eq_true rfl) rfl h (fun r1 σ1 h => ?_)
  refine g_istore_n (L' := [(2, .int r1), (0, .ref (v.2.2 1)), (1, .ref (v.2.2 4))]) d_T_readInto_4 rfl (by decide) rfl ?_
  refine g_iload_n d_T_readInto_5 0 rfl rfl ?_
  refine g_iconst d_T_readInto_6 (x := (-1)) (by decide) ?_
  refine g_icmp_ne (tgt := 15) d_T_readInto_7 rfl (fun hc => ?_) (fun hc => ?_)
  · have h := h.1 hc
    exact g_sub [1, 0] rfl h
  · have h := h.2 hc
    refine g_aload_n d_T_readInto_10 1 rfl rfl ?_
    refine g_aload_n d_T_readInto_11 2 rfl rfl ?_
    refine g_callVv (av := [.ref (v.2.2 4)]) (rest := []) d_T_readInto_12 Y_T_fill lk_T_47 (by decide) rfl rfl I_T_fill rfl (Nat.le_of_ble_eq_true rfl) rfl h (fun σ2 h => ?_)
    exact g_sub [1, 0] rfl h
set_option maxRecDepth 20000 in
set_option maxHeartbeats 1000000 in
theorem T_T_readInto_15 {l : Launch} {v : gs_V} {n : Nat} {post : Int32 → gs_S → Prop} {σ : gs_S} {x2 : Int32} (h : post x2 (gs_pI σ 1 2 0)) : G_T_readInto_15 l v n post σ x2 := by
  refine g_aload_n d_T_readInto_15 0 rfl rfl ?_
  refine g_iconst d_T_readInto_16 (x := 0) (by decide) ?_
  refine g_putI d_T_readInto_17 fp_T_19 (by decide) rfl rfl ⟨rfl, rfl⟩ ?_
  refine g_iload_n d_T_readInto_20 1 rfl rfl ?_
  exact g_iret d_T_readInto_21 rfl h
theorem E_T_readInto {l : Launch} {v : gs_V} {n : Nat} {post : Int32 → gs_S → Prop} {σ : gs_S} (h : G_T_readInto_0 l v n post σ) : gM l v lyC 42 me_T_readInto (n + 1) [.ref (v.2.2 1), .ref (v.2.2 4)] σ (qI v lyC 42 post) := gM_of (by decide +kernel) (Nat.le_of_ble_eq_true rfl) h
end
section
/-! LineRules$Past.forget -/
theorem d_H_forget_0 : decode me_H_forget.2.1 0 = .ok (.aload_n 0, 1) := by decide +kernel
theorem d_H_forget_1 : decode me_H_forget.2.1 1 = .ok (.iconst 0, 1) := by decide +kernel
theorem d_H_forget_2 : decode me_H_forget.2.1 2 = .ok (.putfield 25, 3) := by decide +kernel
theorem d_H_forget_5 : decode me_H_forget.2.1 5 = .ok (.aload_n 0, 1) := by decide +kernel
theorem d_H_forget_6 : decode me_H_forget.2.1 6 = .ok (.iconst 0, 1) := by decide +kernel
theorem d_H_forget_7 : decode me_H_forget.2.1 7 = .ok (.putfield 32, 3) := by decide +kernel
theorem d_H_forget_10 : decode me_H_forget.2.1 10 = .ok (.return_, 1) := by decide +kernel
abbrev G_H_forget_0 (l : Launch) (v : gs_V) (n : Nat) (post : gs_S → Prop) (σ : gs_S) : Prop := gG l v lyC 42 me_H_forget n (qV v lyC 42 post) 0 [(0, .ref (v.2.2 37))] [] σ
set_option maxRecDepth 20000 in
set_option maxHeartbeats 1000000 in
theorem T_H_forget_0 {l : Launch} {v : gs_V} {n : Nat} {post : gs_S → Prop} {σ : gs_S} (h : post (gs_pI (gs_pI σ 37 6 0) 37 8 0)) : G_H_forget_0 l v n post σ := by
  refine g_aload_n d_H_forget_0 0 rfl rfl ?_
  refine g_iconst d_H_forget_1 (x := 0) (by decide) ?_
  refine g_putI d_H_forget_2 fp_H_25 (by decide) rfl rfl ⟨rfl, rfl⟩ ?_
  refine g_aload_n d_H_forget_5 0 rfl rfl ?_
  refine g_iconst d_H_forget_6 (x := 0) (by decide) ?_
  refine g_putI d_H_forget_7 fp_H_32 (by decide) rfl rfl ⟨rfl, rfl⟩ ?_
  exact g_vret d_H_forget_10 rfl h
theorem E_H_forget {l : Launch} {v : gs_V} {n : Nat} {post : gs_S → Prop} {σ : gs_S} (h : G_H_forget_0 l v n post σ) : gM l v lyC 42 me_H_forget (n + 1) [.ref (v.2.2 37)] σ (qV v lyC 42 post) := gM_of (by decide +kernel) (Nat.le_of_ble_eq_true rfl) h
end
section
/-! LineRules.before -/
theorem d_A_before_0 : decode me_A_before.2.1 0 = .ok (.aload_n 0, 1) := by decide +kernel
theorem d_A_before_1 : decode me_A_before.2.1 1 = .ok (.getfield 19, 3) := by decide +kernel
theorem d_A_before_4 : decode me_A_before.2.1 4 = .ok (.getfield 93, 3) := by decide +kernel
theorem d_A_before_7 : decode me_A_before.2.1 7 = .ok (.ifCond .ne 5, 3) := by decide +kernel
theorem d_A_before_10 : decode me_A_before.2.1 10 = .ok (.iconst (-1), 1) := by decide +kernel
theorem d_A_before_11 : decode me_A_before.2.1 11 = .ok (.ireturn, 1) := by decide +kernel
theorem d_A_before_12 : decode me_A_before.2.1 12 = .ok (.aload_n 0, 1) := by decide +kernel
theorem d_A_before_13 : decode me_A_before.2.1 13 = .ok (.getfield 67, 3) := by decide +kernel
theorem d_A_before_16 : decode me_A_before.2.1 16 = .ok (.invokevirtual 156, 3) := by decide +kernel
theorem d_A_before_19 : decode me_A_before.2.1 19 = .ok (.ifCond .eq 7, 3) := by decide +kernel
theorem d_A_before_22 : decode me_A_before.2.1 22 = .ok (.iconst 1, 1) := by decide +kernel
theorem d_A_before_23 : decode me_A_before.2.1 23 = .ok (.goto 4, 3) := by decide +kernel
theorem d_A_before_26 : decode me_A_before.2.1 26 = .ok (.iconst 0, 1) := by decide +kernel
theorem d_A_before_27 : decode me_A_before.2.1 27 = .ok (.ireturn, 1) := by decide +kernel
abbrev G_A_before_0 (l : Launch) (v : gs_V) (n : Nat) (post : Int32 → gs_S → Prop) (σ : gs_S) : Prop := gG l v lyC 42 me_A_before n (qI v lyC 42 post) 0 [(0, .ref (v.2.2 0))] [] σ
abbrev G_A_before_27 (l : Launch) (v : gs_V) (n : Nat) (post : Int32 → gs_S → Prop) (σ : gs_S) (s0 : Int32) : Prop := gG l v lyC 42 me_A_before n (qI v lyC 42 post) 27 [] [.int s0] σ
set_option maxRecDepth 20000 in
set_option maxHeartbeats 1000000 in
theorem T_A_before_0 {l : Launch} {v : gs_V} {n : Nat} {post : Int32 → gs_S → Prop} {σ : gs_S} (h : ((¬ (σ.1 4 5) = 0 → gM l v lyC 42 me_H_exists n [.ref (v.2.2 37)] σ (qI v lyC 42 (fun r1 σ1 => ((r1 = 0 → G_A_before_27 l v n post σ1 0) ∧ (¬ r1 = 0 → G_A_before_27 l v n post σ1 1))))) ∧ ((σ.1 4 5) = 0 → post ((-1)) σ))) : G_A_before_0 l v n post σ := by
  refine g_aload_n d_A_before_0 0 rfl rfl ?_
  refine g_getV (x := .ref (v.2.2 4)) d_A_before_1 fl_A_19 (by decide) rfl rfl rfl ?_
  refine g_getV (x := .int (σ.1 4 5)) d_A_before_4 fl_A_93 (by decide) rfl rfl rfl ?_
  refine g_if_ne (tgt := 12) d_A_before_7 rfl (fun hc => ?_) (fun hc => ?_)
  · have h := h.1 hc
    refine g_aload_n d_A_before_12 0 rfl rfl ?_
    refine g_getV (x := .ref (v.2.2 37)) d_A_before_13 fl_A_67 (by decide) rfl rfl rfl ?_
    refine g_callVi (av := []) (rest := []) d_A_before_16 Y_H_exists lk_A_156 (by decide) rfl rfl I_H_exists rfl (Nat.le_of_ble_eq_true rfl) rfl h (fun r1 σ1 h => ?_)
    refine g_if_eq (tgt := 26) d_A_before_19 rfl (fun hc => ?_) (fun hc => ?_)
    · have h := h.1 hc
      refine g_iconst d_A_before_26 (x := 0) (by decide) ?_
      exact g_sub [] rfl h
    · have h := h.2 hc
      refine g_iconst d_A_before_22 (x := 1) (by decide) ?_
      refine g_goto (tgt := 27) d_A_before_23 rfl ?_
      exact g_sub [] rfl h
  · have h := h.2 hc
    refine g_iconst d_A_before_10 (x := (-1)) (by decide) ?_
    exact g_iret d_A_before_11 rfl h
set_option maxRecDepth 20000 in
set_option maxHeartbeats 1000000 in
theorem T_A_before_27 {l : Launch} {v : gs_V} {n : Nat} {post : Int32 → gs_S → Prop} {σ : gs_S} {s0 : Int32} (h : post s0 σ) : G_A_before_27 l v n post σ s0 := by
  exact g_iret d_A_before_27 rfl h
theorem E_A_before {l : Launch} {v : gs_V} {n : Nat} {post : Int32 → gs_S → Prop} {σ : gs_S} (h : G_A_before_0 l v n post σ) : gM l v lyC 42 me_A_before (n + 1) [.ref (v.2.2 0)] σ (qI v lyC 42 post) := gM_of (by decide +kernel) (Nat.le_of_ble_eq_true rfl) h
/-! LineRules.beforeAt -/
theorem d_A_beforeAt_0 : decode me_A_beforeAt.2.1 0 = .ok (.aload_n 0, 1) := by decide +kernel
theorem d_A_beforeAt_1 : decode me_A_beforeAt.2.1 1 = .ok (.getfield 19, 3) := by decide +kernel
theorem d_A_beforeAt_4 : decode me_A_beforeAt.2.1 4 = .ok (.getfield 93, 3) := by decide +kernel
theorem d_A_beforeAt_7 : decode me_A_beforeAt.2.1 7 = .ok (.ifCond .eq 14, 3) := by decide +kernel
theorem d_A_beforeAt_10 : decode me_A_beforeAt.2.1 10 = .ok (.aload_n 0, 1) := by decide +kernel
theorem d_A_beforeAt_11 : decode me_A_beforeAt.2.1 11 = .ok (.getfield 67, 3) := by decide +kernel
theorem d_A_beforeAt_14 : decode me_A_beforeAt.2.1 14 = .ok (.iload_n 1, 1) := by decide +kernel
theorem d_A_beforeAt_15 : decode me_A_beforeAt.2.1 15 = .ok (.invokevirtual 159, 3) := by decide +kernel
theorem d_A_beforeAt_18 : decode me_A_beforeAt.2.1 18 = .ok (.goto 4, 3) := by decide +kernel
theorem d_A_beforeAt_21 : decode me_A_beforeAt.2.1 21 = .ok (.iconst (-1), 1) := by decide +kernel
theorem d_A_beforeAt_22 : decode me_A_beforeAt.2.1 22 = .ok (.ireturn, 1) := by decide +kernel
abbrev G_A_beforeAt_0 (l : Launch) (v : gs_V) (n : Nat) (post : Int32 → gs_S → Prop) (σ : gs_S) (x1 : Int32) : Prop := gG l v lyC 42 me_A_beforeAt n (qI v lyC 42 post) 0 [(0, .ref (v.2.2 0)), (1, .int x1)] [] σ
abbrev G_A_beforeAt_22 (l : Launch) (v : gs_V) (n : Nat) (post : Int32 → gs_S → Prop) (σ : gs_S) (s0 : Int32) : Prop := gG l v lyC 42 me_A_beforeAt n (qI v lyC 42 post) 22 [] [.int s0] σ
set_option maxRecDepth 20000 in
set_option maxHeartbeats 1000000 in
theorem T_A_beforeAt_0 {l : Launch} {v : gs_V} {n : Nat} {post : Int32 → gs_S → Prop} {σ : gs_S} {x1 : Int32} (h : (((σ.1 4 5) = 0 → G_A_beforeAt_22 l v n post σ ((-1))) ∧ (¬ (σ.1 4 5) = 0 → gM l v lyC 42 me_H_cell n [.ref (v.2.2 37), .int x1] σ (qI v lyC 42 (fun r1 σ1 => G_A_beforeAt_22 l v n post σ1 r1))))) : G_A_beforeAt_0 l v n post σ x1 := by
  refine g_aload_n d_A_beforeAt_0 0 rfl rfl ?_
  refine g_getV (x := .ref (v.2.2 4)) d_A_beforeAt_1 fl_A_19 (by decide) rfl rfl rfl ?_
  refine g_getV (x := .int (σ.1 4 5)) d_A_beforeAt_4 fl_A_93 (by decide) rfl rfl rfl ?_
  refine g_if_eq (tgt := 21) d_A_beforeAt_7 rfl (fun hc => ?_) (fun hc => ?_)
  · have h := h.1 hc
    refine g_iconst d_A_beforeAt_21 (x := (-1)) (by decide) ?_
    exact g_sub [] rfl h
  · have h := h.2 hc
    refine g_aload_n d_A_beforeAt_10 0 rfl rfl ?_
    refine g_getV (x := .ref (v.2.2 37)) d_A_beforeAt_11 fl_A_67 (by decide) rfl rfl rfl ?_
    refine g_iload_n d_A_beforeAt_14 1 rfl rfl ?_
    refine g_callVi (av := [.int x1]) (rest := []) d_A_beforeAt_15 Y_H_cell lk_A_159 (by decide) rfl rfl I_H_cell rfl (Nat.le_of_ble_eq_true rfl) rfl h (fun r1 σ1 h => ?_)
    refine g_goto (tgt := 22) d_A_beforeAt_18 rfl ?_
    exact g_sub [] rfl h
set_option maxRecDepth 20000 in
set_option maxHeartbeats 1000000 in
theorem T_A_beforeAt_22 {l : Launch} {v : gs_V} {n : Nat} {post : Int32 → gs_S → Prop} {σ : gs_S} {s0 : Int32} (h : post s0 σ) : G_A_beforeAt_22 l v n post σ s0 := by
  exact g_iret d_A_beforeAt_22 rfl h
theorem E_A_beforeAt {l : Launch} {v : gs_V} {n : Nat} {post : Int32 → gs_S → Prop} {σ : gs_S} {x1 : Int32} (h : G_A_beforeAt_0 l v n post σ x1) : gM l v lyC 42 me_A_beforeAt (n + 1) [.ref (v.2.2 0), .int x1] σ (qI v lyC 42 post) := gM_of (by decide +kernel) (Nat.le_of_ble_eq_true rfl) h
/-! LineRules.conserved -/
theorem d_A_conserved_0 : decode me_A_conserved.2.1 0 = .ok (.aload_n 0, 1) := by decide +kernel
theorem d_A_conserved_1 : decode me_A_conserved.2.1 1 = .ok (.getfield 19, 3) := by decide +kernel
theorem d_A_conserved_4 : decode me_A_conserved.2.1 4 = .ok (.getfield 93, 3) := by decide +kernel
theorem d_A_conserved_7 : decode me_A_conserved.2.1 7 = .ok (.ifCond .eq 13, 3) := by decide +kernel
theorem d_A_conserved_10 : decode me_A_conserved.2.1 10 = .ok (.aload_n 0, 1) := by decide +kernel
theorem d_A_conserved_11 : decode me_A_conserved.2.1 11 = .ok (.getfield 51, 3) := by decide +kernel
theorem d_A_conserved_14 : decode me_A_conserved.2.1 14 = .ok (.invokevirtual 144, 3) := by decide +kernel
theorem d_A_conserved_17 : decode me_A_conserved.2.1 17 = .ok (.goto 4, 3) := by decide +kernel
theorem d_A_conserved_20 : decode me_A_conserved.2.1 20 = .ok (.iconst (-1), 1) := by decide +kernel
theorem d_A_conserved_21 : decode me_A_conserved.2.1 21 = .ok (.ireturn, 1) := by decide +kernel
abbrev G_A_conserved_0 (l : Launch) (v : gs_V) (n : Nat) (post : Int32 → gs_S → Prop) (σ : gs_S) : Prop := gG l v lyC 42 me_A_conserved n (qI v lyC 42 post) 0 [(0, .ref (v.2.2 0))] [] σ
abbrev G_A_conserved_21 (l : Launch) (v : gs_V) (n : Nat) (post : Int32 → gs_S → Prop) (σ : gs_S) (s0 : Int32) : Prop := gG l v lyC 42 me_A_conserved n (qI v lyC 42 post) 21 [] [.int s0] σ
set_option maxRecDepth 20000 in
set_option maxHeartbeats 1000000 in
theorem T_A_conserved_0 {l : Launch} {v : gs_V} {n : Nat} {post : Int32 → gs_S → Prop} {σ : gs_S} (h : (((σ.1 4 5) = 0 → G_A_conserved_21 l v n post σ ((-1))) ∧ (¬ (σ.1 4 5) = 0 → gM l v lyC 42 me_W_count n [.ref (v.2.2 19)] σ (qI v lyC 42 (fun r1 σ1 => G_A_conserved_21 l v n post σ1 r1))))) : G_A_conserved_0 l v n post σ := by
  refine g_aload_n d_A_conserved_0 0 rfl rfl ?_
  refine g_getV (x := .ref (v.2.2 4)) d_A_conserved_1 fl_A_19 (by decide) rfl rfl rfl ?_
  refine g_getV (x := .int (σ.1 4 5)) d_A_conserved_4 fl_A_93 (by decide) rfl rfl rfl ?_
  refine g_if_eq (tgt := 20) d_A_conserved_7 rfl (fun hc => ?_) (fun hc => ?_)
  · have h := h.1 hc
    refine g_iconst d_A_conserved_20 (x := (-1)) (by decide) ?_
    exact g_sub [] rfl h
  · have h := h.2 hc
    refine g_aload_n d_A_conserved_10 0 rfl rfl ?_
    refine g_getV (x := .ref (v.2.2 19)) d_A_conserved_11 fl_A_51 (by decide) rfl rfl rfl ?_
    refine g_callVi (av := []) (rest := []) d_A_conserved_14 Y_W_count lk_A_144 (by decide) rfl rfl I_W_count rfl (Nat.le_of_ble_eq_true rfl) rfl h (fun r1 σ1 h => ?_)
    refine g_goto (tgt := 21) d_A_conserved_17 rfl ?_
    exact g_sub [] rfl h
set_option maxRecDepth 20000 in
set_option maxHeartbeats 1000000 in
theorem T_A_conserved_21 {l : Launch} {v : gs_V} {n : Nat} {post : Int32 → gs_S → Prop} {σ : gs_S} {s0 : Int32} (h : post s0 σ) : G_A_conserved_21 l v n post σ s0 := by
  exact g_iret d_A_conserved_21 rfl h
theorem E_A_conserved {l : Launch} {v : gs_V} {n : Nat} {post : Int32 → gs_S → Prop} {σ : gs_S} (h : G_A_conserved_0 l v n post σ) : gM l v lyC 42 me_A_conserved (n + 1) [.ref (v.2.2 0)] σ (qI v lyC 42 post) := gM_of (by decide +kernel) (Nat.le_of_ble_eq_true rfl) h
/-! LineRules.get -/
theorem d_A_get_0 : decode me_A_get.2.1 0 = .ok (.aload_n 0, 1) := by decide +kernel
theorem d_A_get_1 : decode me_A_get.2.1 1 = .ok (.getfield 28, 3) := by decide +kernel
theorem d_A_get_4 : decode me_A_get.2.1 4 = .ok (.iload_n 1, 1) := by decide +kernel
theorem d_A_get_5 : decode me_A_get.2.1 5 = .ok (.invokevirtual 111, 3) := by decide +kernel
theorem d_A_get_8 : decode me_A_get.2.1 8 = .ok (.ifCond .eq 15, 3) := by decide +kernel
theorem d_A_get_11 : decode me_A_get.2.1 11 = .ok (.aload_n 0, 1) := by decide +kernel
theorem d_A_get_12 : decode me_A_get.2.1 12 = .ok (.getfield 28, 3) := by decide +kernel
theorem d_A_get_15 : decode me_A_get.2.1 15 = .ok (.getfield 118, 3) := by decide +kernel
theorem d_A_get_18 : decode me_A_get.2.1 18 = .ok (.iload_n 1, 1) := by decide +kernel
theorem d_A_get_19 : decode me_A_get.2.1 19 = .ok (.iaload, 1) := by decide +kernel
theorem d_A_get_20 : decode me_A_get.2.1 20 = .ok (.goto 4, 3) := by decide +kernel
theorem d_A_get_23 : decode me_A_get.2.1 23 = .ok (.iconst (-1), 1) := by decide +kernel
theorem d_A_get_24 : decode me_A_get.2.1 24 = .ok (.ireturn, 1) := by decide +kernel
abbrev G_A_get_0 (l : Launch) (v : gs_V) (n : Nat) (post : Int32 → gs_S → Prop) (σ : gs_S) (x1 : Int32) : Prop := gG l v lyC 42 me_A_get n (qI v lyC 42 post) 0 [(0, .ref (v.2.2 0)), (1, .int x1)] [] σ
abbrev G_A_get_24 (l : Launch) (v : gs_V) (n : Nat) (post : Int32 → gs_S → Prop) (σ : gs_S) (s0 : Int32) : Prop := gG l v lyC 42 me_A_get n (qI v lyC 42 post) 24 [] [.int s0] σ
set_option maxRecDepth 20000 in
set_option maxHeartbeats 1000000 in
theorem T_A_get_0 {l : Launch} {v : gs_V} {n : Nat} {post : Int32 → gs_S → Prop} {σ : gs_S} {x1 : Int32} (h : gM l v lyC 42 me_C_has n [.ref (v.2.2 10), .int x1] σ (qI v lyC 42 (fun r1 σ1 => ((r1 = 0 → G_A_get_24 l v n post σ1 ((-1))) ∧ (¬ r1 = 0 → vp_in x1 64 ∧ G_A_get_24 l v n post σ1 (σ1.1 11 x1.toNatClampNeg)))))) : G_A_get_0 l v n post σ x1 := by
  refine g_aload_n d_A_get_0 0 rfl rfl ?_
  refine g_getV (x := .ref (v.2.2 10)) d_A_get_1 fl_A_28 (by decide) rfl rfl rfl ?_
  refine g_iload_n d_A_get_4 1 rfl rfl ?_
  refine g_callVi (av := [.int x1]) (rest := []) d_A_get_5 Y_C_has lk_A_111 (by decide) rfl rfl I_C_has rfl (Nat.le_of_ble_eq_true rfl) rfl h (fun r1 σ1 h => ?_)
  refine g_if_eq (tgt := 23) d_A_get_8 rfl (fun hc => ?_) (fun hc => ?_)
  · have h := h.1 hc
    refine g_iconst d_A_get_23 (x := (-1)) (by decide) ?_
    exact g_sub [] rfl h
  · have h := h.2 hc
    refine g_aload_n d_A_get_11 0 rfl rfl ?_
    refine g_getV (x := .ref (v.2.2 10)) d_A_get_12 fl_A_28 (by decide) rfl rfl rfl ?_
    refine g_getV (x := .ref (v.2.2 11)) d_A_get_15 fl_A_118 (by decide) rfl rfl rfl ?_
    refine g_iload_n d_A_get_18 1 rfl rfl ?_
    have hi2 := h.1
    have h := h.2
    refine g_iald (x := σ1.1 11 x1.toNatClampNeg) d_A_get_19 (by decide) rfl hi2 rfl ?_
    refine g_goto (tgt := 24) d_A_get_20 rfl ?_
    exact g_sub [] rfl h
set_option maxRecDepth 20000 in
set_option maxHeartbeats 1000000 in
theorem T_A_get_24 {l : Launch} {v : gs_V} {n : Nat} {post : Int32 → gs_S → Prop} {σ : gs_S} {s0 : Int32} (h : post s0 σ) : G_A_get_24 l v n post σ s0 := by
  exact g_iret d_A_get_24 rfl h
theorem E_A_get {l : Launch} {v : gs_V} {n : Nat} {post : Int32 → gs_S → Prop} {σ : gs_S} {x1 : Int32} (h : G_A_get_0 l v n post σ x1) : gM l v lyC 42 me_A_get (n + 1) [.ref (v.2.2 0), .int x1] σ (qI v lyC 42 post) := gM_of (by decide +kernel) (Nat.le_of_ble_eq_true rfl) h
/-! LineRules.injective -/
theorem d_A_injective_0 : decode me_A_injective.2.1 0 = .ok (.aload_n 0, 1) := by decide +kernel
theorem d_A_injective_1 : decode me_A_injective.2.1 1 = .ok (.getfield 19, 3) := by decide +kernel
theorem d_A_injective_4 : decode me_A_injective.2.1 4 = .ok (.getfield 93, 3) := by decide +kernel
theorem d_A_injective_7 : decode me_A_injective.2.1 7 = .ok (.ifCond .ne 5, 3) := by decide +kernel
theorem d_A_injective_10 : decode me_A_injective.2.1 10 = .ok (.iconst (-1), 1) := by decide +kernel
theorem d_A_injective_11 : decode me_A_injective.2.1 11 = .ok (.ireturn, 1) := by decide +kernel
theorem d_A_injective_12 : decode me_A_injective.2.1 12 = .ok (.aload_n 0, 1) := by decide +kernel
theorem d_A_injective_13 : decode me_A_injective.2.1 13 = .ok (.getfield 35, 3) := by decide +kernel
theorem d_A_injective_16 : decode me_A_injective.2.1 16 = .ok (.invokevirtual 131, 3) := by decide +kernel
theorem d_A_injective_19 : decode me_A_injective.2.1 19 = .ok (.ifCond .eq 7, 3) := by decide +kernel
theorem d_A_injective_22 : decode me_A_injective.2.1 22 = .ok (.iconst 1, 1) := by decide +kernel
theorem d_A_injective_23 : decode me_A_injective.2.1 23 = .ok (.goto 4, 3) := by decide +kernel
theorem d_A_injective_26 : decode me_A_injective.2.1 26 = .ok (.iconst 0, 1) := by decide +kernel
theorem d_A_injective_27 : decode me_A_injective.2.1 27 = .ok (.ireturn, 1) := by decide +kernel
abbrev G_A_injective_0 (l : Launch) (v : gs_V) (n : Nat) (post : Int32 → gs_S → Prop) (σ : gs_S) : Prop := gG l v lyC 42 me_A_injective n (qI v lyC 42 post) 0 [(0, .ref (v.2.2 0))] [] σ
abbrev G_A_injective_27 (l : Launch) (v : gs_V) (n : Nat) (post : Int32 → gs_S → Prop) (σ : gs_S) (s0 : Int32) : Prop := gG l v lyC 42 me_A_injective n (qI v lyC 42 post) 27 [] [.int s0] σ
set_option maxRecDepth 20000 in
set_option maxHeartbeats 1000000 in
theorem T_A_injective_0 {l : Launch} {v : gs_V} {n : Nat} {post : Int32 → gs_S → Prop} {σ : gs_S} (h : ((¬ (σ.1 4 5) = 0 → gM l v lyC 42 me_P_losesNothing n [.ref (v.2.2 14)] σ (qI v lyC 42 (fun r1 σ1 => ((r1 = 0 → G_A_injective_27 l v n post σ1 0) ∧ (¬ r1 = 0 → G_A_injective_27 l v n post σ1 1))))) ∧ ((σ.1 4 5) = 0 → post ((-1)) σ))) : G_A_injective_0 l v n post σ := by
  refine g_aload_n d_A_injective_0 0 rfl rfl ?_
  refine g_getV (x := .ref (v.2.2 4)) d_A_injective_1 fl_A_19 (by decide) rfl rfl rfl ?_
  refine g_getV (x := .int (σ.1 4 5)) d_A_injective_4 fl_A_93 (by decide) rfl rfl rfl ?_
  refine g_if_ne (tgt := 12) d_A_injective_7 rfl (fun hc => ?_) (fun hc => ?_)
  · have h := h.1 hc
    refine g_aload_n d_A_injective_12 0 rfl rfl ?_
    refine g_getV (x := .ref (v.2.2 14)) d_A_injective_13 fl_A_35 (by decide) rfl rfl rfl ?_
    refine g_callVi (av := []) (rest := []) d_A_injective_16 Y_P_losesNothing lk_A_131 (by decide) rfl rfl I_P_losesNothing rfl (Nat.le_of_ble_eq_true rfl) rfl h (fun r1 σ1 h => ?_)
    refine g_if_eq (tgt := 26) d_A_injective_19 rfl (fun hc => ?_) (fun hc => ?_)
    · have h := h.1 hc
      refine g_iconst d_A_injective_26 (x := 0) (by decide) ?_
      exact g_sub [] rfl h
    · have h := h.2 hc
      refine g_iconst d_A_injective_22 (x := 1) (by decide) ?_
      refine g_goto (tgt := 27) d_A_injective_23 rfl ?_
      exact g_sub [] rfl h
  · have h := h.2 hc
    refine g_iconst d_A_injective_10 (x := (-1)) (by decide) ?_
    exact g_iret d_A_injective_11 rfl h
set_option maxRecDepth 20000 in
set_option maxHeartbeats 1000000 in
theorem T_A_injective_27 {l : Launch} {v : gs_V} {n : Nat} {post : Int32 → gs_S → Prop} {σ : gs_S} {s0 : Int32} (h : post s0 σ) : G_A_injective_27 l v n post σ s0 := by
  exact g_iret d_A_injective_27 rfl h
theorem E_A_injective {l : Launch} {v : gs_V} {n : Nat} {post : Int32 → gs_S → Prop} {σ : gs_S} (h : G_A_injective_0 l v n post σ) : gM l v lyC 42 me_A_injective (n + 1) [.ref (v.2.2 0)] σ (qI v lyC 42 post) := gM_of (by decide +kernel) (Nat.le_of_ble_eq_true rfl) h
/-! LineRules.inverse -/
theorem d_A_inverse_0 : decode me_A_inverse.2.1 0 = .ok (.aload_n 0, 1) := by decide +kernel
theorem d_A_inverse_1 : decode me_A_inverse.2.1 1 = .ok (.getfield 19, 3) := by decide +kernel
theorem d_A_inverse_4 : decode me_A_inverse.2.1 4 = .ok (.getfield 93, 3) := by decide +kernel
theorem d_A_inverse_7 : decode me_A_inverse.2.1 7 = .ok (.ifCond .eq 12, 3) := by decide +kernel
theorem d_A_inverse_10 : decode me_A_inverse.2.1 10 = .ok (.iload_n 1, 1) := by decide +kernel
theorem d_A_inverse_11 : decode me_A_inverse.2.1 11 = .ok (.ifCond .lt 8, 3) := by decide +kernel
theorem d_A_inverse_14 : decode me_A_inverse.2.1 14 = .ok (.iload_n 1, 1) := by decide +kernel
theorem d_A_inverse_15 : decode me_A_inverse.2.1 15 = .ok (.iconst 1, 1) := by decide +kernel
theorem d_A_inverse_16 : decode me_A_inverse.2.1 16 = .ok (.if_icmp .le 5, 3) := by decide +kernel
theorem d_A_inverse_19 : decode me_A_inverse.2.1 19 = .ok (.iconst (-1), 1) := by decide +kernel
theorem d_A_inverse_20 : decode me_A_inverse.2.1 20 = .ok (.ireturn, 1) := by decide +kernel
theorem d_A_inverse_21 : decode me_A_inverse.2.1 21 = .ok (.iload_n 1, 1) := by decide +kernel
theorem d_A_inverse_22 : decode me_A_inverse.2.1 22 = .ok (.ifCond .ne 13, 3) := by decide +kernel
theorem d_A_inverse_25 : decode me_A_inverse.2.1 25 = .ok (.aload_n 0, 1) := by decide +kernel
theorem d_A_inverse_26 : decode me_A_inverse.2.1 26 = .ok (.getfield 44, 3) := by decide +kernel
theorem d_A_inverse_29 : decode me_A_inverse.2.1 29 = .ok (.invokevirtual 134, 3) := by decide +kernel
theorem d_A_inverse_32 : decode me_A_inverse.2.1 32 = .ok (.goto 10, 3) := by decide +kernel
theorem d_A_inverse_35 : decode me_A_inverse.2.1 35 = .ok (.aload_n 0, 1) := by decide +kernel
theorem d_A_inverse_36 : decode me_A_inverse.2.1 36 = .ok (.getfield 44, 3) := by decide +kernel
theorem d_A_inverse_39 : decode me_A_inverse.2.1 39 = .ok (.invokevirtual 138, 3) := by decide +kernel
theorem d_A_inverse_42 : decode me_A_inverse.2.1 42 = .ok (.ireturn, 1) := by decide +kernel
abbrev G_A_inverse_0 (l : Launch) (v : gs_V) (n : Nat) (post : Int32 → gs_S → Prop) (σ : gs_S) (x1 : Int32) : Prop := gG l v lyC 42 me_A_inverse n (qI v lyC 42 post) 0 [(0, .ref (v.2.2 0)), (1, .int x1)] [] σ
abbrev G_A_inverse_19 (l : Launch) (v : gs_V) (n : Nat) (post : Int32 → gs_S → Prop) (σ : gs_S) : Prop := gG l v lyC 42 me_A_inverse n (qI v lyC 42 post) 19 [] [] σ
abbrev G_A_inverse_42 (l : Launch) (v : gs_V) (n : Nat) (post : Int32 → gs_S → Prop) (σ : gs_S) (s0 : Int32) : Prop := gG l v lyC 42 me_A_inverse n (qI v lyC 42 post) 42 [] [.int s0] σ
set_option maxRecDepth 20000 in
set_option maxHeartbeats 1000000 in
theorem T_A_inverse_0 {l : Launch} {v : gs_V} {n : Nat} {post : Int32 → gs_S → Prop} {σ : gs_S} {x1 : Int32} (h : (((σ.1 4 5) = 0 → G_A_inverse_19 l v n post σ) ∧ (¬ (σ.1 4 5) = 0 → ((x1 < 0 → G_A_inverse_19 l v n post σ) ∧ (¬ x1 < 0 → ((x1 ≤ 1 → ((¬ x1 = 0 → gM l v lyC 42 me_V_place n [.ref (v.2.2 17)] σ (qI v lyC 42 (fun r1 σ1 => G_A_inverse_42 l v n post σ1 r1))) ∧ (x1 = 0 → gM l v lyC 42 me_V_width n [.ref (v.2.2 17)] σ (qI v lyC 42 (fun r2 σ2 => G_A_inverse_42 l v n post σ2 r2))))) ∧ (¬ x1 ≤ 1 → G_A_inverse_19 l v n post σ))))))) : G_A_inverse_0 l v n post σ x1 := by
  refine g_aload_n d_A_inverse_0 0 rfl rfl ?_
  refine g_getV (x := .ref (v.2.2 4)) d_A_inverse_1 fl_A_19 (by decide) rfl rfl rfl ?_
  refine g_getV (x := .int (σ.1 4 5)) d_A_inverse_4 fl_A_93 (by decide) rfl rfl rfl ?_
  refine g_if_eq (tgt := 19) d_A_inverse_7 rfl (fun hc => ?_) (fun hc => ?_)
  · have h := h.1 hc
    exact g_sub [] rfl h
  · have h := h.2 hc
    refine g_iload_n d_A_inverse_10 1 rfl rfl ?_
    refine g_if_lt (tgt := 19) d_A_inverse_11 rfl (fun hc => ?_) (fun hc => ?_)
    · have h := h.1 hc
      exact g_sub [] rfl h
    · have h := h.2 hc
      refine g_iload_n d_A_inverse_14 1 rfl rfl ?_
      refine g_iconst d_A_inverse_15 (x := 1) (by decide) ?_
      refine g_icmp_le (tgt := 21) d_A_inverse_16 rfl (fun hc => ?_) (fun hc => ?_)
      · have h := h.1 hc
        refine g_iload_n d_A_inverse_21 1 rfl rfl ?_
        refine g_if_ne (tgt := 35) d_A_inverse_22 rfl (fun hc => ?_) (fun hc => ?_)
        · have h := h.1 hc
          refine g_aload_n d_A_inverse_35 0 rfl rfl ?_
          refine g_getV (x := .ref (v.2.2 17)) d_A_inverse_36 fl_A_44 (by decide) rfl rfl rfl ?_
          refine g_callVi (av := []) (rest := []) d_A_inverse_39 Y_V_place lk_A_138 (by decide) rfl rfl I_V_place rfl (Nat.le_of_ble_eq_true rfl) rfl h (fun r1 σ1 h => ?_)
          exact g_sub [] rfl h
        · have h := h.2 hc
          refine g_aload_n d_A_inverse_25 0 rfl rfl ?_
          refine g_getV (x := .ref (v.2.2 17)) d_A_inverse_26 fl_A_44 (by decide) rfl rfl rfl ?_
          refine g_callVi (av := []) (rest := []) d_A_inverse_29 Y_V_width lk_A_134 (by decide) rfl rfl I_V_width rfl (Nat.le_of_ble_eq_true rfl) rfl h (fun r2 σ2 h => ?_)
          refine g_goto (tgt := 42) d_A_inverse_32 rfl ?_
          exact g_sub [] rfl h
      · have h := h.2 hc
        exact g_sub [] rfl h
set_option maxRecDepth 20000 in
set_option maxHeartbeats 1000000 in
theorem T_A_inverse_19 {l : Launch} {v : gs_V} {n : Nat} {post : Int32 → gs_S → Prop} {σ : gs_S} (h : post ((-1)) σ) : G_A_inverse_19 l v n post σ := by
  refine g_iconst d_A_inverse_19 (x := (-1)) (by decide) ?_
  exact g_iret d_A_inverse_20 rfl h
set_option maxRecDepth 20000 in
set_option maxHeartbeats 1000000 in
theorem T_A_inverse_42 {l : Launch} {v : gs_V} {n : Nat} {post : Int32 → gs_S → Prop} {σ : gs_S} {s0 : Int32} (h : post s0 σ) : G_A_inverse_42 l v n post σ s0 := by
  exact g_iret d_A_inverse_42 rfl h
theorem E_A_inverse {l : Launch} {v : gs_V} {n : Nat} {post : Int32 → gs_S → Prop} {σ : gs_S} {x1 : Int32} (h : G_A_inverse_0 l v n post σ x1) : gM l v lyC 42 me_A_inverse (n + 1) [.ref (v.2.2 0), .int x1] σ (qI v lyC 42 post) := gM_of (by decide +kernel) (Nat.le_of_ble_eq_true rfl) h
/-! LineRules.load -/
theorem d_A_load_0 : decode me_A_load.2.1 0 = .ok (.aload_n 0, 1) := by decide +kernel
theorem d_A_load_1 : decode me_A_load.2.1 1 = .ok (.getfield 10, 3) := by decide +kernel
theorem d_A_load_4 : decode me_A_load.2.1 4 = .ok (.iload_n 1, 1) := by decide +kernel
theorem d_A_load_5 : decode me_A_load.2.1 5 = .ok (.invokevirtual 71, 3) := by decide +kernel
theorem d_A_load_8 : decode me_A_load.2.1 8 = .ok (.ireturn, 1) := by decide +kernel
abbrev G_A_load_0 (l : Launch) (v : gs_V) (n : Nat) (post : Int32 → gs_S → Prop) (σ : gs_S) (x1 : Int32) : Prop := gG l v lyC 42 me_A_load n (qI v lyC 42 post) 0 [(0, .ref (v.2.2 0)), (1, .int x1)] [] σ
set_option maxRecDepth 20000 in
set_option maxHeartbeats 1000000 in
theorem T_A_load_0 {l : Launch} {v : gs_V} {n : Nat} {post : Int32 → gs_S → Prop} {σ : gs_S} {x1 : Int32} (h : gM l v lyC 42 me_T_append n [.ref (v.2.2 1), .int x1] σ (qI v lyC 42 (fun r1 σ1 => post r1 σ1))) : G_A_load_0 l v n post σ x1 := by
  refine g_aload_n d_A_load_0 0 rfl rfl ?_
  refine g_getV (x := .ref (v.2.2 1)) d_A_load_1 fl_A_10 (by decide) rfl rfl rfl ?_
  refine g_iload_n d_A_load_4 1 rfl rfl ?_
  refine g_callVi (av := [.int x1]) (rest := []) d_A_load_5 Y_T_append lk_A_71 (by decide) rfl rfl I_T_append rfl (Nat.le_of_ble_eq_true rfl) rfl h (fun r1 σ1 h => ?_)
  exact g_iret d_A_load_8 rfl h
theorem E_A_load {l : Launch} {v : gs_V} {n : Nat} {post : Int32 → gs_S → Prop} {σ : gs_S} {x1 : Int32} (h : G_A_load_0 l v n post σ x1) : gM l v lyC 42 me_A_load (n + 1) [.ref (v.2.2 0), .int x1] σ (qI v lyC 42 post) := gM_of (by decide +kernel) (Nat.le_of_ble_eq_true rfl) h
/-! LineRules.next -/
theorem d_A_next_0 : decode me_A_next.2.1 0 = .ok (.aload_n 0, 1) := by decide +kernel
theorem d_A_next_1 : decode me_A_next.2.1 1 = .ok (.getfield 19, 3) := by decide +kernel
theorem d_A_next_4 : decode me_A_next.2.1 4 = .ok (.getfield 93, 3) := by decide +kernel
theorem d_A_next_7 : decode me_A_next.2.1 7 = .ok (.ifCond .eq 18, 3) := by decide +kernel
theorem d_A_next_10 : decode me_A_next.2.1 10 = .ok (.iload_n 1, 1) := by decide +kernel
theorem d_A_next_11 : decode me_A_next.2.1 11 = .ok (.ifCond .lt 14, 3) := by decide +kernel
theorem d_A_next_14 : decode me_A_next.2.1 14 = .ok (.iload_n 1, 1) := by decide +kernel
theorem d_A_next_15 : decode me_A_next.2.1 15 = .ok (.aload_n 0, 1) := by decide +kernel
theorem d_A_next_16 : decode me_A_next.2.1 16 = .ok (.getfield 19, 3) := by decide +kernel
theorem d_A_next_19 : decode me_A_next.2.1 19 = .ok (.getfield 97, 3) := by decide +kernel
theorem d_A_next_22 : decode me_A_next.2.1 22 = .ok (.if_icmp .lt 5, 3) := by decide +kernel
theorem d_A_next_25 : decode me_A_next.2.1 25 = .ok (.iconst (-1), 1) := by decide +kernel
theorem d_A_next_26 : decode me_A_next.2.1 26 = .ok (.ireturn, 1) := by decide +kernel
theorem d_A_next_27 : decode me_A_next.2.1 27 = .ok (.aload_n 0, 1) := by decide +kernel
theorem d_A_next_28 : decode me_A_next.2.1 28 = .ok (.getfield 19, 3) := by decide +kernel
theorem d_A_next_31 : decode me_A_next.2.1 31 = .ok (.getfield 100, 3) := by decide +kernel
theorem d_A_next_34 : decode me_A_next.2.1 34 = .ok (.iload_n 1, 1) := by decide +kernel
theorem d_A_next_35 : decode me_A_next.2.1 35 = .ok (.iaload, 1) := by decide +kernel
theorem d_A_next_36 : decode me_A_next.2.1 36 = .ok (.ireturn, 1) := by decide +kernel
abbrev G_A_next_0 (l : Launch) (v : gs_V) (n : Nat) (post : Int32 → gs_S → Prop) (σ : gs_S) (x1 : Int32) : Prop := gG l v lyC 42 me_A_next n (qI v lyC 42 post) 0 [(0, .ref (v.2.2 0)), (1, .int x1)] [] σ
abbrev G_A_next_25 (l : Launch) (v : gs_V) (n : Nat) (post : Int32 → gs_S → Prop) (σ : gs_S) : Prop := gG l v lyC 42 me_A_next n (qI v lyC 42 post) 25 [] [] σ
set_option maxRecDepth 20000 in
set_option maxHeartbeats 1000000 in
theorem T_A_next_0 {l : Launch} {v : gs_V} {n : Nat} {post : Int32 → gs_S → Prop} {σ : gs_S} {x1 : Int32} (h : (((σ.1 4 5) = 0 → G_A_next_25 l v n post σ) ∧ (¬ (σ.1 4 5) = 0 → ((x1 < 0 → G_A_next_25 l v n post σ) ∧ (¬ x1 < 0 → ((x1 < (σ.1 4 8) → vp_in x1 256 ∧ post (σ.1 5 x1.toNatClampNeg) σ) ∧ (¬ x1 < (σ.1 4 8) → G_A_next_25 l v n post σ))))))) : G_A_next_0 l v n post σ x1 := by
  refine g_aload_n d_A_next_0 0 rfl rfl ?_
  refine g_getV (x := .ref (v.2.2 4)) d_A_next_1 fl_A_19 (by decide) rfl rfl rfl ?_
  refine g_getV (x := .int (σ.1 4 5)) d_A_next_4 fl_A_93 (by decide) rfl rfl rfl ?_
  refine g_if_eq (tgt := 25) d_A_next_7 rfl (fun hc => ?_) (fun hc => ?_)
  · have h := h.1 hc
    exact g_sub [] rfl h
  · have h := h.2 hc
    refine g_iload_n d_A_next_10 1 rfl rfl ?_
    refine g_if_lt (tgt := 25) d_A_next_11 rfl (fun hc => ?_) (fun hc => ?_)
    · have h := h.1 hc
      exact g_sub [] rfl h
    · have h := h.2 hc
      refine g_iload_n d_A_next_14 1 rfl rfl ?_
      refine g_aload_n d_A_next_15 0 rfl rfl ?_
      refine g_getV (x := .ref (v.2.2 4)) d_A_next_16 fl_A_19 (by decide) rfl rfl rfl ?_
      refine g_getV (x := .int (σ.1 4 8)) d_A_next_19 fl_A_97 (by decide) rfl rfl rfl ?_
      refine g_icmp_lt (tgt := 27) d_A_next_22 rfl (fun hc => ?_) (fun hc => ?_)
      · have h := h.1 hc
        refine g_aload_n d_A_next_27 0 rfl rfl ?_
        refine g_getV (x := .ref (v.2.2 4)) d_A_next_28 fl_A_19 (by decide) rfl rfl rfl ?_
        refine g_getV (x := .ref (v.2.2 5)) d_A_next_31 fl_A_100 (by decide) rfl rfl rfl ?_
        refine g_iload_n d_A_next_34 1 rfl rfl ?_
        have hi1 := h.1
        have h := h.2
        refine g_iald (x := σ.1 5 x1.toNatClampNeg) d_A_next_35 (by decide) rfl hi1 rfl ?_
        exact g_iret d_A_next_36 rfl h
      · have h := h.2 hc
        exact g_sub [] rfl h
set_option maxRecDepth 20000 in
set_option maxHeartbeats 1000000 in
theorem T_A_next_25 {l : Launch} {v : gs_V} {n : Nat} {post : Int32 → gs_S → Prop} {σ : gs_S} (h : post ((-1)) σ) : G_A_next_25 l v n post σ := by
  refine g_iconst d_A_next_25 (x := (-1)) (by decide) ?_
  exact g_iret d_A_next_26 rfl h
theorem E_A_next {l : Launch} {v : gs_V} {n : Nat} {post : Int32 → gs_S → Prop} {σ : gs_S} {x1 : Int32} (h : G_A_next_0 l v n post σ x1) : gM l v lyC 42 me_A_next (n + 1) [.ref (v.2.2 0), .int x1] σ (qI v lyC 42 post) := gM_of (by decide +kernel) (Nat.le_of_ble_eq_true rfl) h
/-! LineRules.orphan -/
theorem d_A_orphan_0 : decode me_A_orphan.2.1 0 = .ok (.aload_n 0, 1) := by decide +kernel
theorem d_A_orphan_1 : decode me_A_orphan.2.1 1 = .ok (.getfield 19, 3) := by decide +kernel
theorem d_A_orphan_4 : decode me_A_orphan.2.1 4 = .ok (.getfield 93, 3) := by decide +kernel
theorem d_A_orphan_7 : decode me_A_orphan.2.1 7 = .ok (.ifCond .eq 13, 3) := by decide +kernel
theorem d_A_orphan_10 : decode me_A_orphan.2.1 10 = .ok (.aload_n 0, 1) := by decide +kernel
theorem d_A_orphan_11 : decode me_A_orphan.2.1 11 = .ok (.getfield 58, 3) := by decide +kernel
theorem d_A_orphan_14 : decode me_A_orphan.2.1 14 = .ok (.invokevirtual 150, 3) := by decide +kernel
theorem d_A_orphan_17 : decode me_A_orphan.2.1 17 = .ok (.goto 4, 3) := by decide +kernel
theorem d_A_orphan_20 : decode me_A_orphan.2.1 20 = .ok (.iconst (-1), 1) := by decide +kernel
theorem d_A_orphan_21 : decode me_A_orphan.2.1 21 = .ok (.ireturn, 1) := by decide +kernel
abbrev G_A_orphan_0 (l : Launch) (v : gs_V) (n : Nat) (post : Int32 → gs_S → Prop) (σ : gs_S) : Prop := gG l v lyC 42 me_A_orphan n (qI v lyC 42 post) 0 [(0, .ref (v.2.2 0))] [] σ
abbrev G_A_orphan_21 (l : Launch) (v : gs_V) (n : Nat) (post : Int32 → gs_S → Prop) (σ : gs_S) (s0 : Int32) : Prop := gG l v lyC 42 me_A_orphan n (qI v lyC 42 post) 21 [] [.int s0] σ
set_option maxRecDepth 20000 in
set_option maxHeartbeats 1000000 in
theorem T_A_orphan_0 {l : Launch} {v : gs_V} {n : Nat} {post : Int32 → gs_S → Prop} {σ : gs_S} (h : (((σ.1 4 5) = 0 → G_A_orphan_21 l v n post σ ((-1))) ∧ (¬ (σ.1 4 5) = 0 → gM l v lyC 42 me_O_length n [.ref (v.2.2 31)] σ (qI v lyC 42 (fun r1 σ1 => G_A_orphan_21 l v n post σ1 r1))))) : G_A_orphan_0 l v n post σ := by
  refine g_aload_n d_A_orphan_0 0 rfl rfl ?_
  refine g_getV (x := .ref (v.2.2 4)) d_A_orphan_1 fl_A_19 (by decide) rfl rfl rfl ?_
  refine g_getV (x := .int (σ.1 4 5)) d_A_orphan_4 fl_A_93 (by decide) rfl rfl rfl ?_
  refine g_if_eq (tgt := 20) d_A_orphan_7 rfl (fun hc => ?_) (fun hc => ?_)
  · have h := h.1 hc
    refine g_iconst d_A_orphan_20 (x := (-1)) (by decide) ?_
    exact g_sub [] rfl h
  · have h := h.2 hc
    refine g_aload_n d_A_orphan_10 0 rfl rfl ?_
    refine g_getV (x := .ref (v.2.2 31)) d_A_orphan_11 fl_A_58 (by decide) rfl rfl rfl ?_
    refine g_callVi (av := []) (rest := []) d_A_orphan_14 Y_O_length lk_A_150 (by decide) rfl rfl I_O_length rfl (Nat.le_of_ble_eq_true rfl) rfl h (fun r1 σ1 h => ?_)
    refine g_goto (tgt := 21) d_A_orphan_17 rfl ?_
    exact g_sub [] rfl h
set_option maxRecDepth 20000 in
set_option maxHeartbeats 1000000 in
theorem T_A_orphan_21 {l : Launch} {v : gs_V} {n : Nat} {post : Int32 → gs_S → Prop} {σ : gs_S} {s0 : Int32} (h : post s0 σ) : G_A_orphan_21 l v n post σ s0 := by
  exact g_iret d_A_orphan_21 rfl h
theorem E_A_orphan {l : Launch} {v : gs_V} {n : Nat} {post : Int32 → gs_S → Prop} {σ : gs_S} (h : G_A_orphan_0 l v n post σ) : gM l v lyC 42 me_A_orphan (n + 1) [.ref (v.2.2 0)] σ (qI v lyC 42 post) := gM_of (by decide +kernel) (Nat.le_of_ble_eq_true rfl) h
/-! LineRules.orphanAt -/
theorem d_A_orphanAt_0 : decode me_A_orphanAt.2.1 0 = .ok (.aload_n 0, 1) := by decide +kernel
theorem d_A_orphanAt_1 : decode me_A_orphanAt.2.1 1 = .ok (.getfield 19, 3) := by decide +kernel
theorem d_A_orphanAt_4 : decode me_A_orphanAt.2.1 4 = .ok (.getfield 93, 3) := by decide +kernel
theorem d_A_orphanAt_7 : decode me_A_orphanAt.2.1 7 = .ok (.ifCond .eq 14, 3) := by decide +kernel
theorem d_A_orphanAt_10 : decode me_A_orphanAt.2.1 10 = .ok (.aload_n 0, 1) := by decide +kernel
theorem d_A_orphanAt_11 : decode me_A_orphanAt.2.1 11 = .ok (.getfield 58, 3) := by decide +kernel
theorem d_A_orphanAt_14 : decode me_A_orphanAt.2.1 14 = .ok (.iload_n 1, 1) := by decide +kernel
theorem d_A_orphanAt_15 : decode me_A_orphanAt.2.1 15 = .ok (.invokevirtual 153, 3) := by decide +kernel
theorem d_A_orphanAt_18 : decode me_A_orphanAt.2.1 18 = .ok (.goto 4, 3) := by decide +kernel
theorem d_A_orphanAt_21 : decode me_A_orphanAt.2.1 21 = .ok (.iconst (-1), 1) := by decide +kernel
theorem d_A_orphanAt_22 : decode me_A_orphanAt.2.1 22 = .ok (.ireturn, 1) := by decide +kernel
abbrev G_A_orphanAt_0 (l : Launch) (v : gs_V) (n : Nat) (post : Int32 → gs_S → Prop) (σ : gs_S) (x1 : Int32) : Prop := gG l v lyC 42 me_A_orphanAt n (qI v lyC 42 post) 0 [(0, .ref (v.2.2 0)), (1, .int x1)] [] σ
abbrev G_A_orphanAt_22 (l : Launch) (v : gs_V) (n : Nat) (post : Int32 → gs_S → Prop) (σ : gs_S) (s0 : Int32) : Prop := gG l v lyC 42 me_A_orphanAt n (qI v lyC 42 post) 22 [] [.int s0] σ
set_option maxRecDepth 20000 in
set_option maxHeartbeats 1000000 in
theorem T_A_orphanAt_0 {l : Launch} {v : gs_V} {n : Nat} {post : Int32 → gs_S → Prop} {σ : gs_S} {x1 : Int32} (h : (((σ.1 4 5) = 0 → G_A_orphanAt_22 l v n post σ ((-1))) ∧ (¬ (σ.1 4 5) = 0 → gM l v lyC 42 me_O_cell n [.ref (v.2.2 31), .int x1] σ (qI v lyC 42 (fun r1 σ1 => G_A_orphanAt_22 l v n post σ1 r1))))) : G_A_orphanAt_0 l v n post σ x1 := by
  refine g_aload_n d_A_orphanAt_0 0 rfl rfl ?_
  refine g_getV (x := .ref (v.2.2 4)) d_A_orphanAt_1 fl_A_19 (by decide) rfl rfl rfl ?_
  refine g_getV (x := .int (σ.1 4 5)) d_A_orphanAt_4 fl_A_93 (by decide) rfl rfl rfl ?_
  refine g_if_eq (tgt := 21) d_A_orphanAt_7 rfl (fun hc => ?_) (fun hc => ?_)
  · have h := h.1 hc
    refine g_iconst d_A_orphanAt_21 (x := (-1)) (by decide) ?_
    exact g_sub [] rfl h
  · have h := h.2 hc
    refine g_aload_n d_A_orphanAt_10 0 rfl rfl ?_
    refine g_getV (x := .ref (v.2.2 31)) d_A_orphanAt_11 fl_A_58 (by decide) rfl rfl rfl ?_
    refine g_iload_n d_A_orphanAt_14 1 rfl rfl ?_
    refine g_callVi (av := [.int x1]) (rest := []) d_A_orphanAt_15 Y_O_cell lk_A_153 (by decide) rfl rfl I_O_cell rfl (Nat.le_of_ble_eq_true rfl) rfl h (fun r1 σ1 h => ?_)
    refine g_goto (tgt := 22) d_A_orphanAt_18 rfl ?_
    exact g_sub [] rfl h
set_option maxRecDepth 20000 in
set_option maxHeartbeats 1000000 in
theorem T_A_orphanAt_22 {l : Launch} {v : gs_V} {n : Nat} {post : Int32 → gs_S → Prop} {σ : gs_S} {s0 : Int32} (h : post s0 σ) : G_A_orphanAt_22 l v n post σ s0 := by
  exact g_iret d_A_orphanAt_22 rfl h
theorem E_A_orphanAt {l : Launch} {v : gs_V} {n : Nat} {post : Int32 → gs_S → Prop} {σ : gs_S} {x1 : Int32} (h : G_A_orphanAt_0 l v n post σ x1) : gM l v lyC 42 me_A_orphanAt (n + 1) [.ref (v.2.2 0), .int x1] σ (qI v lyC 42 post) := gM_of (by decide +kernel) (Nat.le_of_ble_eq_true rfl) h
/-! LineRules.population -/
theorem d_A_population_0 : decode me_A_population.2.1 0 = .ok (.aload_n 0, 1) := by decide +kernel
theorem d_A_population_1 : decode me_A_population.2.1 1 = .ok (.getfield 19, 3) := by decide +kernel
theorem d_A_population_4 : decode me_A_population.2.1 4 = .ok (.getfield 93, 3) := by decide +kernel
theorem d_A_population_7 : decode me_A_population.2.1 7 = .ok (.ifCond .eq 14, 3) := by decide +kernel
theorem d_A_population_10 : decode me_A_population.2.1 10 = .ok (.aload_n 0, 1) := by decide +kernel
theorem d_A_population_11 : decode me_A_population.2.1 11 = .ok (.getfield 19, 3) := by decide +kernel
theorem d_A_population_14 : decode me_A_population.2.1 14 = .ok (.iload_n 1, 1) := by decide +kernel
theorem d_A_population_15 : decode me_A_population.2.1 15 = .ok (.invokevirtual 115, 3) := by decide +kernel
theorem d_A_population_18 : decode me_A_population.2.1 18 = .ok (.ifCond .ne 5, 3) := by decide +kernel
theorem d_A_population_21 : decode me_A_population.2.1 21 = .ok (.iconst (-1), 1) := by decide +kernel
theorem d_A_population_22 : decode me_A_population.2.1 22 = .ok (.ireturn, 1) := by decide +kernel
theorem d_A_population_23 : decode me_A_population.2.1 23 = .ok (.aload_n 0, 1) := by decide +kernel
theorem d_A_population_24 : decode me_A_population.2.1 24 = .ok (.getfield 28, 3) := by decide +kernel
theorem d_A_population_27 : decode me_A_population.2.1 27 = .ok (.iload_n 1, 1) := by decide +kernel
theorem d_A_population_28 : decode me_A_population.2.1 28 = .ok (.invokevirtual 124, 3) := by decide +kernel
theorem d_A_population_31 : decode me_A_population.2.1 31 = .ok (.ireturn, 1) := by decide +kernel
abbrev G_A_population_0 (l : Launch) (v : gs_V) (n : Nat) (post : Int32 → gs_S → Prop) (σ : gs_S) (x1 : Int32) : Prop := gG l v lyC 42 me_A_population n (qI v lyC 42 post) 0 [(0, .ref (v.2.2 0)), (1, .int x1)] [] σ
abbrev G_A_population_21 (l : Launch) (v : gs_V) (n : Nat) (post : Int32 → gs_S → Prop) (σ : gs_S) : Prop := gG l v lyC 42 me_A_population n (qI v lyC 42 post) 21 [] [] σ
set_option maxRecDepth 20000 in
set_option maxHeartbeats 1000000 in
theorem T_A_population_0 {l : Launch} {v : gs_V} {n : Nat} {post : Int32 → gs_S → Prop} {σ : gs_S} {x1 : Int32} (h : (((σ.1 4 5) = 0 → G_A_population_21 l v n post σ) ∧ (¬ (σ.1 4 5) = 0 → gM l v lyC 42 me_R_hasState n [.ref (v.2.2 4), .int x1] σ (qI v lyC 42 (fun r1 σ1 => ((¬ r1 = 0 → gM l v lyC 42 me_C_countOf n [.ref (v.2.2 10), .int x1] σ1 (qI v lyC 42 (fun r2 σ2 => post r2 σ2))) ∧ (r1 = 0 → G_A_population_21 l v n post σ1))))))) : G_A_population_0 l v n post σ x1 := by
  refine g_aload_n d_A_population_0 0 rfl rfl ?_
  refine g_getV (x := .ref (v.2.2 4)) d_A_population_1 fl_A_19 (by decide) rfl rfl rfl ?_
  refine g_getV (x := .int (σ.1 4 5)) d_A_population_4 fl_A_93 (by decide) rfl rfl rfl ?_
  refine g_if_eq (tgt := 21) d_A_population_7 rfl (fun hc => ?_) (fun hc => ?_)
  · have h := h.1 hc
    exact g_sub [] rfl h
  · have h := h.2 hc
    refine g_aload_n d_A_population_10 0 rfl rfl ?_
    refine g_getV (x := .ref (v.2.2 4)) d_A_population_11 fl_A_19 (by decide) rfl rfl rfl ?_
    refine g_iload_n d_A_population_14 1 rfl rfl ?_
    refine g_callVi (av := [.int x1]) (rest := []) d_A_population_15 Y_R_hasState lk_A_115 (by decide) rfl rfl I_R_hasState rfl (Nat.le_of_ble_eq_true rfl) rfl h (fun r1 σ1 h => ?_)
    refine g_if_ne (tgt := 23) d_A_population_18 rfl (fun hc => ?_) (fun hc => ?_)
    · have h := h.1 hc
      refine g_aload_n d_A_population_23 0 rfl rfl ?_
      refine g_getV (x := .ref (v.2.2 10)) d_A_population_24 fl_A_28 (by decide) rfl rfl rfl ?_
      refine g_iload_n d_A_population_27 1 rfl rfl ?_
      refine g_callVi (av := [.int x1]) (rest := []) d_A_population_28 Y_C_countOf lk_A_124 (by decide) rfl rfl I_C_countOf rfl (Nat.le_of_ble_eq_true rfl) rfl h (fun r2 σ2 h => ?_)
      exact g_iret d_A_population_31 rfl h
    · have h := h.2 hc
      exact g_sub [] rfl h
set_option maxRecDepth 20000 in
set_option maxHeartbeats 1000000 in
theorem T_A_population_21 {l : Launch} {v : gs_V} {n : Nat} {post : Int32 → gs_S → Prop} {σ : gs_S} (h : post ((-1)) σ) : G_A_population_21 l v n post σ := by
  refine g_iconst d_A_population_21 (x := (-1)) (by decide) ?_
  exact g_iret d_A_population_22 rfl h
theorem E_A_population {l : Launch} {v : gs_V} {n : Nat} {post : Int32 → gs_S → Prop} {σ : gs_S} {x1 : Int32} (h : G_A_population_0 l v n post σ x1) : gM l v lyC 42 me_A_population (n + 1) [.ref (v.2.2 0), .int x1] σ (qI v lyC 42 post) := gM_of (by decide +kernel) (Nat.le_of_ble_eq_true rfl) h
/-! LineRules.power -/
theorem d_A_power_0 : decode me_A_power.2.1 0 = .ok (.iconst 1, 1) := by decide +kernel
theorem d_A_power_1 : decode me_A_power.2.1 1 = .ok (.istore_n 2, 1) := by decide +kernel
theorem d_A_power_2 : decode me_A_power.2.1 2 = .ok (.iconst 0, 1) := by decide +kernel
theorem d_A_power_3 : decode me_A_power.2.1 3 = .ok (.istore_n 3, 1) := by decide +kernel
theorem d_A_power_4 : decode me_A_power.2.1 4 = .ok (.iload_n 3, 1) := by decide +kernel
theorem d_A_power_5 : decode me_A_power.2.1 5 = .ok (.iload_n 1, 1) := by decide +kernel
theorem d_A_power_6 : decode me_A_power.2.1 6 = .ok (.if_icmp .ge 13, 3) := by decide +kernel
theorem d_A_power_9 : decode me_A_power.2.1 9 = .ok (.iload_n 2, 1) := by decide +kernel
theorem d_A_power_10 : decode me_A_power.2.1 10 = .ok (.iload_n 0, 1) := by decide +kernel
theorem d_A_power_11 : decode me_A_power.2.1 11 = .ok (.imul, 1) := by decide +kernel
theorem d_A_power_12 : decode me_A_power.2.1 12 = .ok (.istore_n 2, 1) := by decide +kernel
theorem d_A_power_13 : decode me_A_power.2.1 13 = .ok (.iinc 3 1, 3) := by decide +kernel
theorem d_A_power_16 : decode me_A_power.2.1 16 = .ok (.goto (-12), 3) := by decide +kernel
theorem d_A_power_19 : decode me_A_power.2.1 19 = .ok (.iload_n 2, 1) := by decide +kernel
theorem d_A_power_20 : decode me_A_power.2.1 20 = .ok (.ireturn, 1) := by decide +kernel
abbrev G_A_power_0 (l : Launch) (v : gs_V) (n : Nat) (post : Int32 → gs_S → Prop) (σ : gs_S) (x0 : Int32) (x1 : Int32) : Prop := gG l v lyC 42 me_A_power n (qI v lyC 42 post) 0 [(0, .int x0), (1, .int x1)] [] σ
abbrev G_A_power_4 (l : Launch) (v : gs_V) (n : Nat) (post : Int32 → gs_S → Prop) (σ : gs_S) (x0 : Int32) (x1 : Int32) (x2 : Int32) (x3 : Int32) : Prop := gG l v lyC 42 me_A_power n (qI v lyC 42 post) 4 [(0, .int x0), (1, .int x1), (2, .int x2), (3, .int x3)] [] σ
set_option maxRecDepth 20000 in
set_option maxHeartbeats 1000000 in
theorem T_A_power_0 {l : Launch} {v : gs_V} {n : Nat} {post : Int32 → gs_S → Prop} {σ : gs_S} {x0 : Int32} {x1 : Int32} (h : G_A_power_4 l v n post σ x0 x1 1 0) : G_A_power_0 l v n post σ x0 x1 := by
  refine g_iconst d_A_power_0 (x := 1) (by decide) ?_
  refine g_istore_n (L' := [(2, .int 1), (0, .int x0), (1, .int x1)]) d_A_power_1 rfl (by decide) rfl ?_
  refine g_iconst d_A_power_2 (x := 0) (by decide) ?_
  refine g_istore_n (L' := [(3, .int 0), (2, .int 1), (0, .int x0), (1, .int x1)]) d_A_power_3 rfl (by decide) rfl ?_
  exact g_sub [2, 3, 1, 0] rfl h
set_option maxRecDepth 20000 in
set_option maxHeartbeats 1000000 in
theorem T_A_power_4 {l : Launch} {v : gs_V} {n : Nat} {post : Int32 → gs_S → Prop} {σ : gs_S} {x0 : Int32} {x1 : Int32} {x2 : Int32} {x3 : Int32} (h : ((x1 ≤ x3 → post x2 σ) ∧ (¬ x1 ≤ x3 → G_A_power_4 l v n post σ x0 x1 (x2 * x0) (x3 + 1)))) : G_A_power_4 l v n post σ x0 x1 x2 x3 := by
  refine g_iload_n d_A_power_4 3 rfl rfl ?_
  refine g_iload_n d_A_power_5 1 rfl rfl ?_
  refine g_icmp_ge (tgt := 19) d_A_power_6 rfl (fun hc => ?_) (fun hc => ?_)
  · have h := h.1 hc
    refine g_iload_n d_A_power_19 2 rfl rfl ?_
    exact g_iret d_A_power_20 rfl h
  · have h := h.2 hc
    refine g_iload_n d_A_power_9 2 rfl rfl ?_
    refine g_iload_n d_A_power_10 0 rfl rfl ?_
    refine g_imul d_A_power_11 ?_
    refine g_istore_n (L' := [(2, .int (x2 * x0)), (0, .int x0), (1, .int x1), (3, .int x3)]) d_A_power_12 rfl (by decide) rfl ?_
    refine g_iinc (L' := [(3, .int (x3 + 1)), (2, .int (x2 * x0)), (0, .int x0), (1, .int x1)]) d_A_power_13 3 rfl (by rfl) (by decide) rfl ?_
    refine g_goto (tgt := 4) d_A_power_16 rfl ?_
    exact g_sub [2, 3, 1, 0] rfl h
theorem E_A_power {l : Launch} {v : gs_V} {n : Nat} {post : Int32 → gs_S → Prop} {σ : gs_S} {x0 : Int32} {x1 : Int32} (h : G_A_power_0 l v n post σ x0 x1) : gM l v lyC 42 me_A_power (n + 1) [.int x0, .int x1] σ (qI v lyC 42 post) := gM_of (by decide +kernel) (Nat.le_of_ble_eq_true rfl) h
/-! LineRules.ring -/
theorem d_A_ring_0 : decode me_A_ring.2.1 0 = .ok (.iload_n 1, 1) := by decide +kernel
theorem d_A_ring_1 : decode me_A_ring.2.1 1 = .ok (.iconst 1, 1) := by decide +kernel
theorem d_A_ring_2 : decode me_A_ring.2.1 2 = .ok (.if_icmp .lt 9, 3) := by decide +kernel
theorem d_A_ring_5 : decode me_A_ring.2.1 5 = .ok (.iload_n 1, 1) := by decide +kernel
theorem d_A_ring_6 : decode me_A_ring.2.1 6 = .ok (.bipush 64, 2) := by decide +kernel
theorem d_A_ring_8 : decode me_A_ring.2.1 8 = .ok (.if_icmp .le 5, 3) := by decide +kernel
theorem d_A_ring_11 : decode me_A_ring.2.1 11 = .ok (.iconst (-1), 1) := by decide +kernel
theorem d_A_ring_12 : decode me_A_ring.2.1 12 = .ok (.ireturn, 1) := by decide +kernel
theorem d_A_ring_13 : decode me_A_ring.2.1 13 = .ok (.aload_n 0, 1) := by decide +kernel
theorem d_A_ring_14 : decode me_A_ring.2.1 14 = .ok (.getfield 28, 3) := by decide +kernel
theorem d_A_ring_17 : decode me_A_ring.2.1 17 = .ok (.getfield 104, 3) := by decide +kernel
theorem d_A_ring_20 : decode me_A_ring.2.1 20 = .ok (.istore_n 2, 1) := by decide +kernel
theorem d_A_ring_21 : decode me_A_ring.2.1 21 = .ok (.aload_n 0, 1) := by decide +kernel
theorem d_A_ring_22 : decode me_A_ring.2.1 22 = .ok (.getfield 28, 3) := by decide +kernel
theorem d_A_ring_25 : decode me_A_ring.2.1 25 = .ok (.iload_n 1, 1) := by decide +kernel
theorem d_A_ring_26 : decode me_A_ring.2.1 26 = .ok (.invokevirtual 107, 3) := by decide +kernel
theorem d_A_ring_29 : decode me_A_ring.2.1 29 = .ok (.aload_n 0, 1) := by decide +kernel
theorem d_A_ring_30 : decode me_A_ring.2.1 30 = .ok (.getfield 67, 3) := by decide +kernel
theorem d_A_ring_33 : decode me_A_ring.2.1 33 = .ok (.invokevirtual 88, 3) := by decide +kernel
theorem d_A_ring_36 : decode me_A_ring.2.1 36 = .ok (.iload_n 2, 1) := by decide +kernel
theorem d_A_ring_37 : decode me_A_ring.2.1 37 = .ok (.ireturn, 1) := by decide +kernel
abbrev G_A_ring_0 (l : Launch) (v : gs_V) (n : Nat) (post : Int32 → gs_S → Prop) (σ : gs_S) (x1 : Int32) : Prop := gG l v lyC 42 me_A_ring n (qI v lyC 42 post) 0 [(0, .ref (v.2.2 0)), (1, .int x1)] [] σ
abbrev G_A_ring_11 (l : Launch) (v : gs_V) (n : Nat) (post : Int32 → gs_S → Prop) (σ : gs_S) : Prop := gG l v lyC 42 me_A_ring n (qI v lyC 42 post) 11 [] [] σ
set_option maxRecDepth 20000 in
set_option maxHeartbeats 1000000 in
theorem T_A_ring_0 {l : Launch} {v : gs_V} {n : Nat} {post : Int32 → gs_S → Prop} {σ : gs_S} {x1 : Int32} (h : ((x1 < 1 → G_A_ring_11 l v n post σ) ∧ (¬ x1 < 1 → ((x1 ≤ 64 → gM l v lyC 42 me_C_resize n [.ref (v.2.2 10), .int x1] σ (qV v lyC 42 (fun σ1 => gM l v lyC 42 me_H_forget n [.ref (v.2.2 37)] σ1 (qV v lyC 42 (fun σ2 => post (σ.1 10 1) σ2))))) ∧ (¬ x1 ≤ 64 → G_A_ring_11 l v n post σ))))) : G_A_ring_0 l v n post σ x1 := by
  refine g_iload_n d_A_ring_0 1 rfl rfl ?_
  refine g_iconst d_A_ring_1 (x := 1) (by decide) ?_
  refine g_icmp_lt (tgt := 11) d_A_ring_2 rfl (fun hc => ?_) (fun hc => ?_)
  · have h := h.1 hc
    exact g_sub [] rfl h
  · have h := h.2 hc
    refine g_iload_n d_A_ring_5 1 rfl rfl ?_
    refine g_bipush d_A_ring_6 (x := 64) (by decide) ?_
    refine g_icmp_le (tgt := 13) d_A_ring_8 rfl (fun hc => ?_) (fun hc => ?_)
    · have h := h.1 hc
      refine g_aload_n d_A_ring_13 0 rfl rfl ?_
      refine g_getV (x := .ref (v.2.2 10)) d_A_ring_14 fl_A_28 (by decide) rfl rfl rfl ?_
      refine g_getV (x := .int (σ.1 10 1)) d_A_ring_17 fl_A_104 (by decide) rfl rfl rfl ?_
      refine g_istore_n (L' := [(2, .int (σ.1 10 1)), (0, .ref (v.2.2 0)), (1, .int x1)]) d_A_ring_20 rfl (by decide) rfl ?_
      refine g_aload_n d_A_ring_21 1 rfl rfl ?_
      refine g_getV (x := .ref (v.2.2 10)) d_A_ring_22 fl_A_28 (by decide) rfl rfl rfl ?_
      refine g_iload_n d_A_ring_25 2 rfl rfl ?_
      refine g_callVv (av := [.int x1]) (rest := []) d_A_ring_26 Y_C_resize lk_A_107 (by decide) rfl rfl I_C_resize rfl (Nat.le_of_ble_eq_true rfl) rfl h (fun σ1 h => ?_)
      refine g_aload_n d_A_ring_29 1 rfl rfl ?_
      refine g_getV (x := .ref (v.2.2 37)) d_A_ring_30 fl_A_67 (by decide) rfl rfl rfl ?_
      refine g_callVv (av := []) (rest := []) d_A_ring_33 Y_H_forget lk_A_88 (by decide) rfl rfl I_H_forget rfl (Nat.le_of_ble_eq_true rfl) rfl h (fun σ2 h => ?_)
      refine g_iload_n d_A_ring_36 0 rfl rfl ?_
      exact g_iret d_A_ring_37 rfl h
    · have h := h.2 hc
      exact g_sub [] rfl h
set_option maxRecDepth 20000 in
set_option maxHeartbeats 1000000 in
theorem T_A_ring_11 {l : Launch} {v : gs_V} {n : Nat} {post : Int32 → gs_S → Prop} {σ : gs_S} (h : post ((-1)) σ) : G_A_ring_11 l v n post σ := by
  refine g_iconst d_A_ring_11 (x := (-1)) (by decide) ?_
  exact g_iret d_A_ring_12 rfl h
theorem E_A_ring {l : Launch} {v : gs_V} {n : Nat} {post : Int32 → gs_S → Prop} {σ : gs_S} {x1 : Int32} (h : G_A_ring_0 l v n post σ x1) : gM l v lyC 42 me_A_ring (n + 1) [.ref (v.2.2 0), .int x1] σ (qI v lyC 42 post) := gM_of (by decide +kernel) (Nat.le_of_ble_eq_true rfl) h
/-! LineRules.rule -/
theorem d_A_rule_0 : decode me_A_rule.2.1 0 = .ok (.aload_n 0, 1) := by decide +kernel
theorem d_A_rule_1 : decode me_A_rule.2.1 1 = .ok (.getfield 10, 3) := by decide +kernel
theorem d_A_rule_4 : decode me_A_rule.2.1 4 = .ok (.aload_n 0, 1) := by decide +kernel
theorem d_A_rule_5 : decode me_A_rule.2.1 5 = .ok (.getfield 19, 3) := by decide +kernel
theorem d_A_rule_8 : decode me_A_rule.2.1 8 = .ok (.invokevirtual 75, 3) := by decide +kernel
theorem d_A_rule_11 : decode me_A_rule.2.1 11 = .ok (.istore_n 1, 1) := by decide +kernel
theorem d_A_rule_12 : decode me_A_rule.2.1 12 = .ok (.iload_n 1, 1) := by decide +kernel
theorem d_A_rule_13 : decode me_A_rule.2.1 13 = .ok (.ifCond .lt 8, 3) := by decide +kernel
theorem d_A_rule_16 : decode me_A_rule.2.1 16 = .ok (.bipush (-10), 2) := by decide +kernel
theorem d_A_rule_18 : decode me_A_rule.2.1 18 = .ok (.iload_n 1, 1) := by decide +kernel
theorem d_A_rule_19 : decode me_A_rule.2.1 19 = .ok (.isub, 1) := by decide +kernel
theorem d_A_rule_20 : decode me_A_rule.2.1 20 = .ok (.ireturn, 1) := by decide +kernel
theorem d_A_rule_21 : decode me_A_rule.2.1 21 = .ok (.aload_n 0, 1) := by decide +kernel
theorem d_A_rule_22 : decode me_A_rule.2.1 22 = .ok (.getfield 28, 3) := by decide +kernel
theorem d_A_rule_25 : decode me_A_rule.2.1 25 = .ok (.invokevirtual 79, 3) := by decide +kernel
theorem d_A_rule_28 : decode me_A_rule.2.1 28 = .ok (.aload_n 0, 1) := by decide +kernel
theorem d_A_rule_29 : decode me_A_rule.2.1 29 = .ok (.getfield 35, 3) := by decide +kernel
theorem d_A_rule_32 : decode me_A_rule.2.1 32 = .ok (.invokevirtual 82, 3) := by decide +kernel
theorem d_A_rule_35 : decode me_A_rule.2.1 35 = .ok (.aload_n 0, 1) := by decide +kernel
theorem d_A_rule_36 : decode me_A_rule.2.1 36 = .ok (.getfield 44, 3) := by decide +kernel
theorem d_A_rule_39 : decode me_A_rule.2.1 39 = .ok (.invokevirtual 85, 3) := by decide +kernel
theorem d_A_rule_42 : decode me_A_rule.2.1 42 = .ok (.aload_n 0, 1) := by decide +kernel
theorem d_A_rule_43 : decode me_A_rule.2.1 43 = .ok (.getfield 51, 3) := by decide +kernel
theorem d_A_rule_46 : decode me_A_rule.2.1 46 = .ok (.invokevirtual 86, 3) := by decide +kernel
theorem d_A_rule_49 : decode me_A_rule.2.1 49 = .ok (.aload_n 0, 1) := by decide +kernel
theorem d_A_rule_50 : decode me_A_rule.2.1 50 = .ok (.getfield 58, 3) := by decide +kernel
theorem d_A_rule_53 : decode me_A_rule.2.1 53 = .ok (.invokevirtual 87, 3) := by decide +kernel
theorem d_A_rule_56 : decode me_A_rule.2.1 56 = .ok (.aload_n 0, 1) := by decide +kernel
theorem d_A_rule_57 : decode me_A_rule.2.1 57 = .ok (.getfield 67, 3) := by decide +kernel
theorem d_A_rule_60 : decode me_A_rule.2.1 60 = .ok (.invokevirtual 88, 3) := by decide +kernel
theorem d_A_rule_63 : decode me_A_rule.2.1 63 = .ok (.aload_n 0, 1) := by decide +kernel
theorem d_A_rule_64 : decode me_A_rule.2.1 64 = .ok (.getfield 19, 3) := by decide +kernel
theorem d_A_rule_67 : decode me_A_rule.2.1 67 = .ok (.getfield 89, 3) := by decide +kernel
theorem d_A_rule_70 : decode me_A_rule.2.1 70 = .ok (.ireturn, 1) := by decide +kernel
abbrev G_A_rule_0 (l : Launch) (v : gs_V) (n : Nat) (post : Int32 → gs_S → Prop) (σ : gs_S) : Prop := gG l v lyC 42 me_A_rule n (qI v lyC 42 post) 0 [(0, .ref (v.2.2 0))] [] σ
set_option maxRecDepth 20000 in
set_option maxHeartbeats 1000000 in
theorem T_A_rule_0 {l : Launch} {v : gs_V} {n : Nat} {post : Int32 → gs_S → Prop} {σ : gs_S} (h : gM l v lyC 42 me_T_readInto n [.ref (v.2.2 1), .ref (v.2.2 4)] σ (qI v lyC 42 (fun r1 σ1 => ((r1 < 0 → gM l v lyC 42 me_C_clear n [.ref (v.2.2 10)] σ1 (qV v lyC 42 (fun σ2 => gM l v lyC 42 me_P_forget n [.ref (v.2.2 14)] σ2 (qV v lyC 42 (fun σ3 => gM l v lyC 42 me_V_forget n [.ref (v.2.2 17)] σ3 (qV v lyC 42 (fun σ4 => gM l v lyC 42 me_W_forget n [.ref (v.2.2 19)] σ4 (qV v lyC 42 (fun σ5 => gM l v lyC 42 me_O_forget n [.ref (v.2.2 31)] σ5 (qV v lyC 42 (fun σ6 => gM l v lyC 42 me_H_forget n [.ref (v.2.2 37)] σ6 (qV v lyC 42 (fun σ7 => post (σ7.1 4 6) σ7))))))))))))) ∧ (¬ r1 < 0 → post (((-10)) - r1) σ1))))) : G_A_rule_0 l v n post σ := by
  refine g_aload_n d_A_rule_0 0 rfl rfl ?_
  refine g_getV (x := .ref (v.2.2 1)) d_A_rule_1 fl_A_10 (by decide) rfl rfl rfl ?_
  refine g_aload_n d_A_rule_4 0 rfl rfl ?_
  refine g_getV (x := .ref (v.2.2 4)) d_A_rule_5 fl_A_19 (by decide) rfl rfl rfl ?_
  refine g_callVi (av := [.ref (v.2.2 4)]) (rest := []) d_A_rule_8 Y_T_readInto lk_A_75 (by decide) rfl rfl I_T_readInto rfl (Nat.le_of_ble_eq_true rfl) rfl h (fun r1 σ1 h => ?_)
  refine g_istore_n (L' := [(1, .int r1), (0, .ref (v.2.2 0))]) d_A_rule_11 rfl (by decide) rfl ?_
  refine g_iload_n d_A_rule_12 0 rfl rfl ?_
  refine g_if_lt (tgt := 21) d_A_rule_13 rfl (fun hc => ?_) (fun hc => ?_)
  · have h := h.1 hc
    refine g_aload_n d_A_rule_21 1 rfl rfl ?_
    refine g_getV (x := .ref (v.2.2 10)) d_A_rule_22 fl_A_28 (by decide) rfl rfl rfl ?_
    refine g_callVv (av := []) (rest := []) d_A_rule_25 Y_C_clear lk_A_79 (by decide) rfl rfl I_C_clear rfl (Nat.le_of_ble_eq_true rfl) rfl h (fun σ2 h => ?_)
    refine g_aload_n d_A_rule_28 1 rfl rfl ?_
    refine g_getV (x := .ref (v.2.2 14)) d_A_rule_29 fl_A_35 (by decide) rfl rfl rfl ?_
    refine g_callVv (av := []) (rest := []) d_A_rule_32 Y_P_forget lk_A_82 (by decide) rfl rfl I_P_forget rfl (Nat.le_of_ble_eq_true rfl) rfl h (fun σ3 h => ?_)
    refine g_aload_n d_A_rule_35 1 rfl rfl ?_
    refine g_getV (x := .ref (v.2.2 17)) d_A_rule_36 fl_A_44 (by decide) rfl rfl rfl ?_
    refine g_callVv (av := []) (rest := []) d_A_rule_39 Y_V_forget lk_A_85 (by decide) rfl rfl I_V_forget rfl (Nat.le_of_ble_eq_true rfl) rfl h (fun σ4 h => ?_)
    refine g_aload_n d_A_rule_42 1 rfl rfl ?_
    refine g_getV (x := .ref (v.2.2 19)) d_A_rule_43 fl_A_51 (by decide) rfl rfl rfl ?_
    refine g_callVv (av := []) (rest := []) d_A_rule_46 Y_W_forget lk_A_86 (by decide) rfl rfl I_W_forget rfl (Nat.le_of_ble_eq_true rfl) rfl h (fun σ5 h => ?_)
    refine g_aload_n d_A_rule_49 1 rfl rfl ?_
    refine g_getV (x := .ref (v.2.2 31)) d_A_rule_50 fl_A_58 (by decide) rfl rfl rfl ?_
    refine g_callVv (av := []) (rest := []) d_A_rule_53 Y_O_forget lk_A_87 (by decide) rfl rfl I_O_forget rfl (Nat.le_of_ble_eq_true rfl) rfl h (fun σ6 h => ?_)
    refine g_aload_n d_A_rule_56 1 rfl rfl ?_
    refine g_getV (x := .ref (v.2.2 37)) d_A_rule_57 fl_A_67 (by decide) rfl rfl rfl ?_
    refine g_callVv (av := []) (rest := []) d_A_rule_60 Y_H_forget lk_A_88 (by decide) rfl rfl I_H_forget rfl (Nat.le_of_ble_eq_true rfl) rfl h (fun σ7 h => ?_)
    refine g_aload_n d_A_rule_63 1 rfl rfl ?_
    refine g_getV (x := .ref (v.2.2 4)) d_A_rule_64 fl_A_19 (by decide) rfl rfl rfl ?_
    refine g_getV (x := .int (σ7.1 4 6)) d_A_rule_67 fl_A_89 (by decide) rfl rfl rfl ?_
    exact g_iret d_A_rule_70 rfl h
  · have h := h.2 hc
    refine g_bipush d_A_rule_16 (x := (-10)) (by decide) ?_
    refine g_iload_n d_A_rule_18 0 rfl rfl ?_
    refine g_isub d_A_rule_19 ?_
    exact g_iret d_A_rule_20 rfl h
theorem E_A_rule {l : Launch} {v : gs_V} {n : Nat} {post : Int32 → gs_S → Prop} {σ : gs_S} (h : G_A_rule_0 l v n post σ) : gM l v lyC 42 me_A_rule (n + 1) [.ref (v.2.2 0)] σ (qI v lyC 42 post) := gM_of (by decide +kernel) (Nat.le_of_ble_eq_true rfl) h
/-! LineRules.set -/
theorem d_A_set_0 : decode me_A_set.2.1 0 = .ok (.aload_n 0, 1) := by decide +kernel
theorem d_A_set_1 : decode me_A_set.2.1 1 = .ok (.getfield 19, 3) := by decide +kernel
theorem d_A_set_4 : decode me_A_set.2.1 4 = .ok (.getfield 93, 3) := by decide +kernel
theorem d_A_set_7 : decode me_A_set.2.1 7 = .ok (.ifCond .eq 25, 3) := by decide +kernel
theorem d_A_set_10 : decode me_A_set.2.1 10 = .ok (.aload_n 0, 1) := by decide +kernel
theorem d_A_set_11 : decode me_A_set.2.1 11 = .ok (.getfield 28, 3) := by decide +kernel
theorem d_A_set_14 : decode me_A_set.2.1 14 = .ok (.iload_n 1, 1) := by decide +kernel
theorem d_A_set_15 : decode me_A_set.2.1 15 = .ok (.invokevirtual 111, 3) := by decide +kernel
theorem d_A_set_18 : decode me_A_set.2.1 18 = .ok (.ifCond .eq 14, 3) := by decide +kernel
theorem d_A_set_21 : decode me_A_set.2.1 21 = .ok (.aload_n 0, 1) := by decide +kernel
theorem d_A_set_22 : decode me_A_set.2.1 22 = .ok (.getfield 19, 3) := by decide +kernel
theorem d_A_set_25 : decode me_A_set.2.1 25 = .ok (.iload_n 2, 1) := by decide +kernel
theorem d_A_set_26 : decode me_A_set.2.1 26 = .ok (.invokevirtual 115, 3) := by decide +kernel
theorem d_A_set_29 : decode me_A_set.2.1 29 = .ok (.ifCond .ne 5, 3) := by decide +kernel
theorem d_A_set_32 : decode me_A_set.2.1 32 = .ok (.iconst (-1), 1) := by decide +kernel
theorem d_A_set_33 : decode me_A_set.2.1 33 = .ok (.ireturn, 1) := by decide +kernel
theorem d_A_set_34 : decode me_A_set.2.1 34 = .ok (.aload_n 0, 1) := by decide +kernel
theorem d_A_set_35 : decode me_A_set.2.1 35 = .ok (.getfield 28, 3) := by decide +kernel
theorem d_A_set_38 : decode me_A_set.2.1 38 = .ok (.getfield 118, 3) := by decide +kernel
theorem d_A_set_41 : decode me_A_set.2.1 41 = .ok (.iload_n 1, 1) := by decide +kernel
theorem d_A_set_42 : decode me_A_set.2.1 42 = .ok (.iaload, 1) := by decide +kernel
theorem d_A_set_43 : decode me_A_set.2.1 43 = .ok (.istore_n 3, 1) := by decide +kernel
theorem d_A_set_44 : decode me_A_set.2.1 44 = .ok (.aload_n 0, 1) := by decide +kernel
theorem d_A_set_45 : decode me_A_set.2.1 45 = .ok (.getfield 28, 3) := by decide +kernel
theorem d_A_set_48 : decode me_A_set.2.1 48 = .ok (.getfield 118, 3) := by decide +kernel
theorem d_A_set_51 : decode me_A_set.2.1 51 = .ok (.iload_n 1, 1) := by decide +kernel
theorem d_A_set_52 : decode me_A_set.2.1 52 = .ok (.iload_n 2, 1) := by decide +kernel
theorem d_A_set_53 : decode me_A_set.2.1 53 = .ok (.iastore, 1) := by decide +kernel
theorem d_A_set_54 : decode me_A_set.2.1 54 = .ok (.aload_n 0, 1) := by decide +kernel
theorem d_A_set_55 : decode me_A_set.2.1 55 = .ok (.getfield 67, 3) := by decide +kernel
theorem d_A_set_58 : decode me_A_set.2.1 58 = .ok (.invokevirtual 88, 3) := by decide +kernel
theorem d_A_set_61 : decode me_A_set.2.1 61 = .ok (.iload_n 3, 1) := by decide +kernel
theorem d_A_set_62 : decode me_A_set.2.1 62 = .ok (.ireturn, 1) := by decide +kernel
abbrev G_A_set_0 (l : Launch) (v : gs_V) (n : Nat) (post : Int32 → gs_S → Prop) (σ : gs_S) (x1 : Int32) (x2 : Int32) : Prop := gG l v lyC 42 me_A_set n (qI v lyC 42 post) 0 [(0, .ref (v.2.2 0)), (1, .int x1), (2, .int x2)] [] σ
abbrev G_A_set_32 (l : Launch) (v : gs_V) (n : Nat) (post : Int32 → gs_S → Prop) (σ : gs_S) : Prop := gG l v lyC 42 me_A_set n (qI v lyC 42 post) 32 [] [] σ
set_option maxRecDepth 20000 in
set_option maxHeartbeats 1000000 in
theorem T_A_set_0 {l : Launch} {v : gs_V} {n : Nat} {post : Int32 → gs_S → Prop} {σ : gs_S} {x1 : Int32} {x2 : Int32} (h : (((σ.1 4 5) = 0 → G_A_set_32 l v n post σ) ∧ (¬ (σ.1 4 5) = 0 → gM l v lyC 42 me_C_has n [.ref (v.2.2 10), .int x1] σ (qI v lyC 42 (fun r1 σ1 => ((r1 = 0 → G_A_set_32 l v n post σ1) ∧ (¬ r1 = 0 → gM l v lyC 42 me_R_hasState n [.ref (v.2.2 4), .int x2] σ1 (qI v lyC 42 (fun r2 σ2 => ((¬ r2 = 0 → vp_in x1 64 ∧ vp_in x1 64 ∧ gM l v lyC 42 me_H_forget n [.ref (v.2.2 37)] (gs_pI σ2 11 x1.toNatClampNeg x2) (qV v lyC 42 (fun σ5 => post (σ2.1 11 x1.toNatClampNeg) σ5))) ∧ (r2 = 0 → G_A_set_32 l v n post σ2))))))))))) : G_A_set_0 l v n post σ x1 x2 := by
  refine g_aload_n d_A_set_0 0 rfl rfl ?_
  refine g_getV (x := .ref (v.2.2 4)) d_A_set_1 fl_A_19 (by decide) rfl rfl rfl ?_
  refine g_getV (x := .int (σ.1 4 5)) d_A_set_4 fl_A_93 (by decide) rfl rfl rfl ?_
  refine g_if_eq (tgt := 32) d_A_set_7 rfl (fun hc => ?_) (fun hc => ?_)
  · have h := h.1 hc
    exact g_sub [] rfl h
  · have h := h.2 hc
    refine g_aload_n d_A_set_10 0 rfl rfl ?_
    refine g_getV (x := .ref (v.2.2 10)) d_A_set_11 fl_A_28 (by decide) rfl rfl rfl ?_
    refine g_iload_n d_A_set_14 1 rfl rfl ?_
    refine g_callVi (av := [.int x1]) (rest := []) d_A_set_15 Y_C_has lk_A_111 (by decide) rfl rfl I_C_has rfl (Nat.le_of_ble_eq_true rfl) rfl h (fun r1 σ1 h => ?_)
    refine g_if_eq (tgt := 32) d_A_set_18 rfl (fun hc => ?_) (fun hc => ?_)
    · have h := h.1 hc
      exact g_sub [] rfl h
    · have h := h.2 hc
      refine g_aload_n d_A_set_21 0 rfl rfl ?_
      refine g_getV (x := .ref (v.2.2 4)) d_A_set_22 fl_A_19 (by decide) rfl rfl rfl ?_
      refine g_iload_n d_A_set_25 2 rfl rfl ?_
      refine g_callVi (av := [.int x2]) (rest := []) d_A_set_26 Y_R_hasState lk_A_115 (by decide) rfl rfl I_R_hasState rfl (Nat.le_of_ble_eq_true rfl) rfl h (fun r2 σ2 h => ?_)
      refine g_if_ne (tgt := 34) d_A_set_29 rfl (fun hc => ?_) (fun hc => ?_)
      · have h := h.1 hc
        refine g_aload_n d_A_set_34 0 rfl rfl ?_
        refine g_getV (x := .ref (v.2.2 10)) d_A_set_35 fl_A_28 (by decide) rfl rfl rfl ?_
        refine g_getV (x := .ref (v.2.2 11)) d_A_set_38 fl_A_118 (by decide) rfl rfl rfl ?_
        refine g_iload_n d_A_set_41 1 rfl rfl ?_
        have hi3 := h.1
        have h := h.2
        refine g_iald (x := σ2.1 11 x1.toNatClampNeg) d_A_set_42 (by decide) rfl hi3 rfl ?_
        refine g_istore_n (L' := [(3, .int (σ2.1 11 x1.toNatClampNeg)), (0, .ref (v.2.2 0)), (1, .int x1), (2, .int x2)]) d_A_set_43 rfl (by decide) rfl ?_
        refine g_aload_n d_A_set_44 1 rfl rfl ?_
        refine g_getV (x := .ref (v.2.2 10)) d_A_set_45 fl_A_28 (by decide) rfl rfl rfl ?_
        refine g_getV (x := .ref (v.2.2 11)) d_A_set_48 fl_A_118 (by decide) rfl rfl rfl ?_
        refine g_iload_n d_A_set_51 2 rfl rfl ?_
        refine g_iload_n d_A_set_52 3 rfl rfl ?_
        have hi4 := h.1
        have h := h.2
        refine g_iast d_A_set_53 (by decide) rfl hi4 ?_
        refine g_aload_n d_A_set_54 1 rfl rfl ?_
        refine g_getV (x := .ref (v.2.2 37)) d_A_set_55 fl_A_67 (by decide) rfl rfl rfl ?_
        refine g_callVv (av := []) (rest := []) d_A_set_58 Y_H_forget lk_A_88 (by decide) rfl rfl I_H_forget rfl (Nat.le_of_ble_eq_true rfl) rfl h (fun σ5 h => ?_)
        refine g_iload_n d_A_set_61 0 rfl rfl ?_
        exact g_iret d_A_set_62 rfl h
      · have h := h.2 hc
        exact g_sub [] rfl h
set_option maxRecDepth 20000 in
set_option maxHeartbeats 1000000 in
theorem T_A_set_32 {l : Launch} {v : gs_V} {n : Nat} {post : Int32 → gs_S → Prop} {σ : gs_S} (h : post ((-1)) σ) : G_A_set_32 l v n post σ := by
  refine g_iconst d_A_set_32 (x := (-1)) (by decide) ?_
  exact g_iret d_A_set_33 rfl h
theorem E_A_set {l : Launch} {v : gs_V} {n : Nat} {post : Int32 → gs_S → Prop} {σ : gs_S} {x1 : Int32} {x2 : Int32} (h : G_A_set_0 l v n post σ x1 x2) : gM l v lyC 42 me_A_set (n + 1) [.ref (v.2.2 0), .int x1, .int x2] σ (qI v lyC 42 post) := gM_of (by decide +kernel) (Nat.le_of_ble_eq_true rfl) h
/-! LineRules.step -/
theorem d_A_step_0 : decode me_A_step.2.1 0 = .ok (.aload_n 0, 1) := by decide +kernel
theorem d_A_step_1 : decode me_A_step.2.1 1 = .ok (.getfield 19, 3) := by decide +kernel
theorem d_A_step_4 : decode me_A_step.2.1 4 = .ok (.getfield 93, 3) := by decide +kernel
theorem d_A_step_7 : decode me_A_step.2.1 7 = .ok (.ifCond .eq 14, 3) := by decide +kernel
theorem d_A_step_10 : decode me_A_step.2.1 10 = .ok (.iload_n 1, 1) := by decide +kernel
theorem d_A_step_11 : decode me_A_step.2.1 11 = .ok (.ifCond .lt 10, 3) := by decide +kernel
theorem d_A_step_14 : decode me_A_step.2.1 14 = .ok (.iload_n 1, 1) := by decide +kernel
theorem d_A_step_15 : decode me_A_step.2.1 15 = .ok (.sipush 200, 3) := by decide +kernel
theorem d_A_step_18 : decode me_A_step.2.1 18 = .ok (.if_icmp .le 5, 3) := by decide +kernel
theorem d_A_step_21 : decode me_A_step.2.1 21 = .ok (.iconst (-1), 1) := by decide +kernel
theorem d_A_step_22 : decode me_A_step.2.1 22 = .ok (.ireturn, 1) := by decide +kernel
theorem d_A_step_23 : decode me_A_step.2.1 23 = .ok (.aload_n 0, 1) := by decide +kernel
theorem d_A_step_24 : decode me_A_step.2.1 24 = .ok (.getfield 67, 3) := by decide +kernel
theorem d_A_step_27 : decode me_A_step.2.1 27 = .ok (.invokevirtual 88, 3) := by decide +kernel
theorem d_A_step_30 : decode me_A_step.2.1 30 = .ok (.aload_n 0, 1) := by decide +kernel
theorem d_A_step_31 : decode me_A_step.2.1 31 = .ok (.getfield 28, 3) := by decide +kernel
theorem d_A_step_34 : decode me_A_step.2.1 34 = .ok (.iload_n 1, 1) := by decide +kernel
theorem d_A_step_35 : decode me_A_step.2.1 35 = .ok (.invokevirtual 121, 3) := by decide +kernel
theorem d_A_step_38 : decode me_A_step.2.1 38 = .ok (.ireturn, 1) := by decide +kernel
abbrev G_A_step_0 (l : Launch) (v : gs_V) (n : Nat) (post : Int32 → gs_S → Prop) (σ : gs_S) (x1 : Int32) : Prop := gG l v lyC 42 me_A_step n (qI v lyC 42 post) 0 [(0, .ref (v.2.2 0)), (1, .int x1)] [] σ
abbrev G_A_step_21 (l : Launch) (v : gs_V) (n : Nat) (post : Int32 → gs_S → Prop) (σ : gs_S) : Prop := gG l v lyC 42 me_A_step n (qI v lyC 42 post) 21 [] [] σ
set_option maxRecDepth 20000 in
set_option maxHeartbeats 1000000 in
theorem T_A_step_0 {l : Launch} {v : gs_V} {n : Nat} {post : Int32 → gs_S → Prop} {σ : gs_S} {x1 : Int32} (h : (((σ.1 4 5) = 0 → G_A_step_21 l v n post σ) ∧ (¬ (σ.1 4 5) = 0 → ((x1 < 0 → G_A_step_21 l v n post σ) ∧ (¬ x1 < 0 → ((x1 ≤ 200 → gM l v lyC 42 me_H_forget n [.ref (v.2.2 37)] σ (qV v lyC 42 (fun σ1 => gM l v lyC 42 me_C_run n [.ref (v.2.2 10), .int x1] σ1 (qI v lyC 42 (fun r2 σ2 => post r2 σ2))))) ∧ (¬ x1 ≤ 200 → G_A_step_21 l v n post σ))))))) : G_A_step_0 l v n post σ x1 := by
  refine g_aload_n d_A_step_0 0 rfl rfl ?_
  refine g_getV (x := .ref (v.2.2 4)) d_A_step_1 fl_A_19 (by decide) rfl rfl rfl ?_
  refine g_getV (x := .int (σ.1 4 5)) d_A_step_4 fl_A_93 (by decide) rfl rfl rfl ?_
  refine g_if_eq (tgt := 21) d_A_step_7 rfl (fun hc => ?_) (fun hc => ?_)
  · have h := h.1 hc
    exact g_sub [] rfl h
  · have h := h.2 hc
    refine g_iload_n d_A_step_10 1 rfl rfl ?_
    refine g_if_lt (tgt := 21) d_A_step_11 rfl (fun hc => ?_) (fun hc => ?_)
    · have h := h.1 hc
      exact g_sub [] rfl h
    · have h := h.2 hc
      refine g_iload_n d_A_step_14 1 rfl rfl ?_
      refine g_sipush d_A_step_15 (x := 200) (by decide) ?_
      refine g_icmp_le (tgt := 23) d_A_step_18 rfl (fun hc => ?_) (fun hc => ?_)
      · have h := h.1 hc
        refine g_aload_n d_A_step_23 0 rfl rfl ?_
        refine g_getV (x := .ref (v.2.2 37)) d_A_step_24 fl_A_67 (by decide) rfl rfl rfl ?_
        refine g_callVv (av := []) (rest := []) d_A_step_27 Y_H_forget lk_A_88 (by decide) rfl rfl I_H_forget rfl (Nat.le_of_ble_eq_true rfl) rfl h (fun σ1 h => ?_)
        refine g_aload_n d_A_step_30 0 rfl rfl ?_
        refine g_getV (x := .ref (v.2.2 10)) d_A_step_31 fl_A_28 (by decide) rfl rfl rfl ?_
        refine g_iload_n d_A_step_34 1 rfl rfl ?_
        refine g_callVi (av := [.int x1]) (rest := []) d_A_step_35 Y_C_run lk_A_121 (by decide) rfl rfl I_C_run rfl (Nat.le_of_ble_eq_true rfl) rfl h (fun r2 σ2 h => ?_)
        exact g_iret d_A_step_38 rfl h
      · have h := h.2 hc
        exact g_sub [] rfl h
set_option maxRecDepth 20000 in
set_option maxHeartbeats 1000000 in
theorem T_A_step_21 {l : Launch} {v : gs_V} {n : Nat} {post : Int32 → gs_S → Prop} {σ : gs_S} (h : post ((-1)) σ) : G_A_step_21 l v n post σ := by
  refine g_iconst d_A_step_21 (x := (-1)) (by decide) ?_
  exact g_iret d_A_step_22 rfl h
theorem E_A_step {l : Launch} {v : gs_V} {n : Nat} {post : Int32 → gs_S → Prop} {σ : gs_S} {x1 : Int32} (h : G_A_step_0 l v n post σ x1) : gM l v lyC 42 me_A_step (n + 1) [.ref (v.2.2 0), .int x1] σ (qI v lyC 42 post) := gM_of (by decide +kernel) (Nat.le_of_ble_eq_true rfl) h
/-! LineRules.surjective -/
theorem d_A_surjective_0 : decode me_A_surjective.2.1 0 = .ok (.aload_n 0, 1) := by decide +kernel
theorem d_A_surjective_1 : decode me_A_surjective.2.1 1 = .ok (.getfield 19, 3) := by decide +kernel
theorem d_A_surjective_4 : decode me_A_surjective.2.1 4 = .ok (.getfield 93, 3) := by decide +kernel
theorem d_A_surjective_7 : decode me_A_surjective.2.1 7 = .ok (.ifCond .ne 5, 3) := by decide +kernel
theorem d_A_surjective_10 : decode me_A_surjective.2.1 10 = .ok (.iconst (-1), 1) := by decide +kernel
theorem d_A_surjective_11 : decode me_A_surjective.2.1 11 = .ok (.ireturn, 1) := by decide +kernel
theorem d_A_surjective_12 : decode me_A_surjective.2.1 12 = .ok (.aload_n 0, 1) := by decide +kernel
theorem d_A_surjective_13 : decode me_A_surjective.2.1 13 = .ok (.getfield 35, 3) := by decide +kernel
theorem d_A_surjective_16 : decode me_A_surjective.2.1 16 = .ok (.invokevirtual 127, 3) := by decide +kernel
theorem d_A_surjective_19 : decode me_A_surjective.2.1 19 = .ok (.ifCond .eq 7, 3) := by decide +kernel
theorem d_A_surjective_22 : decode me_A_surjective.2.1 22 = .ok (.iconst 1, 1) := by decide +kernel
theorem d_A_surjective_23 : decode me_A_surjective.2.1 23 = .ok (.goto 4, 3) := by decide +kernel
theorem d_A_surjective_26 : decode me_A_surjective.2.1 26 = .ok (.iconst 0, 1) := by decide +kernel
theorem d_A_surjective_27 : decode me_A_surjective.2.1 27 = .ok (.ireturn, 1) := by decide +kernel
abbrev G_A_surjective_0 (l : Launch) (v : gs_V) (n : Nat) (post : Int32 → gs_S → Prop) (σ : gs_S) : Prop := gG l v lyC 42 me_A_surjective n (qI v lyC 42 post) 0 [(0, .ref (v.2.2 0))] [] σ
abbrev G_A_surjective_27 (l : Launch) (v : gs_V) (n : Nat) (post : Int32 → gs_S → Prop) (σ : gs_S) (s0 : Int32) : Prop := gG l v lyC 42 me_A_surjective n (qI v lyC 42 post) 27 [] [.int s0] σ
set_option maxRecDepth 20000 in
set_option maxHeartbeats 1000000 in
theorem T_A_surjective_0 {l : Launch} {v : gs_V} {n : Nat} {post : Int32 → gs_S → Prop} {σ : gs_S} (h : ((¬ (σ.1 4 5) = 0 → gM l v lyC 42 me_P_missesNothing n [.ref (v.2.2 14)] σ (qI v lyC 42 (fun r1 σ1 => ((r1 = 0 → G_A_surjective_27 l v n post σ1 0) ∧ (¬ r1 = 0 → G_A_surjective_27 l v n post σ1 1))))) ∧ ((σ.1 4 5) = 0 → post ((-1)) σ))) : G_A_surjective_0 l v n post σ := by
  refine g_aload_n d_A_surjective_0 0 rfl rfl ?_
  refine g_getV (x := .ref (v.2.2 4)) d_A_surjective_1 fl_A_19 (by decide) rfl rfl rfl ?_
  refine g_getV (x := .int (σ.1 4 5)) d_A_surjective_4 fl_A_93 (by decide) rfl rfl rfl ?_
  refine g_if_ne (tgt := 12) d_A_surjective_7 rfl (fun hc => ?_) (fun hc => ?_)
  · have h := h.1 hc
    refine g_aload_n d_A_surjective_12 0 rfl rfl ?_
    refine g_getV (x := .ref (v.2.2 14)) d_A_surjective_13 fl_A_35 (by decide) rfl rfl rfl ?_
    refine g_callVi (av := []) (rest := []) d_A_surjective_16 Y_P_missesNothing lk_A_127 (by decide) rfl rfl I_P_missesNothing rfl (Nat.le_of_ble_eq_true rfl) rfl h (fun r1 σ1 h => ?_)
    refine g_if_eq (tgt := 26) d_A_surjective_19 rfl (fun hc => ?_) (fun hc => ?_)
    · have h := h.1 hc
      refine g_iconst d_A_surjective_26 (x := 0) (by decide) ?_
      exact g_sub [] rfl h
    · have h := h.2 hc
      refine g_iconst d_A_surjective_22 (x := 1) (by decide) ?_
      refine g_goto (tgt := 27) d_A_surjective_23 rfl ?_
      exact g_sub [] rfl h
  · have h := h.2 hc
    refine g_iconst d_A_surjective_10 (x := (-1)) (by decide) ?_
    exact g_iret d_A_surjective_11 rfl h
set_option maxRecDepth 20000 in
set_option maxHeartbeats 1000000 in
theorem T_A_surjective_27 {l : Launch} {v : gs_V} {n : Nat} {post : Int32 → gs_S → Prop} {σ : gs_S} {s0 : Int32} (h : post s0 σ) : G_A_surjective_27 l v n post σ s0 := by
  exact g_iret d_A_surjective_27 rfl h
theorem E_A_surjective {l : Launch} {v : gs_V} {n : Nat} {post : Int32 → gs_S → Prop} {σ : gs_S} (h : G_A_surjective_0 l v n post σ) : gM l v lyC 42 me_A_surjective (n + 1) [.ref (v.2.2 0)] σ (qI v lyC 42 post) := gM_of (by decide +kernel) (Nat.le_of_ble_eq_true rfl) h
/-! LineRules.undo -/
theorem d_A_undo_0 : decode me_A_undo.2.1 0 = .ok (.aload_n 0, 1) := by decide +kernel
theorem d_A_undo_1 : decode me_A_undo.2.1 1 = .ok (.getfield 19, 3) := by decide +kernel
theorem d_A_undo_4 : decode me_A_undo.2.1 4 = .ok (.getfield 93, 3) := by decide +kernel
theorem d_A_undo_7 : decode me_A_undo.2.1 7 = .ok (.ifCond .eq 14, 3) := by decide +kernel
theorem d_A_undo_10 : decode me_A_undo.2.1 10 = .ok (.aload_n 0, 1) := by decide +kernel
theorem d_A_undo_11 : decode me_A_undo.2.1 11 = .ok (.getfield 44, 3) := by decide +kernel
theorem d_A_undo_14 : decode me_A_undo.2.1 14 = .ok (.iload_n 1, 1) := by decide +kernel
theorem d_A_undo_15 : decode me_A_undo.2.1 15 = .ok (.invokevirtual 141, 3) := by decide +kernel
theorem d_A_undo_18 : decode me_A_undo.2.1 18 = .ok (.goto 4, 3) := by decide +kernel
theorem d_A_undo_21 : decode me_A_undo.2.1 21 = .ok (.iconst (-1), 1) := by decide +kernel
theorem d_A_undo_22 : decode me_A_undo.2.1 22 = .ok (.ireturn, 1) := by decide +kernel
abbrev G_A_undo_0 (l : Launch) (v : gs_V) (n : Nat) (post : Int32 → gs_S → Prop) (σ : gs_S) (x1 : Int32) : Prop := gG l v lyC 42 me_A_undo n (qI v lyC 42 post) 0 [(0, .ref (v.2.2 0)), (1, .int x1)] [] σ
abbrev G_A_undo_22 (l : Launch) (v : gs_V) (n : Nat) (post : Int32 → gs_S → Prop) (σ : gs_S) (s0 : Int32) : Prop := gG l v lyC 42 me_A_undo n (qI v lyC 42 post) 22 [] [.int s0] σ
set_option maxRecDepth 20000 in
set_option maxHeartbeats 1000000 in
theorem T_A_undo_0 {l : Launch} {v : gs_V} {n : Nat} {post : Int32 → gs_S → Prop} {σ : gs_S} {x1 : Int32} (h : (((σ.1 4 5) = 0 → G_A_undo_22 l v n post σ ((-1))) ∧ (¬ (σ.1 4 5) = 0 → gM l v lyC 42 me_V_cellOf n [.ref (v.2.2 17), .int x1] σ (qI v lyC 42 (fun r1 σ1 => G_A_undo_22 l v n post σ1 r1))))) : G_A_undo_0 l v n post σ x1 := by
  refine g_aload_n d_A_undo_0 0 rfl rfl ?_
  refine g_getV (x := .ref (v.2.2 4)) d_A_undo_1 fl_A_19 (by decide) rfl rfl rfl ?_
  refine g_getV (x := .int (σ.1 4 5)) d_A_undo_4 fl_A_93 (by decide) rfl rfl rfl ?_
  refine g_if_eq (tgt := 21) d_A_undo_7 rfl (fun hc => ?_) (fun hc => ?_)
  · have h := h.1 hc
    refine g_iconst d_A_undo_21 (x := (-1)) (by decide) ?_
    exact g_sub [] rfl h
  · have h := h.2 hc
    refine g_aload_n d_A_undo_10 0 rfl rfl ?_
    refine g_getV (x := .ref (v.2.2 17)) d_A_undo_11 fl_A_44 (by decide) rfl rfl rfl ?_
    refine g_iload_n d_A_undo_14 1 rfl rfl ?_
    refine g_callVi (av := [.int x1]) (rest := []) d_A_undo_15 Y_V_cellOf lk_A_141 (by decide) rfl rfl I_V_cellOf rfl (Nat.le_of_ble_eq_true rfl) rfl h (fun r1 σ1 h => ?_)
    refine g_goto (tgt := 22) d_A_undo_18 rfl ?_
    exact g_sub [] rfl h
set_option maxRecDepth 20000 in
set_option maxHeartbeats 1000000 in
theorem T_A_undo_22 {l : Launch} {v : gs_V} {n : Nat} {post : Int32 → gs_S → Prop} {σ : gs_S} {s0 : Int32} (h : post s0 σ) : G_A_undo_22 l v n post σ s0 := by
  exact g_iret d_A_undo_22 rfl h
theorem E_A_undo {l : Launch} {v : gs_V} {n : Nat} {post : Int32 → gs_S → Prop} {σ : gs_S} {x1 : Int32} (h : G_A_undo_0 l v n post σ x1) : gM l v lyC 42 me_A_undo (n + 1) [.ref (v.2.2 0), .int x1] σ (qI v lyC 42 post) := gM_of (by decide +kernel) (Nat.le_of_ble_eq_true rfl) h
/-! LineRules.ways -/
theorem d_A_ways_0 : decode me_A_ways.2.1 0 = .ok (.aload_n 0, 1) := by decide +kernel
theorem d_A_ways_1 : decode me_A_ways.2.1 1 = .ok (.getfield 19, 3) := by decide +kernel
theorem d_A_ways_4 : decode me_A_ways.2.1 4 = .ok (.getfield 93, 3) := by decide +kernel
theorem d_A_ways_7 : decode me_A_ways.2.1 7 = .ok (.ifCond .eq 13, 3) := by decide +kernel
theorem d_A_ways_10 : decode me_A_ways.2.1 10 = .ok (.aload_n 0, 1) := by decide +kernel
theorem d_A_ways_11 : decode me_A_ways.2.1 11 = .ok (.getfield 67, 3) := by decide +kernel
theorem d_A_ways_14 : decode me_A_ways.2.1 14 = .ok (.invokevirtual 160, 3) := by decide +kernel
theorem d_A_ways_17 : decode me_A_ways.2.1 17 = .ok (.goto 6, 3) := by decide +kernel
theorem d_A_ways_20 : decode me_A_ways.2.1 20 = .ok (.ldc2_w 163, 3) := by decide +kernel
theorem d_A_ways_23 : decode me_A_ways.2.1 23 = .ok (.lreturn, 1) := by decide +kernel
abbrev G_A_ways_0 (l : Launch) (v : gs_V) (n : Nat) (post : Int64 → gs_S → Prop) (σ : gs_S) : Prop := gG l v lyC 42 me_A_ways n (qL v lyC 42 post) 0 [(0, .ref (v.2.2 0))] [] σ
abbrev G_A_ways_23 (l : Launch) (v : gs_V) (n : Nat) (post : Int64 → gs_S → Prop) (σ : gs_S) (s0 : Int64) : Prop := gG l v lyC 42 me_A_ways n (qL v lyC 42 post) 23 [] [.long s0] σ
set_option maxRecDepth 20000 in
set_option maxHeartbeats 1000000 in
theorem T_A_ways_0 {l : Launch} {v : gs_V} {n : Nat} {post : Int64 → gs_S → Prop} {σ : gs_S} (h : (((σ.1 4 5) = 0 → G_A_ways_23 l v n post σ ((-1))) ∧ (¬ (σ.1 4 5) = 0 → gM l v lyC 42 me_H_count n [.ref (v.2.2 37)] σ (qL v lyC 42 (fun r1 σ1 => G_A_ways_23 l v n post σ1 r1))))) : G_A_ways_0 l v n post σ := by
  refine g_aload_n d_A_ways_0 0 rfl rfl ?_
  refine g_getV (x := .ref (v.2.2 4)) d_A_ways_1 fl_A_19 (by decide) rfl rfl rfl ?_
  refine g_getV (x := .int (σ.1 4 5)) d_A_ways_4 fl_A_93 (by decide) rfl rfl rfl ?_
  refine g_if_eq (tgt := 20) d_A_ways_7 rfl (fun hc => ?_) (fun hc => ?_)
  · have h := h.1 hc
    refine g_ldc2 d_A_ways_20 (x := (-1)) (gw_t4 (List.mem_of_getElem? (i := 55) rfl) rfl) ?_
    exact g_sub [] rfl h
  · have h := h.2 hc
    refine g_aload_n d_A_ways_10 0 rfl rfl ?_
    refine g_getV (x := .ref (v.2.2 37)) d_A_ways_11 fl_A_67 (by decide) rfl rfl rfl ?_
    refine g_callVl (av := []) (rest := []) d_A_ways_14 Y_H_count lk_A_160 (by decide) rfl rfl I_H_count rfl (Nat.le_of_ble_eq_true rfl) rfl h (fun r1 σ1 h => ?_)
    refine g_goto (tgt := 23) d_A_ways_17 rfl ?_
    exact g_sub [] rfl h
set_option maxRecDepth 20000 in
set_option maxHeartbeats 1000000 in
theorem T_A_ways_23 {l : Launch} {v : gs_V} {n : Nat} {post : Int64 → gs_S → Prop} {σ : gs_S} {s0 : Int64} (h : post s0 σ) : G_A_ways_23 l v n post σ s0 := by
  exact g_lret d_A_ways_23 rfl h
theorem E_A_ways {l : Launch} {v : gs_V} {n : Nat} {post : Int64 → gs_S → Prop} {σ : gs_S} (h : G_A_ways_0 l v n post σ) : gM l v lyC 42 me_A_ways (n + 1) [.ref (v.2.2 0)] σ (qL v lyC 42 post) := gM_of (by decide +kernel) (Nat.le_of_ble_eq_true rfl) h
/-! LineRules.weight -/
theorem d_A_weight_0 : decode me_A_weight.2.1 0 = .ok (.aload_n 0, 1) := by decide +kernel
theorem d_A_weight_1 : decode me_A_weight.2.1 1 = .ok (.getfield 19, 3) := by decide +kernel
theorem d_A_weight_4 : decode me_A_weight.2.1 4 = .ok (.getfield 93, 3) := by decide +kernel
theorem d_A_weight_7 : decode me_A_weight.2.1 7 = .ok (.ifCond .eq 15, 3) := by decide +kernel
theorem d_A_weight_10 : decode me_A_weight.2.1 10 = .ok (.aload_n 0, 1) := by decide +kernel
theorem d_A_weight_11 : decode me_A_weight.2.1 11 = .ok (.getfield 51, 3) := by decide +kernel
theorem d_A_weight_14 : decode me_A_weight.2.1 14 = .ok (.iload_n 1, 1) := by decide +kernel
theorem d_A_weight_15 : decode me_A_weight.2.1 15 = .ok (.iload_n 2, 1) := by decide +kernel
theorem d_A_weight_16 : decode me_A_weight.2.1 16 = .ok (.invokevirtual 146, 3) := by decide +kernel
theorem d_A_weight_19 : decode me_A_weight.2.1 19 = .ok (.goto 4, 3) := by decide +kernel
theorem d_A_weight_22 : decode me_A_weight.2.1 22 = .ok (.iconst (-1), 1) := by decide +kernel
theorem d_A_weight_23 : decode me_A_weight.2.1 23 = .ok (.ireturn, 1) := by decide +kernel
abbrev G_A_weight_0 (l : Launch) (v : gs_V) (n : Nat) (post : Int32 → gs_S → Prop) (σ : gs_S) (x1 : Int32) (x2 : Int32) : Prop := gG l v lyC 42 me_A_weight n (qI v lyC 42 post) 0 [(0, .ref (v.2.2 0)), (1, .int x1), (2, .int x2)] [] σ
abbrev G_A_weight_23 (l : Launch) (v : gs_V) (n : Nat) (post : Int32 → gs_S → Prop) (σ : gs_S) (s0 : Int32) : Prop := gG l v lyC 42 me_A_weight n (qI v lyC 42 post) 23 [] [.int s0] σ
set_option maxRecDepth 20000 in
set_option maxHeartbeats 1000000 in
theorem T_A_weight_0 {l : Launch} {v : gs_V} {n : Nat} {post : Int32 → gs_S → Prop} {σ : gs_S} {x1 : Int32} {x2 : Int32} (h : (((σ.1 4 5) = 0 → G_A_weight_23 l v n post σ ((-1))) ∧ (¬ (σ.1 4 5) = 0 → gM l v lyC 42 me_W_at n [.ref (v.2.2 19), .int x1, .int x2] σ (qI v lyC 42 (fun r1 σ1 => G_A_weight_23 l v n post σ1 r1))))) : G_A_weight_0 l v n post σ x1 x2 := by
  refine g_aload_n d_A_weight_0 0 rfl rfl ?_
  refine g_getV (x := .ref (v.2.2 4)) d_A_weight_1 fl_A_19 (by decide) rfl rfl rfl ?_
  refine g_getV (x := .int (σ.1 4 5)) d_A_weight_4 fl_A_93 (by decide) rfl rfl rfl ?_
  refine g_if_eq (tgt := 22) d_A_weight_7 rfl (fun hc => ?_) (fun hc => ?_)
  · have h := h.1 hc
    refine g_iconst d_A_weight_22 (x := (-1)) (by decide) ?_
    exact g_sub [] rfl h
  · have h := h.2 hc
    refine g_aload_n d_A_weight_10 0 rfl rfl ?_
    refine g_getV (x := .ref (v.2.2 19)) d_A_weight_11 fl_A_51 (by decide) rfl rfl rfl ?_
    refine g_iload_n d_A_weight_14 1 rfl rfl ?_
    refine g_iload_n d_A_weight_15 2 rfl rfl ?_
    refine g_callVi (av := [.int x1, .int x2]) (rest := []) d_A_weight_16 Y_W_at lk_A_146 (by decide) rfl rfl I_W_at rfl (Nat.le_of_ble_eq_true rfl) rfl h (fun r1 σ1 h => ?_)
    refine g_goto (tgt := 23) d_A_weight_19 rfl ?_
    exact g_sub [] rfl h
set_option maxRecDepth 20000 in
set_option maxHeartbeats 1000000 in
theorem T_A_weight_23 {l : Launch} {v : gs_V} {n : Nat} {post : Int32 → gs_S → Prop} {σ : gs_S} {s0 : Int32} (h : post s0 σ) : G_A_weight_23 l v n post σ s0 := by
  exact g_iret d_A_weight_23 rfl h
theorem E_A_weight {l : Launch} {v : gs_V} {n : Nat} {post : Int32 → gs_S → Prop} {σ : gs_S} {x1 : Int32} {x2 : Int32} (h : G_A_weight_0 l v n post σ x1 x2) : gM l v lyC 42 me_A_weight (n + 1) [.ref (v.2.2 0), .int x1, .int x2] σ (qI v lyC 42 post) := gM_of (by decide +kernel) (Nat.le_of_ble_eq_true rfl) h
end
section
/-! LineRulesModel.before -/
theorem d_M_before_0 : decode me_M_before.2.1 0 = .ok (.aload_n 0, 1) := by decide +kernel
theorem d_M_before_1 : decode me_M_before.2.1 1 = .ok (.getfield 179, 3) := by decide +kernel
theorem d_M_before_4 : decode me_M_before.2.1 4 = .ok (.ifCond .ne 5, 3) := by decide +kernel
theorem d_M_before_7 : decode me_M_before.2.1 7 = .ok (.iconst (-1), 1) := by decide +kernel
theorem d_M_before_8 : decode me_M_before.2.1 8 = .ok (.ireturn, 1) := by decide +kernel
theorem d_M_before_9 : decode me_M_before.2.1 9 = .ok (.aload_n 0, 1) := by decide +kernel
theorem d_M_before_10 : decode me_M_before.2.1 10 = .ok (.invokevirtual 308, 3) := by decide +kernel
theorem d_M_before_13 : decode me_M_before.2.1 13 = .ok (.aload_n 0, 1) := by decide +kernel
theorem d_M_before_14 : decode me_M_before.2.1 14 = .ok (.getfield 291, 3) := by decide +kernel
theorem d_M_before_17 : decode me_M_before.2.1 17 = .ok (.ifCond .eq 7, 3) := by decide +kernel
theorem d_M_before_20 : decode me_M_before.2.1 20 = .ok (.iconst 1, 1) := by decide +kernel
theorem d_M_before_21 : decode me_M_before.2.1 21 = .ok (.goto 4, 3) := by decide +kernel
theorem d_M_before_24 : decode me_M_before.2.1 24 = .ok (.iconst 0, 1) := by decide +kernel
theorem d_M_before_25 : decode me_M_before.2.1 25 = .ok (.ireturn, 1) := by decide +kernel
abbrev G_M_before_0 (l : Launch) (v : gs_V) (n : Nat) (post : Int32 → gs_S → Prop) (σ : gs_S) : Prop := gG l v lyM 33 me_M_before n (qI v lyM 33 post) 0 [(0, .ref (v.2.2 0))] [] σ
abbrev G_M_before_25 (l : Launch) (v : gs_V) (n : Nat) (post : Int32 → gs_S → Prop) (σ : gs_S) (s0 : Int32) : Prop := gG l v lyM 33 me_M_before n (qI v lyM 33 post) 25 [] [.int s0] σ
set_option maxRecDepth 20000 in
set_option maxHeartbeats 1000000 in
theorem T_M_before_0 {l : Launch} {v : gs_V} {n : Nat} {post : Int32 → gs_S → Prop} {σ : gs_S} (h : ((¬ (σ.1 0 2) = 0 → gM l v lyM 33 me_M_findBefore n [.ref (v.2.2 0)] σ (qV v lyM 33 (fun σ1 => (((σ1.1 0 48) = 0 → G_M_before_25 l v n post σ1 0) ∧ (¬ (σ1.1 0 48) = 0 → G_M_before_25 l v n post σ1 1))))) ∧ ((σ.1 0 2) = 0 → post ((-1)) σ))) : G_M_before_0 l v n post σ := by
  refine g_aload_n d_M_before_0 0 rfl rfl ?_
  refine g_getV (x := .int (σ.1 0 2)) d_M_before_1 fl_M_179 (by decide) rfl rfl rfl ?_
  refine g_if_ne (tgt := 9) d_M_before_4 rfl (fun hc => ?_) (fun hc => ?_)
  · have h := h.1 hc
    refine g_aload_n d_M_before_9 0 rfl rfl ?_
    refine g_callVv (av := []) (rest := []) d_M_before_10 Y_M_findBefore lk_M_308 (by decide) rfl rfl I_M_findBefore rfl (Nat.le_of_ble_eq_true rfl) rfl h (fun σ1 h => ?_)
    refine g_aload_n d_M_before_13 0 rfl rfl ?_
    refine g_getV (x := .int (σ1.1 0 48)) d_M_before_14 fl_M_291 (by decide) rfl rfl rfl ?_
    refine g_if_eq (tgt := 24) d_M_before_17 rfl (fun hc => ?_) (fun hc => ?_)
    · have h := h.1 hc
      refine g_iconst d_M_before_24 (x := 0) (by decide) ?_
      exact g_sub [] rfl h
    · have h := h.2 hc
      refine g_iconst d_M_before_20 (x := 1) (by decide) ?_
      refine g_goto (tgt := 25) d_M_before_21 rfl ?_
      exact g_sub [] rfl h
  · have h := h.2 hc
    refine g_iconst d_M_before_7 (x := (-1)) (by decide) ?_
    exact g_iret d_M_before_8 rfl h
set_option maxRecDepth 20000 in
set_option maxHeartbeats 1000000 in
theorem T_M_before_25 {l : Launch} {v : gs_V} {n : Nat} {post : Int32 → gs_S → Prop} {σ : gs_S} {s0 : Int32} (h : post s0 σ) : G_M_before_25 l v n post σ s0 := by
  exact g_iret d_M_before_25 rfl h
theorem E_M_before {l : Launch} {v : gs_V} {n : Nat} {post : Int32 → gs_S → Prop} {σ : gs_S} (h : G_M_before_0 l v n post σ) : gM l v lyM 33 me_M_before (n + 1) [.ref (v.2.2 0)] σ (qI v lyM 33 post) := gM_of (by decide +kernel) (Nat.le_of_ble_eq_true rfl) h
/-! LineRulesModel.beforeAt -/
theorem d_M_beforeAt_0 : decode me_M_beforeAt.2.1 0 = .ok (.aload_n 0, 1) := by decide +kernel
theorem d_M_beforeAt_1 : decode me_M_beforeAt.2.1 1 = .ok (.getfield 179, 3) := by decide +kernel
theorem d_M_beforeAt_4 : decode me_M_beforeAt.2.1 4 = .ok (.ifCond .ne 5, 3) := by decide +kernel
theorem d_M_beforeAt_7 : decode me_M_beforeAt.2.1 7 = .ok (.iconst (-1), 1) := by decide +kernel
theorem d_M_beforeAt_8 : decode me_M_beforeAt.2.1 8 = .ok (.ireturn, 1) := by decide +kernel
theorem d_M_beforeAt_9 : decode me_M_beforeAt.2.1 9 = .ok (.aload_n 0, 1) := by decide +kernel
theorem d_M_beforeAt_10 : decode me_M_beforeAt.2.1 10 = .ok (.invokevirtual 308, 3) := by decide +kernel
theorem d_M_beforeAt_13 : decode me_M_beforeAt.2.1 13 = .ok (.aload_n 0, 1) := by decide +kernel
theorem d_M_beforeAt_14 : decode me_M_beforeAt.2.1 14 = .ok (.getfield 291, 3) := by decide +kernel
theorem d_M_beforeAt_17 : decode me_M_beforeAt.2.1 17 = .ok (.ifCond .eq 24, 3) := by decide +kernel
theorem d_M_beforeAt_20 : decode me_M_beforeAt.2.1 20 = .ok (.iload_n 1, 1) := by decide +kernel
theorem d_M_beforeAt_21 : decode me_M_beforeAt.2.1 21 = .ok (.ifCond .lt 20, 3) := by decide +kernel
theorem d_M_beforeAt_24 : decode me_M_beforeAt.2.1 24 = .ok (.iload_n 1, 1) := by decide +kernel
theorem d_M_beforeAt_25 : decode me_M_beforeAt.2.1 25 = .ok (.aload_n 0, 1) := by decide +kernel
theorem d_M_beforeAt_26 : decode me_M_beforeAt.2.1 26 = .ok (.getfield 16, 3) := by decide +kernel
theorem d_M_beforeAt_29 : decode me_M_beforeAt.2.1 29 = .ok (.if_icmp .ge 12, 3) := by decide +kernel
theorem d_M_beforeAt_32 : decode me_M_beforeAt.2.1 32 = .ok (.aload_n 0, 1) := by decide +kernel
theorem d_M_beforeAt_33 : decode me_M_beforeAt.2.1 33 = .ok (.getfield 100, 3) := by decide +kernel
theorem d_M_beforeAt_36 : decode me_M_beforeAt.2.1 36 = .ok (.iload_n 1, 1) := by decide +kernel
theorem d_M_beforeAt_37 : decode me_M_beforeAt.2.1 37 = .ok (.iaload, 1) := by decide +kernel
theorem d_M_beforeAt_38 : decode me_M_beforeAt.2.1 38 = .ok (.goto 4, 3) := by decide +kernel
theorem d_M_beforeAt_41 : decode me_M_beforeAt.2.1 41 = .ok (.iconst (-1), 1) := by decide +kernel
theorem d_M_beforeAt_42 : decode me_M_beforeAt.2.1 42 = .ok (.ireturn, 1) := by decide +kernel
abbrev G_M_beforeAt_0 (l : Launch) (v : gs_V) (n : Nat) (post : Int32 → gs_S → Prop) (σ : gs_S) (x1 : Int32) : Prop := gG l v lyM 33 me_M_beforeAt n (qI v lyM 33 post) 0 [(0, .ref (v.2.2 0)), (1, .int x1)] [] σ
abbrev G_M_beforeAt_41 (l : Launch) (v : gs_V) (n : Nat) (post : Int32 → gs_S → Prop) (σ : gs_S) : Prop := gG l v lyM 33 me_M_beforeAt n (qI v lyM 33 post) 41 [] [] σ
abbrev G_M_beforeAt_42 (l : Launch) (v : gs_V) (n : Nat) (post : Int32 → gs_S → Prop) (σ : gs_S) (s0 : Int32) : Prop := gG l v lyM 33 me_M_beforeAt n (qI v lyM 33 post) 42 [] [.int s0] σ
set_option maxRecDepth 20000 in
set_option maxHeartbeats 1000000 in
theorem T_M_beforeAt_0 {l : Launch} {v : gs_V} {n : Nat} {post : Int32 → gs_S → Prop} {σ : gs_S} {x1 : Int32} (h : ((¬ (σ.1 0 2) = 0 → gM l v lyM 33 me_M_findBefore n [.ref (v.2.2 0)] σ (qV v lyM 33 (fun σ1 => (((σ1.1 0 48) = 0 → G_M_beforeAt_41 l v n post σ1) ∧ (¬ (σ1.1 0 48) = 0 → ((x1 < 0 → G_M_beforeAt_41 l v n post σ1) ∧ (¬ x1 < 0 → (((σ1.1 0 7) ≤ x1 → G_M_beforeAt_41 l v n post σ1) ∧ (¬ (σ1.1 0 7) ≤ x1 → vp_in x1 68 ∧ G_M_beforeAt_42 l v n post σ1 (σ1.1 29 x1.toNatClampNeg)))))))))) ∧ ((σ.1 0 2) = 0 → post ((-1)) σ))) : G_M_beforeAt_0 l v n post σ x1 := by
  refine g_aload_n d_M_beforeAt_0 0 rfl rfl ?_
  refine g_getV (x := .int (σ.1 0 2)) d_M_beforeAt_1 fl_M_179 (by decide) rfl rfl rfl ?_
  refine g_if_ne (tgt := 9) d_M_beforeAt_4 rfl (fun hc => ?_) (fun hc => ?_)
  · have h := h.1 hc
    refine g_aload_n d_M_beforeAt_9 0 rfl rfl ?_
    refine g_callVv (av := []) (rest := []) d_M_beforeAt_10 Y_M_findBefore lk_M_308 (by decide) rfl rfl I_M_findBefore rfl (Nat.le_of_ble_eq_true rfl) rfl h (fun σ1 h => ?_)
    refine g_aload_n d_M_beforeAt_13 0 rfl rfl ?_
    refine g_getV (x := .int (σ1.1 0 48)) d_M_beforeAt_14 fl_M_291 (by decide) rfl rfl rfl ?_
    refine g_if_eq (tgt := 41) d_M_beforeAt_17 rfl (fun hc => ?_) (fun hc => ?_)
    · have h := h.1 hc
      exact g_sub [] rfl h
    · have h := h.2 hc
      refine g_iload_n d_M_beforeAt_20 1 rfl rfl ?_
      refine g_if_lt (tgt := 41) d_M_beforeAt_21 rfl (fun hc => ?_) (fun hc => ?_)
      · have h := h.1 hc
        exact g_sub [] rfl h
      · have h := h.2 hc
        refine g_iload_n d_M_beforeAt_24 1 rfl rfl ?_
        refine g_aload_n d_M_beforeAt_25 0 rfl rfl ?_
        refine g_getV (x := .int (σ1.1 0 7)) d_M_beforeAt_26 fl_M_16 (by decide) rfl rfl rfl ?_
        refine g_icmp_ge (tgt := 41) d_M_beforeAt_29 rfl (fun hc => ?_) (fun hc => ?_)
        · have h := h.1 hc
          exact g_sub [] rfl h
        · have h := h.2 hc
          refine g_aload_n d_M_beforeAt_32 0 rfl rfl ?_
          refine g_getV (x := .ref (v.2.2 29)) d_M_beforeAt_33 fl_M_100 (by decide) rfl rfl rfl ?_
          refine g_iload_n d_M_beforeAt_36 1 rfl rfl ?_
          have hi2 := h.1
          have h := h.2
          refine g_iald (x := σ1.1 29 x1.toNatClampNeg) d_M_beforeAt_37 (by decide) rfl hi2 rfl ?_
          refine g_goto (tgt := 42) d_M_beforeAt_38 rfl ?_
          exact g_sub [] rfl h
  · have h := h.2 hc
    refine g_iconst d_M_beforeAt_7 (x := (-1)) (by decide) ?_
    exact g_iret d_M_beforeAt_8 rfl h
set_option maxRecDepth 20000 in
set_option maxHeartbeats 1000000 in
theorem T_M_beforeAt_41 {l : Launch} {v : gs_V} {n : Nat} {post : Int32 → gs_S → Prop} {σ : gs_S} (h : G_M_beforeAt_42 l v n post σ ((-1))) : G_M_beforeAt_41 l v n post σ := by
  refine g_iconst d_M_beforeAt_41 (x := (-1)) (by decide) ?_
  exact h
set_option maxRecDepth 20000 in
set_option maxHeartbeats 1000000 in
theorem T_M_beforeAt_42 {l : Launch} {v : gs_V} {n : Nat} {post : Int32 → gs_S → Prop} {σ : gs_S} {s0 : Int32} (h : post s0 σ) : G_M_beforeAt_42 l v n post σ s0 := by
  exact g_iret d_M_beforeAt_42 rfl h
theorem E_M_beforeAt {l : Launch} {v : gs_V} {n : Nat} {post : Int32 → gs_S → Prop} {σ : gs_S} {x1 : Int32} (h : G_M_beforeAt_0 l v n post σ x1) : gM l v lyM 33 me_M_beforeAt (n + 1) [.ref (v.2.2 0), .int x1] σ (qI v lyM 33 post) := gM_of (by decide +kernel) (Nat.le_of_ble_eq_true rfl) h
/-! LineRulesModel.conserved -/
theorem d_M_conserved_0 : decode me_M_conserved.2.1 0 = .ok (.aload_n 0, 1) := by decide +kernel
theorem d_M_conserved_1 : decode me_M_conserved.2.1 1 = .ok (.getfield 179, 3) := by decide +kernel
theorem d_M_conserved_4 : decode me_M_conserved.2.1 4 = .ok (.ifCond .ne 5, 3) := by decide +kernel
theorem d_M_conserved_7 : decode me_M_conserved.2.1 7 = .ok (.iconst (-1), 1) := by decide +kernel
theorem d_M_conserved_8 : decode me_M_conserved.2.1 8 = .ok (.ireturn, 1) := by decide +kernel
theorem d_M_conserved_9 : decode me_M_conserved.2.1 9 = .ok (.aload_n 0, 1) := by decide +kernel
theorem d_M_conserved_10 : decode me_M_conserved.2.1 10 = .ok (.invokevirtual 267, 3) := by decide +kernel
theorem d_M_conserved_13 : decode me_M_conserved.2.1 13 = .ok (.aload_n 0, 1) := by decide +kernel
theorem d_M_conserved_14 : decode me_M_conserved.2.1 14 = .ok (.getfield 255, 3) := by decide +kernel
theorem d_M_conserved_17 : decode me_M_conserved.2.1 17 = .ok (.ireturn, 1) := by decide +kernel
abbrev G_M_conserved_0 (l : Launch) (v : gs_V) (n : Nat) (post : Int32 → gs_S → Prop) (σ : gs_S) : Prop := gG l v lyM 33 me_M_conserved n (qI v lyM 33 post) 0 [(0, .ref (v.2.2 0))] [] σ
set_option maxRecDepth 20000 in
set_option maxHeartbeats 1000000 in
theorem T_M_conserved_0 {l : Launch} {v : gs_V} {n : Nat} {post : Int32 → gs_S → Prop} {σ : gs_S} (h : ((¬ (σ.1 0 2) = 0 → gM l v lyM 33 me_M_findWeights n [.ref (v.2.2 0)] σ (qV v lyM 33 (fun σ1 => post (σ1.1 0 36) σ1))) ∧ ((σ.1 0 2) = 0 → post ((-1)) σ))) : G_M_conserved_0 l v n post σ := by
  refine g_aload_n d_M_conserved_0 0 rfl rfl ?_
  refine g_getV (x := .int (σ.1 0 2)) d_M_conserved_1 fl_M_179 (by decide) rfl rfl rfl ?_
  refine g_if_ne (tgt := 9) d_M_conserved_4 rfl (fun hc => ?_) (fun hc => ?_)
  · have h := h.1 hc
    refine g_aload_n d_M_conserved_9 0 rfl rfl ?_
    refine g_callVv (av := []) (rest := []) d_M_conserved_10 Y_M_findWeights lk_M_267 (by decide) rfl rfl I_M_findWeights rfl (Nat.le_of_ble_eq_true rfl) rfl h (fun σ1 h => ?_)
    refine g_aload_n d_M_conserved_13 0 rfl rfl ?_
    refine g_getV (x := .int (σ1.1 0 36)) d_M_conserved_14 fl_M_255 (by decide) rfl rfl rfl ?_
    exact g_iret d_M_conserved_17 rfl h
  · have h := h.2 hc
    refine g_iconst d_M_conserved_7 (x := (-1)) (by decide) ?_
    exact g_iret d_M_conserved_8 rfl h
theorem E_M_conserved {l : Launch} {v : gs_V} {n : Nat} {post : Int32 → gs_S → Prop} {σ : gs_S} (h : G_M_conserved_0 l v n post σ) : gM l v lyM 33 me_M_conserved (n + 1) [.ref (v.2.2 0)] σ (qI v lyM 33 post) := gM_of (by decide +kernel) (Nat.le_of_ble_eq_true rfl) h
/-! LineRulesModel.get -/
theorem d_M_get_0 : decode me_M_get.2.1 0 = .ok (.iload_n 1, 1) := by decide +kernel
theorem d_M_get_1 : decode me_M_get.2.1 1 = .ok (.ifCond .lt 20, 3) := by decide +kernel
theorem d_M_get_4 : decode me_M_get.2.1 4 = .ok (.iload_n 1, 1) := by decide +kernel
theorem d_M_get_5 : decode me_M_get.2.1 5 = .ok (.aload_n 0, 1) := by decide +kernel
theorem d_M_get_6 : decode me_M_get.2.1 6 = .ok (.getfield 16, 3) := by decide +kernel
theorem d_M_get_9 : decode me_M_get.2.1 9 = .ok (.if_icmp .ge 12, 3) := by decide +kernel
theorem d_M_get_12 : decode me_M_get.2.1 12 = .ok (.aload_n 0, 1) := by decide +kernel
theorem d_M_get_13 : decode me_M_get.2.1 13 = .ok (.getfield 20, 3) := by decide +kernel
theorem d_M_get_16 : decode me_M_get.2.1 16 = .ok (.iload_n 1, 1) := by decide +kernel
theorem d_M_get_17 : decode me_M_get.2.1 17 = .ok (.iaload, 1) := by decide +kernel
theorem d_M_get_18 : decode me_M_get.2.1 18 = .ok (.goto 4, 3) := by decide +kernel
theorem d_M_get_21 : decode me_M_get.2.1 21 = .ok (.iconst (-1), 1) := by decide +kernel
theorem d_M_get_22 : decode me_M_get.2.1 22 = .ok (.ireturn, 1) := by decide +kernel
abbrev G_M_get_0 (l : Launch) (v : gs_V) (n : Nat) (post : Int32 → gs_S → Prop) (σ : gs_S) (x1 : Int32) : Prop := gG l v lyM 33 me_M_get n (qI v lyM 33 post) 0 [(0, .ref (v.2.2 0)), (1, .int x1)] [] σ
abbrev G_M_get_21 (l : Launch) (v : gs_V) (n : Nat) (post : Int32 → gs_S → Prop) (σ : gs_S) : Prop := gG l v lyM 33 me_M_get n (qI v lyM 33 post) 21 [] [] σ
abbrev G_M_get_22 (l : Launch) (v : gs_V) (n : Nat) (post : Int32 → gs_S → Prop) (σ : gs_S) (s0 : Int32) : Prop := gG l v lyM 33 me_M_get n (qI v lyM 33 post) 22 [] [.int s0] σ
set_option maxRecDepth 20000 in
set_option maxHeartbeats 1000000 in
theorem T_M_get_0 {l : Launch} {v : gs_V} {n : Nat} {post : Int32 → gs_S → Prop} {σ : gs_S} {x1 : Int32} (h : ((x1 < 0 → G_M_get_21 l v n post σ) ∧ (¬ x1 < 0 → (((σ.1 0 7) ≤ x1 → G_M_get_21 l v n post σ) ∧ (¬ (σ.1 0 7) ≤ x1 → vp_in x1 64 ∧ G_M_get_22 l v n post σ (σ.1 3 x1.toNatClampNeg)))))) : G_M_get_0 l v n post σ x1 := by
  refine g_iload_n d_M_get_0 1 rfl rfl ?_
  refine g_if_lt (tgt := 21) d_M_get_1 rfl (fun hc => ?_) (fun hc => ?_)
  · have h := h.1 hc
    exact g_sub [] rfl h
  · have h := h.2 hc
    refine g_iload_n d_M_get_4 1 rfl rfl ?_
    refine g_aload_n d_M_get_5 0 rfl rfl ?_
    refine g_getV (x := .int (σ.1 0 7)) d_M_get_6 fl_M_16 (by decide) rfl rfl rfl ?_
    refine g_icmp_ge (tgt := 21) d_M_get_9 rfl (fun hc => ?_) (fun hc => ?_)
    · have h := h.1 hc
      exact g_sub [] rfl h
    · have h := h.2 hc
      refine g_aload_n d_M_get_12 0 rfl rfl ?_
      refine g_getV (x := .ref (v.2.2 3)) d_M_get_13 fl_M_20 (by decide) rfl rfl rfl ?_
      refine g_iload_n d_M_get_16 1 rfl rfl ?_
      have hi1 := h.1
      have h := h.2
      refine g_iald (x := σ.1 3 x1.toNatClampNeg) d_M_get_17 (by decide) rfl hi1 rfl ?_
      refine g_goto (tgt := 22) d_M_get_18 rfl ?_
      exact g_sub [] rfl h
set_option maxRecDepth 20000 in
set_option maxHeartbeats 1000000 in
theorem T_M_get_21 {l : Launch} {v : gs_V} {n : Nat} {post : Int32 → gs_S → Prop} {σ : gs_S} (h : G_M_get_22 l v n post σ ((-1))) : G_M_get_21 l v n post σ := by
  refine g_iconst d_M_get_21 (x := (-1)) (by decide) ?_
  exact h
set_option maxRecDepth 20000 in
set_option maxHeartbeats 1000000 in
theorem T_M_get_22 {l : Launch} {v : gs_V} {n : Nat} {post : Int32 → gs_S → Prop} {σ : gs_S} {s0 : Int32} (h : post s0 σ) : G_M_get_22 l v n post σ s0 := by
  exact g_iret d_M_get_22 rfl h
theorem E_M_get {l : Launch} {v : gs_V} {n : Nat} {post : Int32 → gs_S → Prop} {σ : gs_S} {x1 : Int32} (h : G_M_get_0 l v n post σ x1) : gM l v lyM 33 me_M_get (n + 1) [.ref (v.2.2 0), .int x1] σ (qI v lyM 33 post) := gM_of (by decide +kernel) (Nat.le_of_ble_eq_true rfl) h
/-! LineRulesModel.injective -/
theorem d_M_injective_0 : decode me_M_injective.2.1 0 = .ok (.aload_n 0, 1) := by decide +kernel
theorem d_M_injective_1 : decode me_M_injective.2.1 1 = .ok (.getfield 179, 3) := by decide +kernel
theorem d_M_injective_4 : decode me_M_injective.2.1 4 = .ok (.ifCond .ne 5, 3) := by decide +kernel
theorem d_M_injective_7 : decode me_M_injective.2.1 7 = .ok (.iconst (-1), 1) := by decide +kernel
theorem d_M_injective_8 : decode me_M_injective.2.1 8 = .ok (.ireturn, 1) := by decide +kernel
theorem d_M_injective_9 : decode me_M_injective.2.1 9 = .ok (.aload_n 0, 1) := by decide +kernel
theorem d_M_injective_10 : decode me_M_injective.2.1 10 = .ok (.getfield 197, 3) := by decide +kernel
theorem d_M_injective_13 : decode me_M_injective.2.1 13 = .ok (.ifCond .ne 44, 3) := by decide +kernel
theorem d_M_injective_16 : decode me_M_injective.2.1 16 = .ok (.aload_n 0, 1) := by decide +kernel
theorem d_M_injective_17 : decode me_M_injective.2.1 17 = .ok (.getfield 182, 3) := by decide +kernel
theorem d_M_injective_20 : decode me_M_injective.2.1 20 = .ok (.iconst 1, 1) := by decide +kernel
theorem d_M_injective_21 : decode me_M_injective.2.1 21 = .ok (.if_icmp .ne 10, 3) := by decide +kernel
theorem d_M_injective_24 : decode me_M_injective.2.1 24 = .ok (.aload_n 0, 1) := by decide +kernel
theorem d_M_injective_25 : decode me_M_injective.2.1 25 = .ok (.invokevirtual 223, 3) := by decide +kernel
theorem d_M_injective_28 : decode me_M_injective.2.1 28 = .ok (.goto 15, 3) := by decide +kernel
theorem d_M_injective_31 : decode me_M_injective.2.1 31 = .ok (.aload_n 0, 1) := by decide +kernel
theorem d_M_injective_32 : decode me_M_injective.2.1 32 = .ok (.invokevirtual 230, 3) := by decide +kernel
theorem d_M_injective_35 : decode me_M_injective.2.1 35 = .ok (.ifCond .ne 7, 3) := by decide +kernel
theorem d_M_injective_38 : decode me_M_injective.2.1 38 = .ok (.iconst 1, 1) := by decide +kernel
theorem d_M_injective_39 : decode me_M_injective.2.1 39 = .ok (.goto 4, 3) := by decide +kernel
theorem d_M_injective_42 : decode me_M_injective.2.1 42 = .ok (.iconst 0, 1) := by decide +kernel
theorem d_M_injective_43 : decode me_M_injective.2.1 43 = .ok (.istore_n 1, 1) := by decide +kernel
theorem d_M_injective_44 : decode me_M_injective.2.1 44 = .ok (.aload_n 0, 1) := by decide +kernel
theorem d_M_injective_45 : decode me_M_injective.2.1 45 = .ok (.iload_n 1, 1) := by decide +kernel
theorem d_M_injective_46 : decode me_M_injective.2.1 46 = .ok (.ifCond .eq 7, 3) := by decide +kernel
theorem d_M_injective_49 : decode me_M_injective.2.1 49 = .ok (.iconst 2, 1) := by decide +kernel
theorem d_M_injective_50 : decode me_M_injective.2.1 50 = .ok (.goto 4, 3) := by decide +kernel
theorem d_M_injective_53 : decode me_M_injective.2.1 53 = .ok (.iconst 1, 1) := by decide +kernel
theorem d_M_injective_54 : decode me_M_injective.2.1 54 = .ok (.putfield 197, 3) := by decide +kernel
theorem d_M_injective_57 : decode me_M_injective.2.1 57 = .ok (.aload_n 0, 1) := by decide +kernel
theorem d_M_injective_58 : decode me_M_injective.2.1 58 = .ok (.getfield 197, 3) := by decide +kernel
theorem d_M_injective_61 : decode me_M_injective.2.1 61 = .ok (.iconst 1, 1) := by decide +kernel
theorem d_M_injective_62 : decode me_M_injective.2.1 62 = .ok (.isub, 1) := by decide +kernel
theorem d_M_injective_63 : decode me_M_injective.2.1 63 = .ok (.ireturn, 1) := by decide +kernel
abbrev G_M_injective_0 (l : Launch) (v : gs_V) (n : Nat) (post : Int32 → gs_S → Prop) (σ : gs_S) : Prop := gG l v lyM 33 me_M_injective n (qI v lyM 33 post) 0 [(0, .ref (v.2.2 0))] [] σ
abbrev G_M_injective_43 (l : Launch) (v : gs_V) (n : Nat) (post : Int32 → gs_S → Prop) (σ : gs_S) (s0 : Int32) : Prop := gG l v lyM 33 me_M_injective n (qI v lyM 33 post) 43 [(0, .ref (v.2.2 0))] [.int s0] σ
abbrev G_M_injective_54 (l : Launch) (v : gs_V) (n : Nat) (post : Int32 → gs_S → Prop) (σ : gs_S) (s0 : Int32) : Prop := gG l v lyM 33 me_M_injective n (qI v lyM 33 post) 54 [(0, .ref (v.2.2 0))] [.int s0, .ref (v.2.2 0)] σ
abbrev G_M_injective_57 (l : Launch) (v : gs_V) (n : Nat) (post : Int32 → gs_S → Prop) (σ : gs_S) : Prop := gG l v lyM 33 me_M_injective n (qI v lyM 33 post) 57 [(0, .ref (v.2.2 0))] [] σ
set_option maxRecDepth 20000 in
set_option maxHeartbeats 1000000 in
theorem T_M_injective_0 {l : Launch} {v : gs_V} {n : Nat} {post : Int32 → gs_S → Prop} {σ : gs_S} (h : ((¬ (σ.1 0 2) = 0 → ((¬ (σ.1 0 29) = 0 → G_M_injective_57 l v n post σ) ∧ ((σ.1 0 29) = 0 → ((¬ (σ.1 0 3) = 1 → gM l v lyM 33 me_M_anyPair n [.ref (v.2.2 0)] σ (qI v lyM 33 (fun r1 σ1 => ((¬ r1 = 0 → G_M_injective_43 l v n post σ1 0) ∧ (r1 = 0 → G_M_injective_43 l v n post σ1 1))))) ∧ ((σ.1 0 3) = 1 → gM l v lyM 33 me_M_makesAll n [.ref (v.2.2 0)] σ (qI v lyM 33 (fun r2 σ2 => G_M_injective_43 l v n post σ2 r2))))))) ∧ ((σ.1 0 2) = 0 → post ((-1)) σ))) : G_M_injective_0 l v n post σ := by
  refine g_aload_n d_M_injective_0 0 rfl rfl ?_
  refine g_getV (x := .int (σ.1 0 2)) d_M_injective_1 fl_M_179 (by decide) rfl rfl rfl ?_
  refine g_if_ne (tgt := 9) d_M_injective_4 rfl (fun hc => ?_) (fun hc => ?_)
  · have h := h.1 hc
    refine g_aload_n d_M_injective_9 0 rfl rfl ?_
    refine g_getV (x := .int (σ.1 0 29)) d_M_injective_10 fl_M_197 (by decide) rfl rfl rfl ?_
    refine g_if_ne (tgt := 57) d_M_injective_13 rfl (fun hc => ?_) (fun hc => ?_)
    · have h := h.1 hc
      exact h
    · have h := h.2 hc
      refine g_aload_n d_M_injective_16 0 rfl rfl ?_
      refine g_getV (x := .int (σ.1 0 3)) d_M_injective_17 fl_M_182 (by decide) rfl rfl rfl ?_
      refine g_iconst d_M_injective_20 (x := 1) (by decide) ?_
      refine g_icmp_ne (tgt := 31) d_M_injective_21 rfl (fun hc => ?_) (fun hc => ?_)
      · have h := h.1 hc
        refine g_aload_n d_M_injective_31 0 rfl rfl ?_
        refine g_callVi (av := []) (rest := []) d_M_injective_32 Y_M_anyPair lk_M_230 (by decide) rfl rfl I_M_anyPair rfl (Nat.le_of_ble_eq_true rfl) rfl h (fun r1 σ1 h => ?_)
        refine g_if_ne (tgt := 42) d_M_injective_35 rfl (fun hc => ?_) (fun hc => ?_)
        · have h := h.1 hc
          refine g_iconst d_M_injective_42 (x := 0) (by decide) ?_
          exact h
        · have h := h.2 hc
          refine g_iconst d_M_injective_38 (x := 1) (by decide) ?_
          refine g_goto (tgt := 43) d_M_injective_39 rfl ?_
          exact h
      · have h := h.2 hc
        refine g_aload_n d_M_injective_24 0 rfl rfl ?_
        refine g_callVi (av := []) (rest := []) d_M_injective_25 Y_M_makesAll lk_M_223 (by decide) rfl rfl I_M_makesAll rfl (Nat.le_of_ble_eq_true rfl) rfl h (fun r2 σ2 h => ?_)
        refine g_goto (tgt := 43) d_M_injective_28 rfl ?_
        exact h
  · have h := h.2 hc
    refine g_iconst d_M_injective_7 (x := (-1)) (by decide) ?_
    exact g_iret d_M_injective_8 rfl h
set_option maxRecDepth 20000 in
set_option maxHeartbeats 1000000 in
theorem T_M_injective_43 {l : Launch} {v : gs_V} {n : Nat} {post : Int32 → gs_S → Prop} {σ : gs_S} {s0 : Int32} (h : ((s0 = 0 → G_M_injective_54 l v n post σ 1) ∧ (¬ s0 = 0 → G_M_injective_54 l v n post σ 2))) : G_M_injective_43 l v n post σ s0 := by
  refine g_istore_n (L' := [(1, .int s0), (0, .ref (v.2.2 0))]) d_M_injective_43 rfl (by decide) rfl ?_
  refine g_aload_n d_M_injective_44 1 rfl rfl ?_
  refine g_iload_n d_M_injective_45 0 rfl rfl ?_
  refine g_if_eq (tgt := 53) d_M_injective_46 rfl (fun hc => ?_) (fun hc => ?_)
  · have h := h.1 hc
    refine g_iconst d_M_injective_53 (x := 1) (by decide) ?_
    exact g_sub [1] rfl h
  · have h := h.2 hc
    refine g_iconst d_M_injective_49 (x := 2) (by decide) ?_
    refine g_goto (tgt := 54) d_M_injective_50 rfl ?_
    exact g_sub [1] rfl h
set_option maxRecDepth 20000 in
set_option maxHeartbeats 1000000 in
theorem T_M_injective_54 {l : Launch} {v : gs_V} {n : Nat} {post : Int32 → gs_S → Prop} {σ : gs_S} {s0 : Int32} (h : G_M_injective_57 l v n post (gs_pI σ 0 29 s0)) : G_M_injective_54 l v n post σ s0 := by
  refine g_putI d_M_injective_54 fp_M_197 (by decide) rfl rfl ⟨rfl, rfl⟩ ?_
  exact h
set_option maxRecDepth 20000 in
set_option maxHeartbeats 1000000 in
theorem T_M_injective_57 {l : Launch} {v : gs_V} {n : Nat} {post : Int32 → gs_S → Prop} {σ : gs_S} (h : post ((σ.1 0 29) - 1) σ) : G_M_injective_57 l v n post σ := by
  refine g_aload_n d_M_injective_57 0 rfl rfl ?_
  refine g_getV (x := .int (σ.1 0 29)) d_M_injective_58 fl_M_197 (by decide) rfl rfl rfl ?_
  refine g_iconst d_M_injective_61 (x := 1) (by decide) ?_
  refine g_isub d_M_injective_62 ?_
  exact g_iret d_M_injective_63 rfl h
theorem E_M_injective {l : Launch} {v : gs_V} {n : Nat} {post : Int32 → gs_S → Prop} {σ : gs_S} (h : G_M_injective_0 l v n post σ) : gM l v lyM 33 me_M_injective (n + 1) [.ref (v.2.2 0)] σ (qI v lyM 33 post) := gM_of (by decide +kernel) (Nat.le_of_ble_eq_true rfl) h
/-! LineRulesModel.inverse -/
theorem d_M_inverse_0 : decode me_M_inverse.2.1 0 = .ok (.aload_n 0, 1) := by decide +kernel
theorem d_M_inverse_1 : decode me_M_inverse.2.1 1 = .ok (.getfield 179, 3) := by decide +kernel
theorem d_M_inverse_4 : decode me_M_inverse.2.1 4 = .ok (.ifCond .eq 12, 3) := by decide +kernel
theorem d_M_inverse_7 : decode me_M_inverse.2.1 7 = .ok (.iload_n 1, 1) := by decide +kernel
theorem d_M_inverse_8 : decode me_M_inverse.2.1 8 = .ok (.ifCond .lt 8, 3) := by decide +kernel
theorem d_M_inverse_11 : decode me_M_inverse.2.1 11 = .ok (.iload_n 1, 1) := by decide +kernel
theorem d_M_inverse_12 : decode me_M_inverse.2.1 12 = .ok (.iconst 1, 1) := by decide +kernel
theorem d_M_inverse_13 : decode me_M_inverse.2.1 13 = .ok (.if_icmp .le 5, 3) := by decide +kernel
theorem d_M_inverse_16 : decode me_M_inverse.2.1 16 = .ok (.iconst (-1), 1) := by decide +kernel
theorem d_M_inverse_17 : decode me_M_inverse.2.1 17 = .ok (.ireturn, 1) := by decide +kernel
theorem d_M_inverse_18 : decode me_M_inverse.2.1 18 = .ok (.aload_n 0, 1) := by decide +kernel
theorem d_M_inverse_19 : decode me_M_inverse.2.1 19 = .ok (.invokevirtual 245, 3) := by decide +kernel
theorem d_M_inverse_22 : decode me_M_inverse.2.1 22 = .ok (.iload_n 1, 1) := by decide +kernel
theorem d_M_inverse_23 : decode me_M_inverse.2.1 23 = .ok (.ifCond .ne 10, 3) := by decide +kernel
theorem d_M_inverse_26 : decode me_M_inverse.2.1 26 = .ok (.aload_n 0, 1) := by decide +kernel
theorem d_M_inverse_27 : decode me_M_inverse.2.1 27 = .ok (.getfield 236, 3) := by decide +kernel
theorem d_M_inverse_30 : decode me_M_inverse.2.1 30 = .ok (.goto 7, 3) := by decide +kernel
theorem d_M_inverse_33 : decode me_M_inverse.2.1 33 = .ok (.aload_n 0, 1) := by decide +kernel
theorem d_M_inverse_34 : decode me_M_inverse.2.1 34 = .ok (.getfield 239, 3) := by decide +kernel
theorem d_M_inverse_37 : decode me_M_inverse.2.1 37 = .ok (.ireturn, 1) := by decide +kernel
abbrev G_M_inverse_0 (l : Launch) (v : gs_V) (n : Nat) (post : Int32 → gs_S → Prop) (σ : gs_S) (x1 : Int32) : Prop := gG l v lyM 33 me_M_inverse n (qI v lyM 33 post) 0 [(0, .ref (v.2.2 0)), (1, .int x1)] [] σ
abbrev G_M_inverse_16 (l : Launch) (v : gs_V) (n : Nat) (post : Int32 → gs_S → Prop) (σ : gs_S) : Prop := gG l v lyM 33 me_M_inverse n (qI v lyM 33 post) 16 [] [] σ
abbrev G_M_inverse_37 (l : Launch) (v : gs_V) (n : Nat) (post : Int32 → gs_S → Prop) (σ : gs_S) (s0 : Int32) : Prop := gG l v lyM 33 me_M_inverse n (qI v lyM 33 post) 37 [] [.int s0] σ
set_option maxRecDepth 20000 in
set_option maxHeartbeats 1000000 in
theorem T_M_inverse_0 {l : Launch} {v : gs_V} {n : Nat} {post : Int32 → gs_S → Prop} {σ : gs_S} {x1 : Int32} (h : (((σ.1 0 2) = 0 → G_M_inverse_16 l v n post σ) ∧ (¬ (σ.1 0 2) = 0 → ((x1 < 0 → G_M_inverse_16 l v n post σ) ∧ (¬ x1 < 0 → ((x1 ≤ 1 → gM l v lyM 33 me_M_findInverse n [.ref (v.2.2 0)] σ (qV v lyM 33 (fun σ1 => ((¬ x1 = 0 → G_M_inverse_37 l v n post σ1 (σ1.1 0 33)) ∧ (x1 = 0 → G_M_inverse_37 l v n post σ1 (σ1.1 0 32)))))) ∧ (¬ x1 ≤ 1 → G_M_inverse_16 l v n post σ))))))) : G_M_inverse_0 l v n post σ x1 := by
  refine g_aload_n d_M_inverse_0 0 rfl rfl ?_
  refine g_getV (x := .int (σ.1 0 2)) d_M_inverse_1 fl_M_179 (by decide) rfl rfl rfl ?_
  refine g_if_eq (tgt := 16) d_M_inverse_4 rfl (fun hc => ?_) (fun hc => ?_)
  · have h := h.1 hc
    exact g_sub [] rfl h
  · have h := h.2 hc
    refine g_iload_n d_M_inverse_7 1 rfl rfl ?_
    refine g_if_lt (tgt := 16) d_M_inverse_8 rfl (fun hc => ?_) (fun hc => ?_)
    · have h := h.1 hc
      exact g_sub [] rfl h
    · have h := h.2 hc
      refine g_iload_n d_M_inverse_11 1 rfl rfl ?_
      refine g_iconst d_M_inverse_12 (x := 1) (by decide) ?_
      refine g_icmp_le (tgt := 18) d_M_inverse_13 rfl (fun hc => ?_) (fun hc => ?_)
      · have h := h.1 hc
        refine g_aload_n d_M_inverse_18 0 rfl rfl ?_
        refine g_callVv (av := []) (rest := []) d_M_inverse_19 Y_M_findInverse lk_M_245 (by decide) rfl rfl I_M_findInverse rfl (Nat.le_of_ble_eq_true rfl) rfl h (fun σ1 h => ?_)
        refine g_iload_n d_M_inverse_22 1 rfl rfl ?_
        refine g_if_ne (tgt := 33) d_M_inverse_23 rfl (fun hc => ?_) (fun hc => ?_)
        · have h := h.1 hc
          refine g_aload_n d_M_inverse_33 0 rfl rfl ?_
          refine g_getV (x := .int (σ1.1 0 33)) d_M_inverse_34 fl_M_239 (by decide) rfl rfl rfl ?_
          exact g_sub [] rfl h
        · have h := h.2 hc
          refine g_aload_n d_M_inverse_26 0 rfl rfl ?_
          refine g_getV (x := .int (σ1.1 0 32)) d_M_inverse_27 fl_M_236 (by decide) rfl rfl rfl ?_
          refine g_goto (tgt := 37) d_M_inverse_30 rfl ?_
          exact g_sub [] rfl h
      · have h := h.2 hc
        exact g_sub [] rfl h
set_option maxRecDepth 20000 in
set_option maxHeartbeats 1000000 in
theorem T_M_inverse_16 {l : Launch} {v : gs_V} {n : Nat} {post : Int32 → gs_S → Prop} {σ : gs_S} (h : post ((-1)) σ) : G_M_inverse_16 l v n post σ := by
  refine g_iconst d_M_inverse_16 (x := (-1)) (by decide) ?_
  exact g_iret d_M_inverse_17 rfl h
set_option maxRecDepth 20000 in
set_option maxHeartbeats 1000000 in
theorem T_M_inverse_37 {l : Launch} {v : gs_V} {n : Nat} {post : Int32 → gs_S → Prop} {σ : gs_S} {s0 : Int32} (h : post s0 σ) : G_M_inverse_37 l v n post σ s0 := by
  exact g_iret d_M_inverse_37 rfl h
theorem E_M_inverse {l : Launch} {v : gs_V} {n : Nat} {post : Int32 → gs_S → Prop} {σ : gs_S} {x1 : Int32} (h : G_M_inverse_0 l v n post σ x1) : gM l v lyM 33 me_M_inverse (n + 1) [.ref (v.2.2 0), .int x1] σ (qI v lyM 33 post) := gM_of (by decide +kernel) (Nat.le_of_ble_eq_true rfl) h
/-! LineRulesModel.load -/
theorem d_M_load_0 : decode me_M_load.2.1 0 = .ok (.iload_n 1, 1) := by decide +kernel
theorem d_M_load_1 : decode me_M_load.2.1 1 = .ok (.bipush 32, 2) := by decide +kernel
theorem d_M_load_3 : decode me_M_load.2.1 3 = .ok (.if_icmp .lt 9, 3) := by decide +kernel
theorem d_M_load_6 : decode me_M_load.2.1 6 = .ok (.iload_n 1, 1) := by decide +kernel
theorem d_M_load_7 : decode me_M_load.2.1 7 = .ok (.bipush 126, 2) := by decide +kernel
theorem d_M_load_9 : decode me_M_load.2.1 9 = .ok (.if_icmp .le 5, 3) := by decide +kernel
theorem d_M_load_12 : decode me_M_load.2.1 12 = .ok (.iconst (-1), 1) := by decide +kernel
theorem d_M_load_13 : decode me_M_load.2.1 13 = .ok (.ireturn, 1) := by decide +kernel
theorem d_M_load_14 : decode me_M_load.2.1 14 = .ok (.aload_n 0, 1) := by decide +kernel
theorem d_M_load_15 : decode me_M_load.2.1 15 = .ok (.getfield 112, 3) := by decide +kernel
theorem d_M_load_18 : decode me_M_load.2.1 18 = .ok (.bipush 64, 2) := by decide +kernel
theorem d_M_load_20 : decode me_M_load.2.1 20 = .ok (.if_icmp .ne 6, 3) := by decide +kernel
theorem d_M_load_23 : decode me_M_load.2.1 23 = .ok (.bipush (-2), 2) := by decide +kernel
theorem d_M_load_25 : decode me_M_load.2.1 25 = .ok (.ireturn, 1) := by decide +kernel
theorem d_M_load_26 : decode me_M_load.2.1 26 = .ok (.aload_n 0, 1) := by decide +kernel
theorem d_M_load_27 : decode me_M_load.2.1 27 = .ok (.getfield 7, 3) := by decide +kernel
theorem d_M_load_30 : decode me_M_load.2.1 30 = .ok (.aload_n 0, 1) := by decide +kernel
theorem d_M_load_31 : decode me_M_load.2.1 31 = .ok (.getfield 112, 3) := by decide +kernel
theorem d_M_load_34 : decode me_M_load.2.1 34 = .ok (.iload_n 1, 1) := by decide +kernel
theorem d_M_load_35 : decode me_M_load.2.1 35 = .ok (.iastore, 1) := by decide +kernel
theorem d_M_load_36 : decode me_M_load.2.1 36 = .ok (.aload_n 0, 1) := by decide +kernel
theorem d_M_load_37 : decode me_M_load.2.1 37 = .ok (.dup, 1) := by decide +kernel
theorem d_M_load_38 : decode me_M_load.2.1 38 = .ok (.getfield 112, 3) := by decide +kernel
theorem d_M_load_41 : decode me_M_load.2.1 41 = .ok (.iconst 1, 1) := by decide +kernel
theorem d_M_load_42 : decode me_M_load.2.1 42 = .ok (.iadd, 1) := by decide +kernel
theorem d_M_load_43 : decode me_M_load.2.1 43 = .ok (.putfield 112, 3) := by decide +kernel
theorem d_M_load_46 : decode me_M_load.2.1 46 = .ok (.aload_n 0, 1) := by decide +kernel
theorem d_M_load_47 : decode me_M_load.2.1 47 = .ok (.getfield 112, 3) := by decide +kernel
theorem d_M_load_50 : decode me_M_load.2.1 50 = .ok (.ireturn, 1) := by decide +kernel
abbrev G_M_load_0 (l : Launch) (v : gs_V) (n : Nat) (post : Int32 → gs_S → Prop) (σ : gs_S) (x1 : Int32) : Prop := gG l v lyM 33 me_M_load n (qI v lyM 33 post) 0 [(0, .ref (v.2.2 0)), (1, .int x1)] [] σ
abbrev G_M_load_12 (l : Launch) (v : gs_V) (n : Nat) (post : Int32 → gs_S → Prop) (σ : gs_S) : Prop := gG l v lyM 33 me_M_load n (qI v lyM 33 post) 12 [] [] σ
set_option maxRecDepth 20000 in
set_option maxHeartbeats 1000000 in
theorem T_M_load_0 {l : Launch} {v : gs_V} {n : Nat} {post : Int32 → gs_S → Prop} {σ : gs_S} {x1 : Int32} (h : ((x1 < 32 → G_M_load_12 l v n post σ) ∧ (¬ x1 < 32 → ((x1 ≤ 126 → ((¬ (σ.1 0 0) = 64 → vp_in (σ.1 0 0) 64 ∧ post ((σ.1 0 0) + 1) (gs_pI (gs_pI σ 1 ((σ.1 0 0).toNatClampNeg) x1) 0 0 ((σ.1 0 0) + 1))) ∧ ((σ.1 0 0) = 64 → post ((-2)) σ))) ∧ (¬ x1 ≤ 126 → G_M_load_12 l v n post σ))))) : G_M_load_0 l v n post σ x1 := by
  refine g_iload_n d_M_load_0 1 rfl rfl ?_
  refine g_bipush d_M_load_1 (x := 32) (by decide) ?_
  refine g_icmp_lt (tgt := 12) d_M_load_3 rfl (fun hc => ?_) (fun hc => ?_)
  · have h := h.1 hc
    exact g_sub [] rfl h
  · have h := h.2 hc
    refine g_iload_n d_M_load_6 1 rfl rfl ?_
    refine g_bipush d_M_load_7 (x := 126) (by decide) ?_
    refine g_icmp_le (tgt := 14) d_M_load_9 rfl (fun hc => ?_) (fun hc => ?_)
    · have h := h.1 hc
      refine g_aload_n d_M_load_14 0 rfl rfl ?_
      refine g_getV (x := .int (σ.1 0 0)) d_M_load_15 fl_M_112 (by decide) rfl rfl rfl ?_
      refine g_bipush d_M_load_18 (x := 64) (by decide) ?_
      refine g_icmp_ne (tgt := 26) d_M_load_20 rfl (fun hc => ?_) (fun hc => ?_)
      · have h := h.1 hc
        refine g_aload_n d_M_load_26 0 rfl rfl ?_
        refine g_getV (x := .ref (v.2.2 1)) d_M_load_27 fl_M_7 (by decide) rfl rfl rfl ?_
        refine g_aload_n d_M_load_30 0 rfl rfl ?_
        refine g_getV (x := .int (σ.1 0 0)) d_M_load_31 fl_M_112 (by decide) rfl rfl rfl ?_
        refine g_iload_n d_M_load_34 1 rfl rfl ?_
        have hi1 := h.1
        have h := h.2
        refine g_iast d_M_load_35 (by decide) rfl hi1 ?_
        refine g_aload_n d_M_load_36 0 rfl rfl ?_
        refine g_dup d_M_load_37 rfl ?_
        refine g_getV (x := .int (σ.1 0 0)) d_M_load_38 fl_M_112 (by decide) rfl rfl rfl ?_
        refine g_iconst d_M_load_41 (x := 1) (by decide) ?_
        refine g_iadd d_M_load_42 ?_
        refine g_putI d_M_load_43 fp_M_112 (by decide) rfl rfl ⟨rfl, rfl⟩ ?_
        refine g_aload_n d_M_load_46 0 rfl rfl ?_
        refine g_getV (x := .int ((σ.1 0 0) + 1)) d_M_load_47 fl_M_112 (by decide) rfl rfl rfl ?_
        exact g_iret d_M_load_50 rfl h
      · have h := h.2 hc
        refine g_bipush d_M_load_23 (x := (-2)) (by decide) ?_
        exact g_iret d_M_load_25 rfl h
    · have h := h.2 hc
      exact g_sub [] rfl h
set_option maxRecDepth 20000 in
set_option maxHeartbeats 1000000 in
theorem T_M_load_12 {l : Launch} {v : gs_V} {n : Nat} {post : Int32 → gs_S → Prop} {σ : gs_S} (h : post ((-1)) σ) : G_M_load_12 l v n post σ := by
  refine g_iconst d_M_load_12 (x := (-1)) (by decide) ?_
  exact g_iret d_M_load_13 rfl h
theorem E_M_load {l : Launch} {v : gs_V} {n : Nat} {post : Int32 → gs_S → Prop} {σ : gs_S} {x1 : Int32} (h : G_M_load_0 l v n post σ x1) : gM l v lyM 33 me_M_load (n + 1) [.ref (v.2.2 0), .int x1] σ (qI v lyM 33 post) := gM_of (by decide +kernel) (Nat.le_of_ble_eq_true rfl) h
/-! LineRulesModel.next -/
theorem d_M_next_0 : decode me_M_next.2.1 0 = .ok (.aload_n 0, 1) := by decide +kernel
theorem d_M_next_1 : decode me_M_next.2.1 1 = .ok (.getfield 179, 3) := by decide +kernel
theorem d_M_next_4 : decode me_M_next.2.1 4 = .ok (.ifCond .le 24, 3) := by decide +kernel
theorem d_M_next_7 : decode me_M_next.2.1 7 = .ok (.iload_n 1, 1) := by decide +kernel
theorem d_M_next_8 : decode me_M_next.2.1 8 = .ok (.ifCond .lt 20, 3) := by decide +kernel
theorem d_M_next_11 : decode me_M_next.2.1 11 = .ok (.iload_n 1, 1) := by decide +kernel
theorem d_M_next_12 : decode me_M_next.2.1 12 = .ok (.aload_n 0, 1) := by decide +kernel
theorem d_M_next_13 : decode me_M_next.2.1 13 = .ok (.getfield 185, 3) := by decide +kernel
theorem d_M_next_16 : decode me_M_next.2.1 16 = .ok (.if_icmp .ge 12, 3) := by decide +kernel
theorem d_M_next_19 : decode me_M_next.2.1 19 = .ok (.aload_n 0, 1) := by decide +kernel
theorem d_M_next_20 : decode me_M_next.2.1 20 = .ok (.getfield 13, 3) := by decide +kernel
theorem d_M_next_23 : decode me_M_next.2.1 23 = .ok (.iload_n 1, 1) := by decide +kernel
theorem d_M_next_24 : decode me_M_next.2.1 24 = .ok (.iaload, 1) := by decide +kernel
theorem d_M_next_25 : decode me_M_next.2.1 25 = .ok (.goto 4, 3) := by decide +kernel
theorem d_M_next_28 : decode me_M_next.2.1 28 = .ok (.iconst (-1), 1) := by decide +kernel
theorem d_M_next_29 : decode me_M_next.2.1 29 = .ok (.ireturn, 1) := by decide +kernel
abbrev G_M_next_0 (l : Launch) (v : gs_V) (n : Nat) (post : Int32 → gs_S → Prop) (σ : gs_S) (x1 : Int32) : Prop := gG l v lyM 33 me_M_next n (qI v lyM 33 post) 0 [(0, .ref (v.2.2 0)), (1, .int x1)] [] σ
abbrev G_M_next_28 (l : Launch) (v : gs_V) (n : Nat) (post : Int32 → gs_S → Prop) (σ : gs_S) : Prop := gG l v lyM 33 me_M_next n (qI v lyM 33 post) 28 [] [] σ
abbrev G_M_next_29 (l : Launch) (v : gs_V) (n : Nat) (post : Int32 → gs_S → Prop) (σ : gs_S) (s0 : Int32) : Prop := gG l v lyM 33 me_M_next n (qI v lyM 33 post) 29 [] [.int s0] σ
set_option maxRecDepth 20000 in
set_option maxHeartbeats 1000000 in
theorem T_M_next_0 {l : Launch} {v : gs_V} {n : Nat} {post : Int32 → gs_S → Prop} {σ : gs_S} {x1 : Int32} (h : (((σ.1 0 2) ≤ 0 → G_M_next_28 l v n post σ) ∧ (¬ (σ.1 0 2) ≤ 0 → ((x1 < 0 → G_M_next_28 l v n post σ) ∧ (¬ x1 < 0 → (((σ.1 0 5) ≤ x1 → G_M_next_28 l v n post σ) ∧ (¬ (σ.1 0 5) ≤ x1 → vp_in x1 256 ∧ G_M_next_29 l v n post σ (σ.1 2 x1.toNatClampNeg)))))))) : G_M_next_0 l v n post σ x1 := by
  refine g_aload_n d_M_next_0 0 rfl rfl ?_
  refine g_getV (x := .int (σ.1 0 2)) d_M_next_1 fl_M_179 (by decide) rfl rfl rfl ?_
  refine g_if_le (tgt := 28) d_M_next_4 rfl (fun hc => ?_) (fun hc => ?_)
  · have h := h.1 hc
    exact g_sub [] rfl h
  · have h := h.2 hc
    refine g_iload_n d_M_next_7 1 rfl rfl ?_
    refine g_if_lt (tgt := 28) d_M_next_8 rfl (fun hc => ?_) (fun hc => ?_)
    · have h := h.1 hc
      exact g_sub [] rfl h
    · have h := h.2 hc
      refine g_iload_n d_M_next_11 1 rfl rfl ?_
      refine g_aload_n d_M_next_12 0 rfl rfl ?_
      refine g_getV (x := .int (σ.1 0 5)) d_M_next_13 fl_M_185 (by decide) rfl rfl rfl ?_
      refine g_icmp_ge (tgt := 28) d_M_next_16 rfl (fun hc => ?_) (fun hc => ?_)
      · have h := h.1 hc
        exact g_sub [] rfl h
      · have h := h.2 hc
        refine g_aload_n d_M_next_19 0 rfl rfl ?_
        refine g_getV (x := .ref (v.2.2 2)) d_M_next_20 fl_M_13 (by decide) rfl rfl rfl ?_
        refine g_iload_n d_M_next_23 1 rfl rfl ?_
        have hi1 := h.1
        have h := h.2
        refine g_iald (x := σ.1 2 x1.toNatClampNeg) d_M_next_24 (by decide) rfl hi1 rfl ?_
        refine g_goto (tgt := 29) d_M_next_25 rfl ?_
        exact g_sub [] rfl h
set_option maxRecDepth 20000 in
set_option maxHeartbeats 1000000 in
theorem T_M_next_28 {l : Launch} {v : gs_V} {n : Nat} {post : Int32 → gs_S → Prop} {σ : gs_S} (h : G_M_next_29 l v n post σ ((-1))) : G_M_next_28 l v n post σ := by
  refine g_iconst d_M_next_28 (x := (-1)) (by decide) ?_
  exact h
set_option maxRecDepth 20000 in
set_option maxHeartbeats 1000000 in
theorem T_M_next_29 {l : Launch} {v : gs_V} {n : Nat} {post : Int32 → gs_S → Prop} {σ : gs_S} {s0 : Int32} (h : post s0 σ) : G_M_next_29 l v n post σ s0 := by
  exact g_iret d_M_next_29 rfl h
theorem E_M_next {l : Launch} {v : gs_V} {n : Nat} {post : Int32 → gs_S → Prop} {σ : gs_S} {x1 : Int32} (h : G_M_next_0 l v n post σ x1) : gM l v lyM 33 me_M_next (n + 1) [.ref (v.2.2 0), .int x1] σ (qI v lyM 33 post) := gM_of (by decide +kernel) (Nat.le_of_ble_eq_true rfl) h
/-! LineRulesModel.orphan -/
theorem d_M_orphan_0 : decode me_M_orphan.2.1 0 = .ok (.aload_n 0, 1) := by decide +kernel
theorem d_M_orphan_1 : decode me_M_orphan.2.1 1 = .ok (.getfield 179, 3) := by decide +kernel
theorem d_M_orphan_4 : decode me_M_orphan.2.1 4 = .ok (.ifCond .ne 5, 3) := by decide +kernel
theorem d_M_orphan_7 : decode me_M_orphan.2.1 7 = .ok (.iconst (-1), 1) := by decide +kernel
theorem d_M_orphan_8 : decode me_M_orphan.2.1 8 = .ok (.ireturn, 1) := by decide +kernel
theorem d_M_orphan_9 : decode me_M_orphan.2.1 9 = .ok (.aload_n 0, 1) := by decide +kernel
theorem d_M_orphan_10 : decode me_M_orphan.2.1 10 = .ok (.invokevirtual 285, 3) := by decide +kernel
theorem d_M_orphan_13 : decode me_M_orphan.2.1 13 = .ok (.aload_n 0, 1) := by decide +kernel
theorem d_M_orphan_14 : decode me_M_orphan.2.1 14 = .ok (.getfield 270, 3) := by decide +kernel
theorem d_M_orphan_17 : decode me_M_orphan.2.1 17 = .ok (.ireturn, 1) := by decide +kernel
abbrev G_M_orphan_0 (l : Launch) (v : gs_V) (n : Nat) (post : Int32 → gs_S → Prop) (σ : gs_S) : Prop := gG l v lyM 33 me_M_orphan n (qI v lyM 33 post) 0 [(0, .ref (v.2.2 0))] [] σ
set_option maxRecDepth 20000 in
set_option maxHeartbeats 1000000 in
theorem T_M_orphan_0 {l : Launch} {v : gs_V} {n : Nat} {post : Int32 → gs_S → Prop} {σ : gs_S} (h : ((¬ (σ.1 0 2) = 0 → gM l v lyM 33 me_M_findOrphan n [.ref (v.2.2 0)] σ (qV v lyM 33 (fun σ1 => post (σ1.1 0 42) σ1))) ∧ ((σ.1 0 2) = 0 → post ((-1)) σ))) : G_M_orphan_0 l v n post σ := by
  refine g_aload_n d_M_orphan_0 0 rfl rfl ?_
  refine g_getV (x := .int (σ.1 0 2)) d_M_orphan_1 fl_M_179 (by decide) rfl rfl rfl ?_
  refine g_if_ne (tgt := 9) d_M_orphan_4 rfl (fun hc => ?_) (fun hc => ?_)
  · have h := h.1 hc
    refine g_aload_n d_M_orphan_9 0 rfl rfl ?_
    refine g_callVv (av := []) (rest := []) d_M_orphan_10 Y_M_findOrphan lk_M_285 (by decide) rfl rfl I_M_findOrphan rfl (Nat.le_of_ble_eq_true rfl) rfl h (fun σ1 h => ?_)
    refine g_aload_n d_M_orphan_13 0 rfl rfl ?_
    refine g_getV (x := .int (σ1.1 0 42)) d_M_orphan_14 fl_M_270 (by decide) rfl rfl rfl ?_
    exact g_iret d_M_orphan_17 rfl h
  · have h := h.2 hc
    refine g_iconst d_M_orphan_7 (x := (-1)) (by decide) ?_
    exact g_iret d_M_orphan_8 rfl h
theorem E_M_orphan {l : Launch} {v : gs_V} {n : Nat} {post : Int32 → gs_S → Prop} {σ : gs_S} (h : G_M_orphan_0 l v n post σ) : gM l v lyM 33 me_M_orphan (n + 1) [.ref (v.2.2 0)] σ (qI v lyM 33 post) := gM_of (by decide +kernel) (Nat.le_of_ble_eq_true rfl) h
/-! LineRulesModel.orphanAt -/
theorem d_M_orphanAt_0 : decode me_M_orphanAt.2.1 0 = .ok (.aload_n 0, 1) := by decide +kernel
theorem d_M_orphanAt_1 : decode me_M_orphanAt.2.1 1 = .ok (.getfield 179, 3) := by decide +kernel
theorem d_M_orphanAt_4 : decode me_M_orphanAt.2.1 4 = .ok (.ifCond .ne 5, 3) := by decide +kernel
theorem d_M_orphanAt_7 : decode me_M_orphanAt.2.1 7 = .ok (.iconst (-1), 1) := by decide +kernel
theorem d_M_orphanAt_8 : decode me_M_orphanAt.2.1 8 = .ok (.ireturn, 1) := by decide +kernel
theorem d_M_orphanAt_9 : decode me_M_orphanAt.2.1 9 = .ok (.aload_n 0, 1) := by decide +kernel
theorem d_M_orphanAt_10 : decode me_M_orphanAt.2.1 10 = .ok (.invokevirtual 285, 3) := by decide +kernel
theorem d_M_orphanAt_13 : decode me_M_orphanAt.2.1 13 = .ok (.iload_n 1, 1) := by decide +kernel
theorem d_M_orphanAt_14 : decode me_M_orphanAt.2.1 14 = .ok (.ifCond .lt 20, 3) := by decide +kernel
theorem d_M_orphanAt_17 : decode me_M_orphanAt.2.1 17 = .ok (.iload_n 1, 1) := by decide +kernel
theorem d_M_orphanAt_18 : decode me_M_orphanAt.2.1 18 = .ok (.aload_n 0, 1) := by decide +kernel
theorem d_M_orphanAt_19 : decode me_M_orphanAt.2.1 19 = .ok (.getfield 270, 3) := by decide +kernel
theorem d_M_orphanAt_22 : decode me_M_orphanAt.2.1 22 = .ok (.if_icmp .ge 12, 3) := by decide +kernel
theorem d_M_orphanAt_25 : decode me_M_orphanAt.2.1 25 = .ok (.aload_n 0, 1) := by decide +kernel
theorem d_M_orphanAt_26 : decode me_M_orphanAt.2.1 26 = .ok (.getfield 88, 3) := by decide +kernel
theorem d_M_orphanAt_29 : decode me_M_orphanAt.2.1 29 = .ok (.iload_n 1, 1) := by decide +kernel
theorem d_M_orphanAt_30 : decode me_M_orphanAt.2.1 30 = .ok (.iaload, 1) := by decide +kernel
theorem d_M_orphanAt_31 : decode me_M_orphanAt.2.1 31 = .ok (.goto 4, 3) := by decide +kernel
theorem d_M_orphanAt_34 : decode me_M_orphanAt.2.1 34 = .ok (.iconst (-1), 1) := by decide +kernel
theorem d_M_orphanAt_35 : decode me_M_orphanAt.2.1 35 = .ok (.ireturn, 1) := by decide +kernel
abbrev G_M_orphanAt_0 (l : Launch) (v : gs_V) (n : Nat) (post : Int32 → gs_S → Prop) (σ : gs_S) (x1 : Int32) : Prop := gG l v lyM 33 me_M_orphanAt n (qI v lyM 33 post) 0 [(0, .ref (v.2.2 0)), (1, .int x1)] [] σ
abbrev G_M_orphanAt_34 (l : Launch) (v : gs_V) (n : Nat) (post : Int32 → gs_S → Prop) (σ : gs_S) : Prop := gG l v lyM 33 me_M_orphanAt n (qI v lyM 33 post) 34 [] [] σ
abbrev G_M_orphanAt_35 (l : Launch) (v : gs_V) (n : Nat) (post : Int32 → gs_S → Prop) (σ : gs_S) (s0 : Int32) : Prop := gG l v lyM 33 me_M_orphanAt n (qI v lyM 33 post) 35 [] [.int s0] σ
set_option maxRecDepth 20000 in
set_option maxHeartbeats 1000000 in
theorem T_M_orphanAt_0 {l : Launch} {v : gs_V} {n : Nat} {post : Int32 → gs_S → Prop} {σ : gs_S} {x1 : Int32} (h : ((¬ (σ.1 0 2) = 0 → gM l v lyM 33 me_M_findOrphan n [.ref (v.2.2 0)] σ (qV v lyM 33 (fun σ1 => ((x1 < 0 → G_M_orphanAt_34 l v n post σ1) ∧ (¬ x1 < 0 → (((σ1.1 0 42) ≤ x1 → G_M_orphanAt_34 l v n post σ1) ∧ (¬ (σ1.1 0 42) ≤ x1 → vp_in x1 512 ∧ G_M_orphanAt_35 l v n post σ1 (σ1.1 25 x1.toNatClampNeg)))))))) ∧ ((σ.1 0 2) = 0 → post ((-1)) σ))) : G_M_orphanAt_0 l v n post σ x1 := by
  refine g_aload_n d_M_orphanAt_0 0 rfl rfl ?_
  refine g_getV (x := .int (σ.1 0 2)) d_M_orphanAt_1 fl_M_179 (by decide) rfl rfl rfl ?_
  refine g_if_ne (tgt := 9) d_M_orphanAt_4 rfl (fun hc => ?_) (fun hc => ?_)
  · have h := h.1 hc
    refine g_aload_n d_M_orphanAt_9 0 rfl rfl ?_
    refine g_callVv (av := []) (rest := []) d_M_orphanAt_10 Y_M_findOrphan lk_M_285 (by decide) rfl rfl I_M_findOrphan rfl (Nat.le_of_ble_eq_true rfl) rfl h (fun σ1 h => ?_)
    refine g_iload_n d_M_orphanAt_13 1 rfl rfl ?_
    refine g_if_lt (tgt := 34) d_M_orphanAt_14 rfl (fun hc => ?_) (fun hc => ?_)
    · have h := h.1 hc
      exact g_sub [] rfl h
    · have h := h.2 hc
      refine g_iload_n d_M_orphanAt_17 1 rfl rfl ?_
      refine g_aload_n d_M_orphanAt_18 0 rfl rfl ?_
      refine g_getV (x := .int (σ1.1 0 42)) d_M_orphanAt_19 fl_M_270 (by decide) rfl rfl rfl ?_
      refine g_icmp_ge (tgt := 34) d_M_orphanAt_22 rfl (fun hc => ?_) (fun hc => ?_)
      · have h := h.1 hc
        exact g_sub [] rfl h
      · have h := h.2 hc
        refine g_aload_n d_M_orphanAt_25 0 rfl rfl ?_
        refine g_getV (x := .ref (v.2.2 25)) d_M_orphanAt_26 fl_M_88 (by decide) rfl rfl rfl ?_
        refine g_iload_n d_M_orphanAt_29 1 rfl rfl ?_
        have hi2 := h.1
        have h := h.2
        refine g_iald (x := σ1.1 25 x1.toNatClampNeg) d_M_orphanAt_30 (by decide) rfl hi2 rfl ?_
        refine g_goto (tgt := 35) d_M_orphanAt_31 rfl ?_
        exact g_sub [] rfl h
  · have h := h.2 hc
    refine g_iconst d_M_orphanAt_7 (x := (-1)) (by decide) ?_
    exact g_iret d_M_orphanAt_8 rfl h
set_option maxRecDepth 20000 in
set_option maxHeartbeats 1000000 in
theorem T_M_orphanAt_34 {l : Launch} {v : gs_V} {n : Nat} {post : Int32 → gs_S → Prop} {σ : gs_S} (h : G_M_orphanAt_35 l v n post σ ((-1))) : G_M_orphanAt_34 l v n post σ := by
  refine g_iconst d_M_orphanAt_34 (x := (-1)) (by decide) ?_
  exact h
set_option maxRecDepth 20000 in
set_option maxHeartbeats 1000000 in
theorem T_M_orphanAt_35 {l : Launch} {v : gs_V} {n : Nat} {post : Int32 → gs_S → Prop} {σ : gs_S} {s0 : Int32} (h : post s0 σ) : G_M_orphanAt_35 l v n post σ s0 := by
  exact g_iret d_M_orphanAt_35 rfl h
theorem E_M_orphanAt {l : Launch} {v : gs_V} {n : Nat} {post : Int32 → gs_S → Prop} {σ : gs_S} {x1 : Int32} (h : G_M_orphanAt_0 l v n post σ x1) : gM l v lyM 33 me_M_orphanAt (n + 1) [.ref (v.2.2 0), .int x1] σ (qI v lyM 33 post) := gM_of (by decide +kernel) (Nat.le_of_ble_eq_true rfl) h
/-! LineRulesModel.population -/
theorem d_M_population_0 : decode me_M_population.2.1 0 = .ok (.aload_n 0, 1) := by decide +kernel
theorem d_M_population_1 : decode me_M_population.2.1 1 = .ok (.getfield 179, 3) := by decide +kernel
theorem d_M_population_4 : decode me_M_population.2.1 4 = .ok (.ifCond .eq 15, 3) := by decide +kernel
theorem d_M_population_7 : decode me_M_population.2.1 7 = .ok (.iload_n 1, 1) := by decide +kernel
theorem d_M_population_8 : decode me_M_population.2.1 8 = .ok (.ifCond .lt 11, 3) := by decide +kernel
theorem d_M_population_11 : decode me_M_population.2.1 11 = .ok (.iload_n 1, 1) := by decide +kernel
theorem d_M_population_12 : decode me_M_population.2.1 12 = .ok (.aload_n 0, 1) := by decide +kernel
theorem d_M_population_13 : decode me_M_population.2.1 13 = .ok (.getfield 179, 3) := by decide +kernel
theorem d_M_population_16 : decode me_M_population.2.1 16 = .ok (.if_icmp .lt 5, 3) := by decide +kernel
theorem d_M_population_19 : decode me_M_population.2.1 19 = .ok (.iconst (-1), 1) := by decide +kernel
theorem d_M_population_20 : decode me_M_population.2.1 20 = .ok (.ireturn, 1) := by decide +kernel
theorem d_M_population_21 : decode me_M_population.2.1 21 = .ok (.iconst 0, 1) := by decide +kernel
theorem d_M_population_22 : decode me_M_population.2.1 22 = .ok (.istore_n 2, 1) := by decide +kernel
theorem d_M_population_23 : decode me_M_population.2.1 23 = .ok (.iconst 0, 1) := by decide +kernel
theorem d_M_population_24 : decode me_M_population.2.1 24 = .ok (.istore_n 3, 1) := by decide +kernel
theorem d_M_population_25 : decode me_M_population.2.1 25 = .ok (.iload_n 3, 1) := by decide +kernel
theorem d_M_population_26 : decode me_M_population.2.1 26 = .ok (.aload_n 0, 1) := by decide +kernel
theorem d_M_population_27 : decode me_M_population.2.1 27 = .ok (.getfield 16, 3) := by decide +kernel
theorem d_M_population_30 : decode me_M_population.2.1 30 = .ok (.if_icmp .ge 27, 3) := by decide +kernel
theorem d_M_population_33 : decode me_M_population.2.1 33 = .ok (.aload_n 0, 1) := by decide +kernel
theorem d_M_population_34 : decode me_M_population.2.1 34 = .ok (.getfield 20, 3) := by decide +kernel
theorem d_M_population_37 : decode me_M_population.2.1 37 = .ok (.iload_n 3, 1) := by decide +kernel
theorem d_M_population_38 : decode me_M_population.2.1 38 = .ok (.iaload, 1) := by decide +kernel
theorem d_M_population_39 : decode me_M_population.2.1 39 = .ok (.iload_n 1, 1) := by decide +kernel
theorem d_M_population_40 : decode me_M_population.2.1 40 = .ok (.if_icmp .ne 9, 3) := by decide +kernel
theorem d_M_population_43 : decode me_M_population.2.1 43 = .ok (.iload_n 2, 1) := by decide +kernel
theorem d_M_population_44 : decode me_M_population.2.1 44 = .ok (.iconst 1, 1) := by decide +kernel
theorem d_M_population_45 : decode me_M_population.2.1 45 = .ok (.iadd, 1) := by decide +kernel
theorem d_M_population_46 : decode me_M_population.2.1 46 = .ok (.goto 4, 3) := by decide +kernel
theorem d_M_population_49 : decode me_M_population.2.1 49 = .ok (.iload_n 2, 1) := by decide +kernel
theorem d_M_population_50 : decode me_M_population.2.1 50 = .ok (.istore_n 2, 1) := by decide +kernel
theorem d_M_population_51 : decode me_M_population.2.1 51 = .ok (.iinc 3 1, 3) := by decide +kernel
theorem d_M_population_54 : decode me_M_population.2.1 54 = .ok (.goto (-29), 3) := by decide +kernel
theorem d_M_population_57 : decode me_M_population.2.1 57 = .ok (.iload_n 2, 1) := by decide +kernel
theorem d_M_population_58 : decode me_M_population.2.1 58 = .ok (.ireturn, 1) := by decide +kernel
abbrev G_M_population_0 (l : Launch) (v : gs_V) (n : Nat) (post : Int32 → gs_S → Prop) (σ : gs_S) (x1 : Int32) : Prop := gG l v lyM 33 me_M_population n (qI v lyM 33 post) 0 [(0, .ref (v.2.2 0)), (1, .int x1)] [] σ
abbrev G_M_population_19 (l : Launch) (v : gs_V) (n : Nat) (post : Int32 → gs_S → Prop) (σ : gs_S) : Prop := gG l v lyM 33 me_M_population n (qI v lyM 33 post) 19 [] [] σ
abbrev G_M_population_25 (l : Launch) (v : gs_V) (n : Nat) (post : Int32 → gs_S → Prop) (σ : gs_S) (x1 : Int32) (x2 : Int32) (x3 : Int32) : Prop := gG l v lyM 33 me_M_population n (qI v lyM 33 post) 25 [(0, .ref (v.2.2 0)), (1, .int x1), (2, .int x2), (3, .int x3)] [] σ
abbrev G_M_population_50 (l : Launch) (v : gs_V) (n : Nat) (post : Int32 → gs_S → Prop) (σ : gs_S) (x1 : Int32) (x3 : Int32) (s0 : Int32) : Prop := gG l v lyM 33 me_M_population n (qI v lyM 33 post) 50 [(0, .ref (v.2.2 0)), (1, .int x1), (3, .int x3)] [.int s0] σ
set_option maxRecDepth 20000 in
set_option maxHeartbeats 1000000 in
theorem T_M_population_0 {l : Launch} {v : gs_V} {n : Nat} {post : Int32 → gs_S → Prop} {σ : gs_S} {x1 : Int32} (h : (((σ.1 0 2) = 0 → G_M_population_19 l v n post σ) ∧ (¬ (σ.1 0 2) = 0 → ((x1 < 0 → G_M_population_19 l v n post σ) ∧ (¬ x1 < 0 → ((x1 < (σ.1 0 2) → G_M_population_25 l v n post σ x1 0 0) ∧ (¬ x1 < (σ.1 0 2) → G_M_population_19 l v n post σ))))))) : G_M_population_0 l v n post σ x1 := by
  refine g_aload_n d_M_population_0 0 rfl rfl ?_
  refine g_getV (x := .int (σ.1 0 2)) d_M_population_1 fl_M_179 (by decide) rfl rfl rfl ?_
  refine g_if_eq (tgt := 19) d_M_population_4 rfl (fun hc => ?_) (fun hc => ?_)
  · have h := h.1 hc
    exact g_sub [] rfl h
  · have h := h.2 hc
    refine g_iload_n d_M_population_7 1 rfl rfl ?_
    refine g_if_lt (tgt := 19) d_M_population_8 rfl (fun hc => ?_) (fun hc => ?_)
    · have h := h.1 hc
      exact g_sub [] rfl h
    · have h := h.2 hc
      refine g_iload_n d_M_population_11 1 rfl rfl ?_
      refine g_aload_n d_M_population_12 0 rfl rfl ?_
      refine g_getV (x := .int (σ.1 0 2)) d_M_population_13 fl_M_179 (by decide) rfl rfl rfl ?_
      refine g_icmp_lt (tgt := 21) d_M_population_16 rfl (fun hc => ?_) (fun hc => ?_)
      · have h := h.1 hc
        refine g_iconst d_M_population_21 (x := 0) (by decide) ?_
        refine g_istore_n (L' := [(2, .int 0), (0, .ref (v.2.2 0)), (1, .int x1)]) d_M_population_22 rfl (by decide) rfl ?_
        refine g_iconst d_M_population_23 (x := 0) (by decide) ?_
        refine g_istore_n (L' := [(3, .int 0), (2, .int 0), (0, .ref (v.2.2 0)), (1, .int x1)]) d_M_population_24 rfl (by decide) rfl ?_
        exact g_sub [2, 3, 1, 0] rfl h
      · have h := h.2 hc
        exact g_sub [] rfl h
set_option maxRecDepth 20000 in
set_option maxHeartbeats 1000000 in
theorem T_M_population_19 {l : Launch} {v : gs_V} {n : Nat} {post : Int32 → gs_S → Prop} {σ : gs_S} (h : post ((-1)) σ) : G_M_population_19 l v n post σ := by
  refine g_iconst d_M_population_19 (x := (-1)) (by decide) ?_
  exact g_iret d_M_population_20 rfl h
set_option maxRecDepth 20000 in
set_option maxHeartbeats 1000000 in
theorem T_M_population_25 {l : Launch} {v : gs_V} {n : Nat} {post : Int32 → gs_S → Prop} {σ : gs_S} {x1 : Int32} {x2 : Int32} {x3 : Int32} (h : (((σ.1 0 7) ≤ x3 → post x2 σ) ∧ (¬ (σ.1 0 7) ≤ x3 → vp_in x3 64 ∧ ((¬ (σ.1 3 x3.toNatClampNeg) = x1 → G_M_population_50 l v n post σ x1 x3 x2) ∧ ((σ.1 3 x3.toNatClampNeg) = x1 → G_M_population_50 l v n post σ x1 x3 (x2 + 1)))))) : G_M_population_25 l v n post σ x1 x2 x3 := by
  refine g_iload_n d_M_population_25 3 rfl rfl ?_
  refine g_aload_n d_M_population_26 0 rfl rfl ?_
  refine g_getV (x := .int (σ.1 0 7)) d_M_population_27 fl_M_16 (by decide) rfl rfl rfl ?_
  refine g_icmp_ge (tgt := 57) d_M_population_30 rfl (fun hc => ?_) (fun hc => ?_)
  · have h := h.1 hc
    refine g_iload_n d_M_population_57 2 rfl rfl ?_
    exact g_iret d_M_population_58 rfl h
  · have h := h.2 hc
    refine g_aload_n d_M_population_33 0 rfl rfl ?_
    refine g_getV (x := .ref (v.2.2 3)) d_M_population_34 fl_M_20 (by decide) rfl rfl rfl ?_
    refine g_iload_n d_M_population_37 3 rfl rfl ?_
    have hi1 := h.1
    have h := h.2
    refine g_iald (x := σ.1 3 x3.toNatClampNeg) d_M_population_38 (by decide) rfl hi1 rfl ?_
    refine g_iload_n d_M_population_39 1 rfl rfl ?_
    refine g_icmp_ne (tgt := 49) d_M_population_40 rfl (fun hc => ?_) (fun hc => ?_)
    · have h := h.1 hc
      refine g_iload_n d_M_population_49 2 rfl rfl ?_
      exact g_sub [0, 1, 3] rfl h
    · have h := h.2 hc
      refine g_iload_n d_M_population_43 2 rfl rfl ?_
      refine g_iconst d_M_population_44 (x := 1) (by decide) ?_
      refine g_iadd d_M_population_45 ?_
      refine g_goto (tgt := 50) d_M_population_46 rfl ?_
      exact g_sub [0, 1, 3] rfl h
set_option maxRecDepth 20000 in
set_option maxHeartbeats 1000000 in
theorem T_M_population_50 {l : Launch} {v : gs_V} {n : Nat} {post : Int32 → gs_S → Prop} {σ : gs_S} {x1 : Int32} {x3 : Int32} {s0 : Int32} (h : G_M_population_25 l v n post σ x1 s0 (x3 + 1)) : G_M_population_50 l v n post σ x1 x3 s0 := by
  refine g_istore_n (L' := [(2, .int s0), (0, .ref (v.2.2 0)), (1, .int x1), (3, .int x3)]) d_M_population_50 rfl (by decide) rfl ?_
  refine g_iinc (L' := [(3, .int (x3 + 1)), (2, .int s0), (0, .ref (v.2.2 0)), (1, .int x1)]) d_M_population_51 3 rfl (by rfl) (by decide) rfl ?_
  refine g_goto (tgt := 25) d_M_population_54 rfl ?_
  exact g_sub [2, 3, 1, 0] rfl h
theorem E_M_population {l : Launch} {v : gs_V} {n : Nat} {post : Int32 → gs_S → Prop} {σ : gs_S} {x1 : Int32} (h : G_M_population_0 l v n post σ x1) : gM l v lyM 33 me_M_population (n + 1) [.ref (v.2.2 0), .int x1] σ (qI v lyM 33 post) := gM_of (by decide +kernel) (Nat.le_of_ble_eq_true rfl) h
/-! LineRulesModel.readAll -/
theorem d_M_readAll_0 : decode me_M_readAll.2.1 0 = .ok (.aload_n 0, 1) := by decide +kernel
theorem d_M_readAll_1 : decode me_M_readAll.2.1 1 = .ok (.getfield 112, 3) := by decide +kernel
theorem d_M_readAll_4 : decode me_M_readAll.2.1 4 = .ok (.iconst 1, 1) := by decide +kernel
theorem d_M_readAll_5 : decode me_M_readAll.2.1 5 = .ok (.if_icmp .lt 25, 3) := by decide +kernel
theorem d_M_readAll_8 : decode me_M_readAll.2.1 8 = .ok (.aload_n 0, 1) := by decide +kernel
theorem d_M_readAll_9 : decode me_M_readAll.2.1 9 = .ok (.getfield 7, 3) := by decide +kernel
theorem d_M_readAll_12 : decode me_M_readAll.2.1 12 = .ok (.iconst 0, 1) := by decide +kernel
theorem d_M_readAll_13 : decode me_M_readAll.2.1 13 = .ok (.iaload, 1) := by decide +kernel
theorem d_M_readAll_14 : decode me_M_readAll.2.1 14 = .ok (.bipush 50, 2) := by decide +kernel
theorem d_M_readAll_16 : decode me_M_readAll.2.1 16 = .ok (.if_icmp .lt 14, 3) := by decide +kernel
theorem d_M_readAll_19 : decode me_M_readAll.2.1 19 = .ok (.aload_n 0, 1) := by decide +kernel
theorem d_M_readAll_20 : decode me_M_readAll.2.1 20 = .ok (.getfield 7, 3) := by decide +kernel
theorem d_M_readAll_23 : decode me_M_readAll.2.1 23 = .ok (.iconst 0, 1) := by decide +kernel
theorem d_M_readAll_24 : decode me_M_readAll.2.1 24 = .ok (.iaload, 1) := by decide +kernel
theorem d_M_readAll_25 : decode me_M_readAll.2.1 25 = .ok (.bipush 52, 2) := by decide +kernel
theorem d_M_readAll_27 : decode me_M_readAll.2.1 27 = .ok (.if_icmp .le 5, 3) := by decide +kernel
theorem d_M_readAll_30 : decode me_M_readAll.2.1 30 = .ok (.iconst 0, 1) := by decide +kernel
theorem d_M_readAll_31 : decode me_M_readAll.2.1 31 = .ok (.ireturn, 1) := by decide +kernel
theorem d_M_readAll_32 : decode me_M_readAll.2.1 32 = .ok (.aload_n 0, 1) := by decide +kernel
theorem d_M_readAll_33 : decode me_M_readAll.2.1 33 = .ok (.getfield 112, 3) := by decide +kernel
theorem d_M_readAll_36 : decode me_M_readAll.2.1 36 = .ok (.iconst 2, 1) := by decide +kernel
theorem d_M_readAll_37 : decode me_M_readAll.2.1 37 = .ok (.if_icmp .lt 25, 3) := by decide +kernel
theorem d_M_readAll_40 : decode me_M_readAll.2.1 40 = .ok (.aload_n 0, 1) := by decide +kernel
theorem d_M_readAll_41 : decode me_M_readAll.2.1 41 = .ok (.getfield 7, 3) := by decide +kernel
theorem d_M_readAll_44 : decode me_M_readAll.2.1 44 = .ok (.iconst 1, 1) := by decide +kernel
theorem d_M_readAll_45 : decode me_M_readAll.2.1 45 = .ok (.iaload, 1) := by decide +kernel
theorem d_M_readAll_46 : decode me_M_readAll.2.1 46 = .ok (.bipush 49, 2) := by decide +kernel
theorem d_M_readAll_48 : decode me_M_readAll.2.1 48 = .ok (.if_icmp .lt 14, 3) := by decide +kernel
theorem d_M_readAll_51 : decode me_M_readAll.2.1 51 = .ok (.aload_n 0, 1) := by decide +kernel
theorem d_M_readAll_52 : decode me_M_readAll.2.1 52 = .ok (.getfield 7, 3) := by decide +kernel
theorem d_M_readAll_55 : decode me_M_readAll.2.1 55 = .ok (.iconst 1, 1) := by decide +kernel
theorem d_M_readAll_56 : decode me_M_readAll.2.1 56 = .ok (.iaload, 1) := by decide +kernel
theorem d_M_readAll_57 : decode me_M_readAll.2.1 57 = .ok (.bipush 52, 2) := by decide +kernel
theorem d_M_readAll_59 : decode me_M_readAll.2.1 59 = .ok (.if_icmp .le 5, 3) := by decide +kernel
theorem d_M_readAll_62 : decode me_M_readAll.2.1 62 = .ok (.iconst 1, 1) := by decide +kernel
theorem d_M_readAll_63 : decode me_M_readAll.2.1 63 = .ok (.ireturn, 1) := by decide +kernel
theorem d_M_readAll_64 : decode me_M_readAll.2.1 64 = .ok (.aload_n 0, 1) := by decide +kernel
theorem d_M_readAll_65 : decode me_M_readAll.2.1 65 = .ok (.aload_n 0, 1) := by decide +kernel
theorem d_M_readAll_66 : decode me_M_readAll.2.1 66 = .ok (.getfield 7, 3) := by decide +kernel
theorem d_M_readAll_69 : decode me_M_readAll.2.1 69 = .ok (.iconst 0, 1) := by decide +kernel
theorem d_M_readAll_70 : decode me_M_readAll.2.1 70 = .ok (.iaload, 1) := by decide +kernel
theorem d_M_readAll_71 : decode me_M_readAll.2.1 71 = .ok (.bipush 48, 2) := by decide +kernel
theorem d_M_readAll_73 : decode me_M_readAll.2.1 73 = .ok (.isub, 1) := by decide +kernel
theorem d_M_readAll_74 : decode me_M_readAll.2.1 74 = .ok (.putfield 122, 3) := by decide +kernel
theorem d_M_readAll_77 : decode me_M_readAll.2.1 77 = .ok (.aload_n 0, 1) := by decide +kernel
theorem d_M_readAll_78 : decode me_M_readAll.2.1 78 = .ok (.aload_n 0, 1) := by decide +kernel
theorem d_M_readAll_79 : decode me_M_readAll.2.1 79 = .ok (.getfield 7, 3) := by decide +kernel
theorem d_M_readAll_82 : decode me_M_readAll.2.1 82 = .ok (.iconst 1, 1) := by decide +kernel
theorem d_M_readAll_83 : decode me_M_readAll.2.1 83 = .ok (.iaload, 1) := by decide +kernel
theorem d_M_readAll_84 : decode me_M_readAll.2.1 84 = .ok (.bipush 48, 2) := by decide +kernel
theorem d_M_readAll_86 : decode me_M_readAll.2.1 86 = .ok (.isub, 1) := by decide +kernel
theorem d_M_readAll_87 : decode me_M_readAll.2.1 87 = .ok (.putfield 144, 3) := by decide +kernel
theorem d_M_readAll_90 : decode me_M_readAll.2.1 90 = .ok (.aload_n 0, 1) := by decide +kernel
theorem d_M_readAll_91 : decode me_M_readAll.2.1 91 = .ok (.getfield 112, 3) := by decide +kernel
theorem d_M_readAll_94 : decode me_M_readAll.2.1 94 = .ok (.iconst 3, 1) := by decide +kernel
theorem d_M_readAll_95 : decode me_M_readAll.2.1 95 = .ok (.if_icmp .ge 7, 3) := by decide +kernel
theorem d_M_readAll_98 : decode me_M_readAll.2.1 98 = .ok (.iconst 0, 1) := by decide +kernel
theorem d_M_readAll_99 : decode me_M_readAll.2.1 99 = .ok (.goto 9, 3) := by decide +kernel
theorem d_M_readAll_102 : decode me_M_readAll.2.1 102 = .ok (.aload_n 0, 1) := by decide +kernel
theorem d_M_readAll_103 : decode me_M_readAll.2.1 103 = .ok (.getfield 7, 3) := by decide +kernel
theorem d_M_readAll_106 : decode me_M_readAll.2.1 106 = .ok (.iconst 2, 1) := by decide +kernel
theorem d_M_readAll_107 : decode me_M_readAll.2.1 107 = .ok (.iaload, 1) := by decide +kernel
theorem d_M_readAll_108 : decode me_M_readAll.2.1 108 = .ok (.istore_n 1, 1) := by decide +kernel
theorem d_M_readAll_109 : decode me_M_readAll.2.1 109 = .ok (.iload_n 1, 1) := by decide +kernel
theorem d_M_readAll_110 : decode me_M_readAll.2.1 110 = .ok (.bipush 84, 2) := by decide +kernel
theorem d_M_readAll_112 : decode me_M_readAll.2.1 112 = .ok (.if_icmp .ne 19, 3) := by decide +kernel
theorem d_M_readAll_115 : decode me_M_readAll.2.1 115 = .ok (.aload_n 0, 1) := by decide +kernel
theorem d_M_readAll_116 : decode me_M_readAll.2.1 116 = .ok (.aload_n 0, 1) := by decide +kernel
theorem d_M_readAll_117 : decode me_M_readAll.2.1 117 = .ok (.getfield 122, 3) := by decide +kernel
theorem d_M_readAll_120 : decode me_M_readAll.2.1 120 = .ok (.aload_n 0, 1) := by decide +kernel
theorem d_M_readAll_121 : decode me_M_readAll.2.1 121 = .ok (.getfield 144, 3) := by decide +kernel
theorem d_M_readAll_124 : decode me_M_readAll.2.1 124 = .ok (.invokestatic 147, 3) := by decide +kernel
theorem d_M_readAll_127 : decode me_M_readAll.2.1 127 = .ok (.invokevirtual 169, 3) := by decide +kernel
theorem d_M_readAll_130 : decode me_M_readAll.2.1 130 = .ok (.ireturn, 1) := by decide +kernel
theorem d_M_readAll_131 : decode me_M_readAll.2.1 131 = .ok (.iload_n 1, 1) := by decide +kernel
theorem d_M_readAll_132 : decode me_M_readAll.2.1 132 = .ok (.bipush 83, 2) := by decide +kernel
theorem d_M_readAll_134 : decode me_M_readAll.2.1 134 = .ok (.if_icmp .ne 21, 3) := by decide +kernel
theorem d_M_readAll_137 : decode me_M_readAll.2.1 137 = .ok (.aload_n 0, 1) := by decide +kernel
theorem d_M_readAll_138 : decode me_M_readAll.2.1 138 = .ok (.aload_n 0, 1) := by decide +kernel
theorem d_M_readAll_139 : decode me_M_readAll.2.1 139 = .ok (.getfield 122, 3) := by decide +kernel
theorem d_M_readAll_142 : decode me_M_readAll.2.1 142 = .ok (.iconst 1, 1) := by decide +kernel
theorem d_M_readAll_143 : decode me_M_readAll.2.1 143 = .ok (.isub, 1) := by decide +kernel
theorem d_M_readAll_144 : decode me_M_readAll.2.1 144 = .ok (.aload_n 0, 1) := by decide +kernel
theorem d_M_readAll_145 : decode me_M_readAll.2.1 145 = .ok (.getfield 144, 3) := by decide +kernel
theorem d_M_readAll_148 : decode me_M_readAll.2.1 148 = .ok (.imul, 1) := by decide +kernel
theorem d_M_readAll_149 : decode me_M_readAll.2.1 149 = .ok (.iconst 1, 1) := by decide +kernel
theorem d_M_readAll_150 : decode me_M_readAll.2.1 150 = .ok (.iadd, 1) := by decide +kernel
theorem d_M_readAll_151 : decode me_M_readAll.2.1 151 = .ok (.invokevirtual 169, 3) := by decide +kernel
theorem d_M_readAll_154 : decode me_M_readAll.2.1 154 = .ok (.ireturn, 1) := by decide +kernel
theorem d_M_readAll_155 : decode me_M_readAll.2.1 155 = .ok (.iload_n 1, 1) := by decide +kernel
theorem d_M_readAll_156 : decode me_M_readAll.2.1 156 = .ok (.bipush 69, 2) := by decide +kernel
theorem d_M_readAll_158 : decode me_M_readAll.2.1 158 = .ok (.if_icmp .ne 11, 3) := by decide +kernel
theorem d_M_readAll_161 : decode me_M_readAll.2.1 161 = .ok (.aload_n 0, 1) := by decide +kernel
theorem d_M_readAll_162 : decode me_M_readAll.2.1 162 = .ok (.iconst 0, 1) := by decide +kernel
theorem d_M_readAll_163 : decode me_M_readAll.2.1 163 = .ok (.invokevirtual 173, 3) := by decide +kernel
theorem d_M_readAll_166 : decode me_M_readAll.2.1 166 = .ok (.goto 4, 3) := by decide +kernel
theorem d_M_readAll_169 : decode me_M_readAll.2.1 169 = .ok (.iconst 0, 1) := by decide +kernel
theorem d_M_readAll_170 : decode me_M_readAll.2.1 170 = .ok (.istore_n 2, 1) := by decide +kernel
theorem d_M_readAll_171 : decode me_M_readAll.2.1 171 = .ok (.iload_n 1, 1) := by decide +kernel
theorem d_M_readAll_172 : decode me_M_readAll.2.1 172 = .ok (.bipush 69, 2) := by decide +kernel
theorem d_M_readAll_174 : decode me_M_readAll.2.1 174 = .ok (.if_icmp .ne 10, 3) := by decide +kernel
theorem d_M_readAll_177 : decode me_M_readAll.2.1 177 = .ok (.aload_n 0, 1) := by decide +kernel
theorem d_M_readAll_178 : decode me_M_readAll.2.1 178 = .ok (.getfield 158, 3) := by decide +kernel
theorem d_M_readAll_181 : decode me_M_readAll.2.1 181 = .ok (.goto 4, 3) := by decide +kernel
theorem d_M_readAll_184 : decode me_M_readAll.2.1 184 = .ok (.iconst 2, 1) := by decide +kernel
theorem d_M_readAll_185 : decode me_M_readAll.2.1 185 = .ok (.ireturn, 1) := by decide +kernel
abbrev G_M_readAll_0 (l : Launch) (v : gs_V) (n : Nat) (post : Int32 → gs_S → Prop) (σ : gs_S) : Prop := gG l v lyM 33 me_M_readAll n (qI v lyM 33 post) 0 [(0, .ref (v.2.2 0))] [] σ
abbrev G_M_readAll_30 (l : Launch) (v : gs_V) (n : Nat) (post : Int32 → gs_S → Prop) (σ : gs_S) : Prop := gG l v lyM 33 me_M_readAll n (qI v lyM 33 post) 30 [] [] σ
abbrev G_M_readAll_62 (l : Launch) (v : gs_V) (n : Nat) (post : Int32 → gs_S → Prop) (σ : gs_S) : Prop := gG l v lyM 33 me_M_readAll n (qI v lyM 33 post) 62 [] [] σ
abbrev G_M_readAll_108 (l : Launch) (v : gs_V) (n : Nat) (post : Int32 → gs_S → Prop) (σ : gs_S) (s0 : Int32) : Prop := gG l v lyM 33 me_M_readAll n (qI v lyM 33 post) 108 [(0, .ref (v.2.2 0))] [.int s0] σ
abbrev G_M_readAll_170 (l : Launch) (v : gs_V) (n : Nat) (post : Int32 → gs_S → Prop) (σ : gs_S) (x1 : Int32) (s0 : Int32) : Prop := gG l v lyM 33 me_M_readAll n (qI v lyM 33 post) 170 [(0, .ref (v.2.2 0)), (1, .int x1)] [.int s0] σ
abbrev G_M_readAll_185 (l : Launch) (v : gs_V) (n : Nat) (post : Int32 → gs_S → Prop) (σ : gs_S) (s0 : Int32) : Prop := gG l v lyM 33 me_M_readAll n (qI v lyM 33 post) 185 [] [.int s0] σ
set_option maxRecDepth 20000 in
set_option maxHeartbeats 1000000 in
theorem T_M_readAll_0 {l : Launch} {v : gs_V} {n : Nat} {post : Int32 → gs_S → Prop} {σ : gs_S} (h : (((σ.1 0 0) < 1 → G_M_readAll_30 l v n post σ) ∧ (¬ (σ.1 0 0) < 1 → (((σ.1 1 0) < 50 → G_M_readAll_30 l v n post σ) ∧ (¬ (σ.1 1 0) < 50 → (((σ.1 1 0) ≤ 52 → (((σ.1 0 0) < 2 → G_M_readAll_62 l v n post σ) ∧ (¬ (σ.1 0 0) < 2 → (((σ.1 1 1) < 49 → G_M_readAll_62 l v n post σ) ∧ (¬ (σ.1 1 1) < 49 → (((σ.1 1 1) ≤ 52 → ((3 ≤ (σ.1 0 0) → G_M_readAll_108 l v n post (gs_pI (gs_pI σ 0 10 ((σ.1 1 0) - 48)) 0 11 ((σ.1 1 1) - 48)) (σ.1 1 2)) ∧ (¬ 3 ≤ (σ.1 0 0) → G_M_readAll_108 l v n post (gs_pI (gs_pI σ 0 10 ((σ.1 1 0) - 48)) 0 11 ((σ.1 1 1) - 48)) 0))) ∧ (¬ (σ.1 1 1) ≤ 52 → G_M_readAll_62 l v n post σ))))))) ∧ (¬ (σ.1 1 0) ≤ 52 → G_M_readAll_30 l v n post σ))))))) : G_M_readAll_0 l v n post σ := by
  refine g_aload_n d_M_readAll_0 0 rfl rfl ?_
  refine g_getV (x := .int (σ.1 0 0)) d_M_readAll_1 fl_M_112 (by decide) rfl rfl rfl ?_
  refine g_iconst d_M_readAll_4 (x := 1) (by decide) ?_
  refine g_icmp_lt (tgt := 30) d_M_readAll_5 rfl (fun hc => ?_) (fun hc => ?_)
  · have h := h.1 hc
    exact g_sub [] rfl h
  · have h := h.2 hc
    refine g_aload_n d_M_readAll_8 0 rfl rfl ?_
    refine g_getV (x := .ref (v.2.2 1)) d_M_readAll_9 fl_M_7 (by decide) rfl rfl rfl ?_
    refine g_iconst d_M_readAll_12 (x := 0) (by decide) ?_
    refine g_iald (x := σ.1 1 0) d_M_readAll_13 (by decide) rfl (g_lit (k := 0) (by decide) (by decide)) rfl ?_
    refine g_bipush d_M_readAll_14 (x := 50) (by decide) ?_
    refine g_icmp_lt (tgt := 30) d_M_readAll_16 rfl (fun hc => ?_) (fun hc => ?_)
    · have h := h.1 hc
      exact g_sub [] rfl h
    · have h := h.2 hc
      refine g_aload_n d_M_readAll_19 0 rfl rfl ?_
      refine g_getV (x := .ref (v.2.2 1)) d_M_readAll_20 fl_M_7 (by decide) rfl rfl rfl ?_
      refine g_iconst d_M_readAll_23 (x := 0) (by decide) ?_
      refine g_iald (x := σ.1 1 0) d_M_readAll_24 (by decide) rfl (g_lit (k := 0) (by decide) (by decide)) rfl ?_
      refine g_bipush d_M_readAll_25 (x := 52) (by decide) ?_
      refine g_icmp_le (tgt := 32) d_M_readAll_27 rfl (fun hc => ?_) (fun hc => ?_)
      · have h := h.1 hc
        refine g_aload_n d_M_readAll_32 0 rfl rfl ?_
        refine g_getV (x := .int (σ.1 0 0)) d_M_readAll_33 fl_M_112 (by decide) rfl rfl rfl ?_
        refine g_iconst d_M_readAll_36 (x := 2) (by decide) ?_
        refine g_icmp_lt (tgt := 62) d_M_readAll_37 rfl (fun hc => ?_) (fun hc => ?_)
        · have h := h.1 hc
          exact g_sub [] rfl h
        · have h := h.2 hc
          refine g_aload_n d_M_readAll_40 0 rfl rfl ?_
          refine g_getV (x := .ref (v.2.2 1)) d_M_readAll_41 fl_M_7 (by decide) rfl rfl rfl ?_
          refine g_iconst d_M_readAll_44 (x := 1) (by decide) ?_
          refine g_iald (x := σ.1 1 1) d_M_readAll_45 (by decide) rfl (g_lit (k := 1) (by decide) (by decide)) rfl ?_
          refine g_bipush d_M_readAll_46 (x := 49) (by decide) ?_
          refine g_icmp_lt (tgt := 62) d_M_readAll_48 rfl (fun hc => ?_) (fun hc => ?_)
          · have h := h.1 hc
            exact g_sub [] rfl h
          · have h := h.2 hc
            refine g_aload_n d_M_readAll_51 0 rfl rfl ?_
            refine g_getV (x := .ref (v.2.2 1)) d_M_readAll_52 fl_M_7 (by decide) rfl rfl rfl ?_
            refine g_iconst d_M_readAll_55 (x := 1) (by decide) ?_
            refine g_iald (x := σ.1 1 1) d_M_readAll_56 (by decide) rfl (g_lit (k := 1) (by decide) (by decide)) rfl ?_
            refine g_bipush d_M_readAll_57 (x := 52) (by decide) ?_
            refine g_icmp_le (tgt := 64) d_M_readAll_59 rfl (fun hc => ?_) (fun hc => ?_)
            · have h := h.1 hc
              refine g_aload_n d_M_readAll_64 0 rfl rfl ?_
              refine g_aload_n d_M_readAll_65 0 rfl rfl ?_
              refine g_getV (x := .ref (v.2.2 1)) d_M_readAll_66 fl_M_7 (by decide) rfl rfl rfl ?_
              refine g_iconst d_M_readAll_69 (x := 0) (by decide) ?_
              refine g_iald (x := σ.1 1 0) d_M_readAll_70 (by decide) rfl (g_lit (k := 0) (by decide) (by decide)) rfl ?_
              refine g_bipush d_M_readAll_71 (x := 48) (by decide) ?_
              refine g_isub d_M_readAll_73 ?_
              refine g_putI d_M_readAll_74 fp_M_122 (by decide) rfl rfl ⟨rfl, rfl⟩ ?_
              refine g_aload_n d_M_readAll_77 0 rfl rfl ?_
              refine g_aload_n d_M_readAll_78 0 rfl rfl ?_
              refine g_getV (x := .ref (v.2.2 1)) d_M_readAll_79 fl_M_7 (by decide) rfl rfl rfl ?_
              refine g_iconst d_M_readAll_82 (x := 1) (by decide) ?_
              refine g_iald (x := σ.1 1 1) d_M_readAll_83 (by decide) rfl (g_lit (k := 1) (by decide) (by decide)) rfl ?_
              refine g_bipush d_M_readAll_84 (x := 48) (by decide) ?_
              refine g_isub d_M_readAll_86 ?_
              refine g_putI d_M_readAll_87 fp_M_144 (by decide) rfl rfl ⟨rfl, rfl⟩ ?_
              refine g_aload_n d_M_readAll_90 0 rfl rfl ?_
              refine g_getV (x := .int (σ.1 0 0)) d_M_readAll_91 fl_M_112 (by decide) rfl rfl rfl ?_
              refine g_iconst d_M_readAll_94 (x := 3) (by decide) ?_
              refine g_icmp_ge (tgt := 102) d_M_readAll_95 rfl (fun hc => ?_) (fun hc => ?_)
              · have h := h.1 hc
                refine g_aload_n d_M_readAll_102 0 rfl rfl ?_
                refine g_getV (x := .ref (v.2.2 1)) d_M_readAll_103 fl_M_7 (by decide) rfl rfl rfl ?_
                refine g_iconst d_M_readAll_106 (x := 2) (by decide) ?_
                refine g_iald (x := σ.1 1 2) d_M_readAll_107 (by decide) rfl (g_lit (k := 2) (by decide) (by decide)) rfl ?_
                exact h
              · have h := h.2 hc
                refine g_iconst d_M_readAll_98 (x := 0) (by decide) ?_
                refine g_goto (tgt := 108) d_M_readAll_99 rfl ?_
                exact h
            · have h := h.2 hc
              exact g_sub [] rfl h
      · have h := h.2 hc
        exact g_sub [] rfl h
set_option maxRecDepth 20000 in
set_option maxHeartbeats 1000000 in
theorem T_M_readAll_30 {l : Launch} {v : gs_V} {n : Nat} {post : Int32 → gs_S → Prop} {σ : gs_S} (h : post 0 σ) : G_M_readAll_30 l v n post σ := by
  refine g_iconst d_M_readAll_30 (x := 0) (by decide) ?_
  exact g_iret d_M_readAll_31 rfl h
set_option maxRecDepth 20000 in
set_option maxHeartbeats 1000000 in
theorem T_M_readAll_62 {l : Launch} {v : gs_V} {n : Nat} {post : Int32 → gs_S → Prop} {σ : gs_S} (h : post 1 σ) : G_M_readAll_62 l v n post σ := by
  refine g_iconst d_M_readAll_62 (x := 1) (by decide) ?_
  exact g_iret d_M_readAll_63 rfl h
set_option maxRecDepth 20000 in
set_option maxHeartbeats 1000000 in
theorem T_M_readAll_108 {l : Launch} {v : gs_V} {n : Nat} {post : Int32 → gs_S → Prop} {σ : gs_S} {s0 : Int32} (h : ((¬ s0 = 84 → ((¬ s0 = 83 → ((¬ s0 = 69 → G_M_readAll_170 l v n post σ s0 0) ∧ (s0 = 69 → gM l v lyM 33 me_M_work n [.ref (v.2.2 0), .int 0] σ (qI v lyM 33 (fun r1 σ1 => G_M_readAll_170 l v n post σ1 s0 r1))))) ∧ (s0 = 83 → gM l v lyM 33 me_M_readRow n [.ref (v.2.2 0), .int ((((σ.1 0 10) - 1) * (σ.1 0 11)) + 1)] σ (qI v lyM 33 (fun r2 σ2 => post r2 σ2))))) ∧ (s0 = 84 → gM l v lyM 33 me_M_powerOf n [.int (σ.1 0 10), .int (σ.1 0 11)] σ (qI v lyM 33 (fun r3 σ3 => gM l v lyM 33 me_M_readRow n [.ref (v.2.2 0), .int r3] σ3 (qI v lyM 33 (fun r4 σ4 => post r4 σ4))))))) : G_M_readAll_108 l v n post σ s0 := by
  refine g_istore_n (L' := [(1, .int s0), (0, .ref (v.2.2 0))]) d_M_readAll_108 rfl (by decide) rfl ?_
  refine g_iload_n d_M_readAll_109 0 rfl rfl ?_
  refine g_bipush d_M_readAll_110 (x := 84) (by decide) ?_
  refine g_icmp_ne (tgt := 131) d_M_readAll_112 rfl (fun hc => ?_) (fun hc => ?_)
  · have h := h.1 hc
    refine g_iload_n d_M_readAll_131 0 rfl rfl ?_
    refine g_bipush d_M_readAll_132 (x := 83) (by decide) ?_
    refine g_icmp_ne (tgt := 155) d_M_readAll_134 rfl (fun hc => ?_) (fun hc => ?_)
    · have h := h.1 hc
      refine g_iload_n d_M_readAll_155 0 rfl rfl ?_
      refine g_bipush d_M_readAll_156 (x := 69) (by decide) ?_
      refine g_icmp_ne (tgt := 169) d_M_readAll_158 rfl (fun hc => ?_) (fun hc => ?_)
      · have h := h.1 hc
        refine g_iconst d_M_readAll_169 (x := 0) (by decide) ?_
        exact g_sub [1, 0] rfl h
      · have h := h.2 hc
        refine g_aload_n d_M_readAll_161 1 rfl rfl ?_
        refine g_iconst d_M_readAll_162 (x := 0) (by decide) ?_
        refine g_callVi (av := [.int 0]) (rest := []) d_M_readAll_163 Y_M_work lk_M_173 (by decide) rfl rfl I_M_work rfl (Nat.le_of_ble_eq_true rfl) rfl h (fun r1 σ1 h => ?_)
        refine g_goto (tgt := 170) d_M_readAll_166 rfl ?_
        exact g_sub [1, 0] rfl h
    · have h := h.2 hc
      refine g_aload_n d_M_readAll_137 1 rfl rfl ?_
      refine g_aload_n d_M_readAll_138 1 rfl rfl ?_
      refine g_getV (x := .int (σ.1 0 10)) d_M_readAll_139 fl_M_122 (by decide) rfl rfl rfl ?_
      refine g_iconst d_M_readAll_142 (x := 1) (by decide) ?_
      refine g_isub d_M_readAll_143 ?_
      refine g_aload_n d_M_readAll_144 1 rfl rfl ?_
      refine g_getV (x := .int (σ.1 0 11)) d_M_readAll_145 fl_M_144 (by decide) rfl rfl rfl ?_
      refine g_imul d_M_readAll_148 ?_
      refine g_iconst d_M_readAll_149 (x := 1) (by decide) ?_
      refine g_iadd d_M_readAll_150 ?_
      refine g_callVi (av := [.int ((((σ.1 0 10) - 1) * (σ.1 0 11)) + 1)]) (rest := []) d_M_readAll_151 Y_M_readRow lk_M_169 (by decide) rfl rfl I_M_readRow rfl (Nat.le_of_ble_eq_true rfl) rfl h (fun r2 σ2 h => ?_)
      exact g_iret d_M_readAll_154 rfl h
  · have h := h.2 hc
    refine g_aload_n d_M_readAll_115 1 rfl rfl ?_
    refine g_aload_n d_M_readAll_116 1 rfl rfl ?_
    refine g_getV (x := .int (σ.1 0 10)) d_M_readAll_117 fl_M_122 (by decide) rfl rfl rfl ?_
    refine g_aload_n d_M_readAll_120 1 rfl rfl ?_
    refine g_getV (x := .int (σ.1 0 11)) d_M_readAll_121 fl_M_144 (by decide) rfl rfl rfl ?_
    refine g_callSi (av := [.int (σ.1 0 10), .int (σ.1 0 11)]) (rest := [.ref (v.2.2 0)]) d_M_readAll_124 Y_M_powerOf lk_M_147 I_M_powerOf rfl (Nat.le_of_ble_eq_true rfl) rfl h (fun r3 σ3 h => ?_)
    refine g_callVi (av := [.int r3]) (rest := []) d_M_readAll_127 Y_M_readRow lk_M_169 (by decide) rfl rfl I_M_readRow rfl (Nat.le_of_ble_eq_true rfl) rfl h (fun r4 σ4 h => ?_)
    exact g_iret d_M_readAll_130 rfl h
set_option maxRecDepth 20000 in
set_option maxHeartbeats 1000000 in
theorem T_M_readAll_170 {l : Launch} {v : gs_V} {n : Nat} {post : Int32 → gs_S → Prop} {σ : gs_S} {x1 : Int32} {s0 : Int32} (h : ((¬ x1 = 69 → G_M_readAll_185 l v n post σ 2) ∧ (x1 = 69 → G_M_readAll_185 l v n post σ (σ.1 0 12)))) : G_M_readAll_170 l v n post σ x1 s0 := by
  refine g_istore_n (L' := [(2, .int s0), (0, .ref (v.2.2 0)), (1, .int x1)]) d_M_readAll_170 rfl (by decide) rfl ?_
  refine g_iload_n d_M_readAll_171 2 rfl rfl ?_
  refine g_bipush d_M_readAll_172 (x := 69) (by decide) ?_
  refine g_icmp_ne (tgt := 184) d_M_readAll_174 rfl (fun hc => ?_) (fun hc => ?_)
  · have h := h.1 hc
    refine g_iconst d_M_readAll_184 (x := 2) (by decide) ?_
    exact g_sub [] rfl h
  · have h := h.2 hc
    refine g_aload_n d_M_readAll_177 1 rfl rfl ?_
    refine g_getV (x := .int (σ.1 0 12)) d_M_readAll_178 fl_M_158 (by decide) rfl rfl rfl ?_
    refine g_goto (tgt := 185) d_M_readAll_181 rfl ?_
    exact g_sub [] rfl h
set_option maxRecDepth 20000 in
set_option maxHeartbeats 1000000 in
theorem T_M_readAll_185 {l : Launch} {v : gs_V} {n : Nat} {post : Int32 → gs_S → Prop} {σ : gs_S} {s0 : Int32} (h : post s0 σ) : G_M_readAll_185 l v n post σ s0 := by
  exact g_iret d_M_readAll_185 rfl h
theorem E_M_readAll {l : Launch} {v : gs_V} {n : Nat} {post : Int32 → gs_S → Prop} {σ : gs_S} (h : G_M_readAll_0 l v n post σ) : gM l v lyM 33 me_M_readAll (n + 1) [.ref (v.2.2 0)] σ (qI v lyM 33 post) := gM_of (by decide +kernel) (Nat.le_of_ble_eq_true rfl) h
/-! LineRulesModel.ring -/
theorem d_M_ring_0 : decode me_M_ring.2.1 0 = .ok (.iload_n 1, 1) := by decide +kernel
theorem d_M_ring_1 : decode me_M_ring.2.1 1 = .ok (.iconst 1, 1) := by decide +kernel
theorem d_M_ring_2 : decode me_M_ring.2.1 2 = .ok (.if_icmp .lt 9, 3) := by decide +kernel
theorem d_M_ring_5 : decode me_M_ring.2.1 5 = .ok (.iload_n 1, 1) := by decide +kernel
theorem d_M_ring_6 : decode me_M_ring.2.1 6 = .ok (.bipush 64, 2) := by decide +kernel
theorem d_M_ring_8 : decode me_M_ring.2.1 8 = .ok (.if_icmp .le 5, 3) := by decide +kernel
theorem d_M_ring_11 : decode me_M_ring.2.1 11 = .ok (.iconst (-1), 1) := by decide +kernel
theorem d_M_ring_12 : decode me_M_ring.2.1 12 = .ok (.ireturn, 1) := by decide +kernel
theorem d_M_ring_13 : decode me_M_ring.2.1 13 = .ok (.aload_n 0, 1) := by decide +kernel
theorem d_M_ring_14 : decode me_M_ring.2.1 14 = .ok (.getfield 16, 3) := by decide +kernel
theorem d_M_ring_17 : decode me_M_ring.2.1 17 = .ok (.istore_n 2, 1) := by decide +kernel
theorem d_M_ring_18 : decode me_M_ring.2.1 18 = .ok (.aload_n 0, 1) := by decide +kernel
theorem d_M_ring_19 : decode me_M_ring.2.1 19 = .ok (.iload_n 1, 1) := by decide +kernel
theorem d_M_ring_20 : decode me_M_ring.2.1 20 = .ok (.putfield 16, 3) := by decide +kernel
theorem d_M_ring_23 : decode me_M_ring.2.1 23 = .ok (.iconst 0, 1) := by decide +kernel
theorem d_M_ring_24 : decode me_M_ring.2.1 24 = .ok (.istore_n 3, 1) := by decide +kernel
theorem d_M_ring_25 : decode me_M_ring.2.1 25 = .ok (.iload_n 3, 1) := by decide +kernel
theorem d_M_ring_26 : decode me_M_ring.2.1 26 = .ok (.bipush 64, 2) := by decide +kernel
theorem d_M_ring_28 : decode me_M_ring.2.1 28 = .ok (.if_icmp .ge 16, 3) := by decide +kernel
theorem d_M_ring_31 : decode me_M_ring.2.1 31 = .ok (.aload_n 0, 1) := by decide +kernel
theorem d_M_ring_32 : decode me_M_ring.2.1 32 = .ok (.getfield 20, 3) := by decide +kernel
theorem d_M_ring_35 : decode me_M_ring.2.1 35 = .ok (.iload_n 3, 1) := by decide +kernel
theorem d_M_ring_36 : decode me_M_ring.2.1 36 = .ok (.iconst 0, 1) := by decide +kernel
theorem d_M_ring_37 : decode me_M_ring.2.1 37 = .ok (.iastore, 1) := by decide +kernel
theorem d_M_ring_38 : decode me_M_ring.2.1 38 = .ok (.iinc 3 1, 3) := by decide +kernel
theorem d_M_ring_41 : decode me_M_ring.2.1 41 = .ok (.goto (-16), 3) := by decide +kernel
theorem d_M_ring_44 : decode me_M_ring.2.1 44 = .ok (.aload_n 0, 1) := by decide +kernel
theorem d_M_ring_45 : decode me_M_ring.2.1 45 = .ok (.iconst 0, 1) := by decide +kernel
theorem d_M_ring_46 : decode me_M_ring.2.1 46 = .ok (.putfield 210, 3) := by decide +kernel
theorem d_M_ring_49 : decode me_M_ring.2.1 49 = .ok (.iload_n 2, 1) := by decide +kernel
theorem d_M_ring_50 : decode me_M_ring.2.1 50 = .ok (.ireturn, 1) := by decide +kernel
abbrev G_M_ring_0 (l : Launch) (v : gs_V) (n : Nat) (post : Int32 → gs_S → Prop) (σ : gs_S) (x1 : Int32) : Prop := gG l v lyM 33 me_M_ring n (qI v lyM 33 post) 0 [(0, .ref (v.2.2 0)), (1, .int x1)] [] σ
abbrev G_M_ring_11 (l : Launch) (v : gs_V) (n : Nat) (post : Int32 → gs_S → Prop) (σ : gs_S) : Prop := gG l v lyM 33 me_M_ring n (qI v lyM 33 post) 11 [] [] σ
abbrev G_M_ring_25 (l : Launch) (v : gs_V) (n : Nat) (post : Int32 → gs_S → Prop) (σ : gs_S) (x2 : Int32) (x3 : Int32) : Prop := gG l v lyM 33 me_M_ring n (qI v lyM 33 post) 25 [(0, .ref (v.2.2 0)), (2, .int x2), (3, .int x3)] [] σ
set_option maxRecDepth 20000 in
set_option maxHeartbeats 1000000 in
theorem T_M_ring_0 {l : Launch} {v : gs_V} {n : Nat} {post : Int32 → gs_S → Prop} {σ : gs_S} {x1 : Int32} (h : ((x1 < 1 → G_M_ring_11 l v n post σ) ∧ (¬ x1 < 1 → ((x1 ≤ 64 → G_M_ring_25 l v n post (gs_pI σ 0 7 x1) (σ.1 0 7) 0) ∧ (¬ x1 ≤ 64 → G_M_ring_11 l v n post σ))))) : G_M_ring_0 l v n post σ x1 := by
  refine g_iload_n d_M_ring_0 1 rfl rfl ?_
  refine g_iconst d_M_ring_1 (x := 1) (by decide) ?_
  refine g_icmp_lt (tgt := 11) d_M_ring_2 rfl (fun hc => ?_) (fun hc => ?_)
  · have h := h.1 hc
    exact g_sub [] rfl h
  · have h := h.2 hc
    refine g_iload_n d_M_ring_5 1 rfl rfl ?_
    refine g_bipush d_M_ring_6 (x := 64) (by decide) ?_
    refine g_icmp_le (tgt := 13) d_M_ring_8 rfl (fun hc => ?_) (fun hc => ?_)
    · have h := h.1 hc
      refine g_aload_n d_M_ring_13 0 rfl rfl ?_
      refine g_getV (x := .int (σ.1 0 7)) d_M_ring_14 fl_M_16 (by decide) rfl rfl rfl ?_
      refine g_istore_n (L' := [(2, .int (σ.1 0 7)), (0, .ref (v.2.2 0)), (1, .int x1)]) d_M_ring_17 rfl (by decide) rfl ?_
      refine g_aload_n d_M_ring_18 1 rfl rfl ?_
      refine g_iload_n d_M_ring_19 2 rfl rfl ?_
      refine g_putI d_M_ring_20 fp_M_16 (by decide) rfl rfl ⟨rfl, rfl⟩ ?_
      refine g_iconst d_M_ring_23 (x := 0) (by decide) ?_
      refine g_istore_n (L' := [(3, .int 0), (2, .int (σ.1 0 7)), (0, .ref (v.2.2 0)), (1, .int x1)]) d_M_ring_24 rfl (by decide) rfl ?_
      exact g_sub [2, 1, 0] rfl h
    · have h := h.2 hc
      exact g_sub [] rfl h
set_option maxRecDepth 20000 in
set_option maxHeartbeats 1000000 in
theorem T_M_ring_11 {l : Launch} {v : gs_V} {n : Nat} {post : Int32 → gs_S → Prop} {σ : gs_S} (h : post ((-1)) σ) : G_M_ring_11 l v n post σ := by
  refine g_iconst d_M_ring_11 (x := (-1)) (by decide) ?_
  exact g_iret d_M_ring_12 rfl h
set_option maxRecDepth 20000 in
set_option maxHeartbeats 1000000 in
theorem T_M_ring_25 {l : Launch} {v : gs_V} {n : Nat} {post : Int32 → gs_S → Prop} {σ : gs_S} {x2 : Int32} {x3 : Int32} (h : ((64 ≤ x3 → post x2 (gs_pI σ 0 47 0)) ∧ (¬ 64 ≤ x3 → vp_in x3 64 ∧ G_M_ring_25 l v n post (gs_pI σ 3 x3.toNatClampNeg 0) x2 (x3 + 1)))) : G_M_ring_25 l v n post σ x2 x3 := by
  refine g_iload_n d_M_ring_25 2 rfl rfl ?_
  refine g_bipush d_M_ring_26 (x := 64) (by decide) ?_
  refine g_icmp_ge (tgt := 44) d_M_ring_28 rfl (fun hc => ?_) (fun hc => ?_)
  · have h := h.1 hc
    refine g_aload_n d_M_ring_44 0 rfl rfl ?_
    refine g_iconst d_M_ring_45 (x := 0) (by decide) ?_
    refine g_putI d_M_ring_46 fp_M_210 (by decide) rfl rfl ⟨rfl, rfl⟩ ?_
    refine g_iload_n d_M_ring_49 1 rfl rfl ?_
    exact g_iret d_M_ring_50 rfl h
  · have h := h.2 hc
    refine g_aload_n d_M_ring_31 0 rfl rfl ?_
    refine g_getV (x := .ref (v.2.2 3)) d_M_ring_32 fl_M_20 (by decide) rfl rfl rfl ?_
    refine g_iload_n d_M_ring_35 2 rfl rfl ?_
    refine g_iconst d_M_ring_36 (x := 0) (by decide) ?_
    have hi1 := h.1
    have h := h.2
    refine g_iast d_M_ring_37 (by decide) rfl hi1 ?_
    refine g_iinc (L' := [(3, .int (x3 + 1)), (0, .ref (v.2.2 0)), (2, .int x2)]) d_M_ring_38 2 rfl (by rfl) (by decide) rfl ?_
    refine g_goto (tgt := 25) d_M_ring_41 rfl ?_
    exact g_sub [1, 2, 0] rfl h
theorem E_M_ring {l : Launch} {v : gs_V} {n : Nat} {post : Int32 → gs_S → Prop} {σ : gs_S} {x1 : Int32} (h : G_M_ring_0 l v n post σ x1) : gM l v lyM 33 me_M_ring (n + 1) [.ref (v.2.2 0), .int x1] σ (qI v lyM 33 post) := gM_of (by decide +kernel) (Nat.le_of_ble_eq_true rfl) h
/-! LineRulesModel.rule -/
theorem d_M_rule_0 : decode me_M_rule.2.1 0 = .ok (.aload_n 0, 1) := by decide +kernel
theorem d_M_rule_1 : decode me_M_rule.2.1 1 = .ok (.invokevirtual 176, 3) := by decide +kernel
theorem d_M_rule_4 : decode me_M_rule.2.1 4 = .ok (.istore_n 1, 1) := by decide +kernel
theorem d_M_rule_5 : decode me_M_rule.2.1 5 = .ok (.iload_n 1, 1) := by decide +kernel
theorem d_M_rule_6 : decode me_M_rule.2.1 6 = .ok (.ifCond .lt 13, 3) := by decide +kernel
theorem d_M_rule_9 : decode me_M_rule.2.1 9 = .ok (.aload_n 0, 1) := by decide +kernel
theorem d_M_rule_10 : decode me_M_rule.2.1 10 = .ok (.iconst 0, 1) := by decide +kernel
theorem d_M_rule_11 : decode me_M_rule.2.1 11 = .ok (.putfield 112, 3) := by decide +kernel
theorem d_M_rule_14 : decode me_M_rule.2.1 14 = .ok (.bipush (-10), 2) := by decide +kernel
theorem d_M_rule_16 : decode me_M_rule.2.1 16 = .ok (.iload_n 1, 1) := by decide +kernel
theorem d_M_rule_17 : decode me_M_rule.2.1 17 = .ok (.isub, 1) := by decide +kernel
theorem d_M_rule_18 : decode me_M_rule.2.1 18 = .ok (.ireturn, 1) := by decide +kernel
theorem d_M_rule_19 : decode me_M_rule.2.1 19 = .ok (.aload_n 0, 1) := by decide +kernel
theorem d_M_rule_20 : decode me_M_rule.2.1 20 = .ok (.aload_n 0, 1) := by decide +kernel
theorem d_M_rule_21 : decode me_M_rule.2.1 21 = .ok (.getfield 122, 3) := by decide +kernel
theorem d_M_rule_24 : decode me_M_rule.2.1 24 = .ok (.putfield 179, 3) := by decide +kernel
theorem d_M_rule_27 : decode me_M_rule.2.1 27 = .ok (.aload_n 0, 1) := by decide +kernel
theorem d_M_rule_28 : decode me_M_rule.2.1 28 = .ok (.aload_n 0, 1) := by decide +kernel
theorem d_M_rule_29 : decode me_M_rule.2.1 29 = .ok (.getfield 144, 3) := by decide +kernel
theorem d_M_rule_32 : decode me_M_rule.2.1 32 = .ok (.putfield 182, 3) := by decide +kernel
theorem d_M_rule_35 : decode me_M_rule.2.1 35 = .ok (.aload_n 0, 1) := by decide +kernel
theorem d_M_rule_36 : decode me_M_rule.2.1 36 = .ok (.aload_n 0, 1) := by decide +kernel
theorem d_M_rule_37 : decode me_M_rule.2.1 37 = .ok (.getfield 179, 3) := by decide +kernel
theorem d_M_rule_40 : decode me_M_rule.2.1 40 = .ok (.aload_n 0, 1) := by decide +kernel
theorem d_M_rule_41 : decode me_M_rule.2.1 41 = .ok (.getfield 182, 3) := by decide +kernel
theorem d_M_rule_44 : decode me_M_rule.2.1 44 = .ok (.invokestatic 147, 3) := by decide +kernel
theorem d_M_rule_47 : decode me_M_rule.2.1 47 = .ok (.putfield 185, 3) := by decide +kernel
theorem d_M_rule_50 : decode me_M_rule.2.1 50 = .ok (.aload_n 0, 1) := by decide +kernel
theorem d_M_rule_51 : decode me_M_rule.2.1 51 = .ok (.aload_n 0, 1) := by decide +kernel
theorem d_M_rule_52 : decode me_M_rule.2.1 52 = .ok (.getfield 185, 3) := by decide +kernel
theorem d_M_rule_55 : decode me_M_rule.2.1 55 = .ok (.aload_n 0, 1) := by decide +kernel
theorem d_M_rule_56 : decode me_M_rule.2.1 56 = .ok (.getfield 179, 3) := by decide +kernel
theorem d_M_rule_59 : decode me_M_rule.2.1 59 = .ok (.idiv, 1) := by decide +kernel
theorem d_M_rule_60 : decode me_M_rule.2.1 60 = .ok (.putfield 188, 3) := by decide +kernel
theorem d_M_rule_63 : decode me_M_rule.2.1 63 = .ok (.iconst 0, 1) := by decide +kernel
theorem d_M_rule_64 : decode me_M_rule.2.1 64 = .ok (.istore_n 2, 1) := by decide +kernel
theorem d_M_rule_65 : decode me_M_rule.2.1 65 = .ok (.iload_n 2, 1) := by decide +kernel
theorem d_M_rule_66 : decode me_M_rule.2.1 66 = .ok (.aload_n 0, 1) := by decide +kernel
theorem d_M_rule_67 : decode me_M_rule.2.1 67 = .ok (.getfield 185, 3) := by decide +kernel
theorem d_M_rule_70 : decode me_M_rule.2.1 70 = .ok (.if_icmp .ge 77, 3) := by decide +kernel
theorem d_M_rule_73 : decode me_M_rule.2.1 73 = .ok (.aload_n 0, 1) := by decide +kernel
theorem d_M_rule_74 : decode me_M_rule.2.1 74 = .ok (.getfield 13, 3) := by decide +kernel
theorem d_M_rule_77 : decode me_M_rule.2.1 77 = .ok (.iload_n 2, 1) := by decide +kernel
theorem d_M_rule_78 : decode me_M_rule.2.1 78 = .ok (.aload_n 0, 1) := by decide +kernel
theorem d_M_rule_79 : decode me_M_rule.2.1 79 = .ok (.getfield 7, 3) := by decide +kernel
theorem d_M_rule_82 : decode me_M_rule.2.1 82 = .ok (.iconst 2, 1) := by decide +kernel
theorem d_M_rule_83 : decode me_M_rule.2.1 83 = .ok (.iaload, 1) := by decide +kernel
theorem d_M_rule_84 : decode me_M_rule.2.1 84 = .ok (.bipush 84, 2) := by decide +kernel
theorem d_M_rule_86 : decode me_M_rule.2.1 86 = .ok (.if_icmp .ne 17, 3) := by decide +kernel
theorem d_M_rule_89 : decode me_M_rule.2.1 89 = .ok (.aload_n 0, 1) := by decide +kernel
theorem d_M_rule_90 : decode me_M_rule.2.1 90 = .ok (.getfield 7, 3) := by decide +kernel
theorem d_M_rule_93 : decode me_M_rule.2.1 93 = .ok (.iconst 3, 1) := by decide +kernel
theorem d_M_rule_94 : decode me_M_rule.2.1 94 = .ok (.iload_n 2, 1) := by decide +kernel
theorem d_M_rule_95 : decode me_M_rule.2.1 95 = .ok (.iadd, 1) := by decide +kernel
theorem d_M_rule_96 : decode me_M_rule.2.1 96 = .ok (.iaload, 1) := by decide +kernel
theorem d_M_rule_97 : decode me_M_rule.2.1 97 = .ok (.bipush 48, 2) := by decide +kernel
theorem d_M_rule_99 : decode me_M_rule.2.1 99 = .ok (.isub, 1) := by decide +kernel
theorem d_M_rule_100 : decode me_M_rule.2.1 100 = .ok (.goto 40, 3) := by decide +kernel
theorem d_M_rule_103 : decode me_M_rule.2.1 103 = .ok (.aload_n 0, 1) := by decide +kernel
theorem d_M_rule_104 : decode me_M_rule.2.1 104 = .ok (.getfield 7, 3) := by decide +kernel
theorem d_M_rule_107 : decode me_M_rule.2.1 107 = .ok (.iconst 2, 1) := by decide +kernel
theorem d_M_rule_108 : decode me_M_rule.2.1 108 = .ok (.iaload, 1) := by decide +kernel
theorem d_M_rule_109 : decode me_M_rule.2.1 109 = .ok (.bipush 83, 2) := by decide +kernel
theorem d_M_rule_111 : decode me_M_rule.2.1 111 = .ok (.if_icmp .ne 24, 3) := by decide +kernel
theorem d_M_rule_114 : decode me_M_rule.2.1 114 = .ok (.aload_n 0, 1) := by decide +kernel
theorem d_M_rule_115 : decode me_M_rule.2.1 115 = .ok (.getfield 7, 3) := by decide +kernel
theorem d_M_rule_118 : decode me_M_rule.2.1 118 = .ok (.iconst 3, 1) := by decide +kernel
theorem d_M_rule_119 : decode me_M_rule.2.1 119 = .ok (.iload_n 2, 1) := by decide +kernel
theorem d_M_rule_120 : decode me_M_rule.2.1 120 = .ok (.aload_n 0, 1) := by decide +kernel
theorem d_M_rule_121 : decode me_M_rule.2.1 121 = .ok (.getfield 179, 3) := by decide +kernel
theorem d_M_rule_124 : decode me_M_rule.2.1 124 = .ok (.invokestatic 191, 3) := by decide +kernel
theorem d_M_rule_127 : decode me_M_rule.2.1 127 = .ok (.iadd, 1) := by decide +kernel
theorem d_M_rule_128 : decode me_M_rule.2.1 128 = .ok (.iaload, 1) := by decide +kernel
theorem d_M_rule_129 : decode me_M_rule.2.1 129 = .ok (.bipush 48, 2) := by decide +kernel
theorem d_M_rule_131 : decode me_M_rule.2.1 131 = .ok (.isub, 1) := by decide +kernel
theorem d_M_rule_132 : decode me_M_rule.2.1 132 = .ok (.goto 8, 3) := by decide +kernel
theorem d_M_rule_135 : decode me_M_rule.2.1 135 = .ok (.aload_n 0, 1) := by decide +kernel
theorem d_M_rule_136 : decode me_M_rule.2.1 136 = .ok (.iload_n 2, 1) := by decide +kernel
theorem d_M_rule_137 : decode me_M_rule.2.1 137 = .ok (.invokevirtual 173, 3) := by decide +kernel
theorem d_M_rule_140 : decode me_M_rule.2.1 140 = .ok (.iastore, 1) := by decide +kernel
theorem d_M_rule_141 : decode me_M_rule.2.1 141 = .ok (.iinc 2 1, 3) := by decide +kernel
theorem d_M_rule_144 : decode me_M_rule.2.1 144 = .ok (.goto (-79), 3) := by decide +kernel
theorem d_M_rule_147 : decode me_M_rule.2.1 147 = .ok (.aload_n 0, 1) := by decide +kernel
theorem d_M_rule_148 : decode me_M_rule.2.1 148 = .ok (.iconst 0, 1) := by decide +kernel
theorem d_M_rule_149 : decode me_M_rule.2.1 149 = .ok (.putfield 112, 3) := by decide +kernel
theorem d_M_rule_152 : decode me_M_rule.2.1 152 = .ok (.iconst 0, 1) := by decide +kernel
theorem d_M_rule_153 : decode me_M_rule.2.1 153 = .ok (.istore_n 2, 1) := by decide +kernel
theorem d_M_rule_154 : decode me_M_rule.2.1 154 = .ok (.iload_n 2, 1) := by decide +kernel
theorem d_M_rule_155 : decode me_M_rule.2.1 155 = .ok (.bipush 64, 2) := by decide +kernel
theorem d_M_rule_157 : decode me_M_rule.2.1 157 = .ok (.if_icmp .ge 16, 3) := by decide +kernel
theorem d_M_rule_160 : decode me_M_rule.2.1 160 = .ok (.aload_n 0, 1) := by decide +kernel
theorem d_M_rule_161 : decode me_M_rule.2.1 161 = .ok (.getfield 20, 3) := by decide +kernel
theorem d_M_rule_164 : decode me_M_rule.2.1 164 = .ok (.iload_n 2, 1) := by decide +kernel
theorem d_M_rule_165 : decode me_M_rule.2.1 165 = .ok (.iconst 0, 1) := by decide +kernel
theorem d_M_rule_166 : decode me_M_rule.2.1 166 = .ok (.iastore, 1) := by decide +kernel
theorem d_M_rule_167 : decode me_M_rule.2.1 167 = .ok (.iinc 2 1, 3) := by decide +kernel
theorem d_M_rule_170 : decode me_M_rule.2.1 170 = .ok (.goto (-16), 3) := by decide +kernel
theorem d_M_rule_173 : decode me_M_rule.2.1 173 = .ok (.aload_n 0, 1) := by decide +kernel
theorem d_M_rule_174 : decode me_M_rule.2.1 174 = .ok (.iconst 0, 1) := by decide +kernel
theorem d_M_rule_175 : decode me_M_rule.2.1 175 = .ok (.putfield 194, 3) := by decide +kernel
theorem d_M_rule_178 : decode me_M_rule.2.1 178 = .ok (.aload_n 0, 1) := by decide +kernel
theorem d_M_rule_179 : decode me_M_rule.2.1 179 = .ok (.iconst 0, 1) := by decide +kernel
theorem d_M_rule_180 : decode me_M_rule.2.1 180 = .ok (.putfield 197, 3) := by decide +kernel
theorem d_M_rule_183 : decode me_M_rule.2.1 183 = .ok (.aload_n 0, 1) := by decide +kernel
theorem d_M_rule_184 : decode me_M_rule.2.1 184 = .ok (.iconst 0, 1) := by decide +kernel
theorem d_M_rule_185 : decode me_M_rule.2.1 185 = .ok (.putfield 200, 3) := by decide +kernel
theorem d_M_rule_188 : decode me_M_rule.2.1 188 = .ok (.aload_n 0, 1) := by decide +kernel
theorem d_M_rule_189 : decode me_M_rule.2.1 189 = .ok (.iconst 0, 1) := by decide +kernel
theorem d_M_rule_190 : decode me_M_rule.2.1 190 = .ok (.putfield 204, 3) := by decide +kernel
theorem d_M_rule_193 : decode me_M_rule.2.1 193 = .ok (.aload_n 0, 1) := by decide +kernel
theorem d_M_rule_194 : decode me_M_rule.2.1 194 = .ok (.iconst 0, 1) := by decide +kernel
theorem d_M_rule_195 : decode me_M_rule.2.1 195 = .ok (.putfield 207, 3) := by decide +kernel
theorem d_M_rule_198 : decode me_M_rule.2.1 198 = .ok (.aload_n 0, 1) := by decide +kernel
theorem d_M_rule_199 : decode me_M_rule.2.1 199 = .ok (.iconst 0, 1) := by decide +kernel
theorem d_M_rule_200 : decode me_M_rule.2.1 200 = .ok (.putfield 210, 3) := by decide +kernel
theorem d_M_rule_203 : decode me_M_rule.2.1 203 = .ok (.aload_n 0, 1) := by decide +kernel
theorem d_M_rule_204 : decode me_M_rule.2.1 204 = .ok (.getfield 179, 3) := by decide +kernel
theorem d_M_rule_207 : decode me_M_rule.2.1 207 = .ok (.ireturn, 1) := by decide +kernel
abbrev G_M_rule_0 (l : Launch) (v : gs_V) (n : Nat) (post : Int32 → gs_S → Prop) (σ : gs_S) : Prop := gG l v lyM 33 me_M_rule n (qI v lyM 33 post) 0 [(0, .ref (v.2.2 0))] [] σ
abbrev G_M_rule_65 (l : Launch) (v : gs_V) (n : Nat) (post : Int32 → gs_S → Prop) (σ : gs_S) (x2 : Int32) : Prop := gG l v lyM 33 me_M_rule n (qI v lyM 33 post) 65 [(0, .ref (v.2.2 0)), (2, .int x2)] [] σ
abbrev G_M_rule_140 (l : Launch) (v : gs_V) (n : Nat) (post : Int32 → gs_S → Prop) (σ : gs_S) (x2 : Int32) (s0 : Int32) (s1 : Int32) : Prop := gG l v lyM 33 me_M_rule n (qI v lyM 33 post) 140 [(0, .ref (v.2.2 0)), (2, .int x2)] [.int s0, .int s1, .ref (v.2.2 2)] σ
abbrev G_M_rule_154 (l : Launch) (v : gs_V) (n : Nat) (post : Int32 → gs_S → Prop) (σ : gs_S) (x2 : Int32) : Prop := gG l v lyM 33 me_M_rule n (qI v lyM 33 post) 154 [(0, .ref (v.2.2 0)), (2, .int x2)] [] σ
set_option maxRecDepth 20000 in
set_option maxHeartbeats 1000000 in
theorem T_M_rule_0 {l : Launch} {v : gs_V} {n : Nat} {post : Int32 → gs_S → Prop} {σ : gs_S} (h : gM l v lyM 33 me_M_readAll n [.ref (v.2.2 0)] σ (qI v lyM 33 (fun r1 σ1 => ((r1 < 0 → gM l v lyM 33 me_M_powerOf n [.int (σ1.1 0 10), .int (σ1.1 0 11)] (gs_pI (gs_pI σ1 0 2 (σ1.1 0 10)) 0 3 (σ1.1 0 11)) (qI v lyM 33 (fun r2 σ2 => ¬ (σ2.1 0 2) = 0 ∧ G_M_rule_65 l v n post (gs_pI (gs_pI σ2 0 5 r2) 0 4 (r2 / (σ2.1 0 2))) 0))) ∧ (¬ r1 < 0 → post (((-10)) - r1) (gs_pI σ1 0 0 0)))))) : G_M_rule_0 l v n post σ := by
  refine g_aload_n d_M_rule_0 0 rfl rfl ?_
  refine g_callVi (av := []) (rest := []) d_M_rule_1 Y_M_readAll lk_M_176 (by decide) rfl rfl I_M_readAll rfl (Nat.le_of_ble_eq_true rfl) rfl h (fun r1 σ1 h => ?_)
  refine g_istore_n (L' := [(1, .int r1), (0, .ref (v.2.2 0))]) d_M_rule_4 rfl (by decide) rfl ?_
  refine g_iload_n d_M_rule_5 0 rfl rfl ?_
  refine g_if_lt (tgt := 19) d_M_rule_6 rfl (fun hc => ?_) (fun hc => ?_)
  · have h := h.1 hc
    refine g_aload_n d_M_rule_19 1 rfl rfl ?_
    refine g_aload_n d_M_rule_20 1 rfl rfl ?_
    refine g_getV (x := .int (σ1.1 0 10)) d_M_rule_21 fl_M_122 (by decide) rfl rfl rfl ?_
    refine g_putI d_M_rule_24 fp_M_179 (by decide) rfl rfl ⟨rfl, rfl⟩ ?_
    refine g_aload_n d_M_rule_27 1 rfl rfl ?_
    refine g_aload_n d_M_rule_28 1 rfl rfl ?_
    refine g_getV (x := .int (σ1.1 0 11)) d_M_rule_29 fl_M_144 (by decide) rfl rfl rfl ?_
    refine g_putI d_M_rule_32 fp_M_182 (by decide) rfl rfl ⟨rfl, rfl⟩ ?_
    refine g_aload_n d_M_rule_35 1 rfl rfl ?_
    refine g_aload_n d_M_rule_36 1 rfl rfl ?_
    refine g_getV (x := .int (σ1.1 0 10)) d_M_rule_37 fl_M_179 (by decide) rfl rfl rfl ?_
    refine g_aload_n d_M_rule_40 1 rfl rfl ?_
    refine g_getV (x := .int (σ1.1 0 11)) d_M_rule_41 fl_M_182 (by decide) rfl rfl rfl ?_
    refine g_callSi (av := [.int (σ1.1 0 10), .int (σ1.1 0 11)]) (rest := [.ref (v.2.2 0)]) d_M_rule_44 Y_M_powerOf lk_M_147 I_M_powerOf rfl (Nat.le_of_ble_eq_true rfl) rfl h (fun r2 σ2 h => ?_)
    refine g_putI d_M_rule_47 fp_M_185 (by decide) rfl rfl ⟨rfl, rfl⟩ ?_
    refine g_aload_n d_M_rule_50 1 rfl rfl ?_
    refine g_aload_n d_M_rule_51 1 rfl rfl ?_
    refine g_getV (x := .int r2) d_M_rule_52 fl_M_185 (by decide) rfl rfl rfl ?_
    refine g_aload_n d_M_rule_55 1 rfl rfl ?_
    refine g_getV (x := .int (σ2.1 0 2)) d_M_rule_56 fl_M_179 (by decide) rfl rfl rfl ?_
    refine g_idiv d_M_rule_59 h.1 ?_
    have h := h.2
    refine g_putI d_M_rule_60 fp_M_188 (by decide) rfl rfl ⟨rfl, rfl⟩ ?_
    refine g_iconst d_M_rule_63 (x := 0) (by decide) ?_
    refine g_istore_n (L' := [(2, .int 0), (1, .int r1), (0, .ref (v.2.2 0))]) d_M_rule_64 rfl (by decide) rfl ?_
    exact g_sub [2, 0] rfl h
  · have h := h.2 hc
    refine g_aload_n d_M_rule_9 1 rfl rfl ?_
    refine g_iconst d_M_rule_10 (x := 0) (by decide) ?_
    refine g_putI d_M_rule_11 fp_M_112 (by decide) rfl rfl ⟨rfl, rfl⟩ ?_
    refine g_bipush d_M_rule_14 (x := (-10)) (by decide) ?_
    refine g_iload_n d_M_rule_16 0 rfl rfl ?_
    refine g_isub d_M_rule_17 ?_
    exact g_iret d_M_rule_18 rfl h
set_option maxRecDepth 20000 in
set_option maxHeartbeats 1000000 in
theorem T_M_rule_65 {l : Launch} {v : gs_V} {n : Nat} {post : Int32 → gs_S → Prop} {σ : gs_S} {x2 : Int32} (h : (((σ.1 0 5) ≤ x2 → G_M_rule_154 l v n post (gs_pI σ 0 0 0) 0) ∧ (¬ (σ.1 0 5) ≤ x2 → ((¬ (σ.1 1 2) = 84 → ((¬ (σ.1 1 2) = 83 → gM l v lyM 33 me_M_work n [.ref (v.2.2 0), .int x2] σ (qI v lyM 33 (fun r1 σ1 => G_M_rule_140 l v n post σ1 x2 r1 x2))) ∧ ((σ.1 1 2) = 83 → gM l v lyM 33 me_M_digitSum n [.int x2, .int (σ.1 0 2)] σ (qI v lyM 33 (fun r2 σ2 => vp_in (3 + r2) 64 ∧ G_M_rule_140 l v n post σ2 x2 ((σ2.1 1 ((3 + r2).toNatClampNeg)) - 48) x2))))) ∧ ((σ.1 1 2) = 84 → vp_in (3 + x2) 64 ∧ G_M_rule_140 l v n post σ x2 ((σ.1 1 ((3 + x2).toNatClampNeg)) - 48) x2))))) : G_M_rule_65 l v n post σ x2 := by
  refine g_iload_n d_M_rule_65 1 rfl rfl ?_
  refine g_aload_n d_M_rule_66 0 rfl rfl ?_
  refine g_getV (x := .int (σ.1 0 5)) d_M_rule_67 fl_M_185 (by decide) rfl rfl rfl ?_
  refine g_icmp_ge (tgt := 147) d_M_rule_70 rfl (fun hc => ?_) (fun hc => ?_)
  · have h := h.1 hc
    refine g_aload_n d_M_rule_147 0 rfl rfl ?_
    refine g_iconst d_M_rule_148 (x := 0) (by decide) ?_
    refine g_putI d_M_rule_149 fp_M_112 (by decide) rfl rfl ⟨rfl, rfl⟩ ?_
    refine g_iconst d_M_rule_152 (x := 0) (by decide) ?_
    refine g_istore_n (L' := [(2, .int 0), (0, .ref (v.2.2 0))]) d_M_rule_153 rfl (by decide) rfl ?_
    exact g_sub [1, 0] rfl h
  · have h := h.2 hc
    refine g_aload_n d_M_rule_73 0 rfl rfl ?_
    refine g_getV (x := .ref (v.2.2 2)) d_M_rule_74 fl_M_13 (by decide) rfl rfl rfl ?_
    refine g_iload_n d_M_rule_77 1 rfl rfl ?_
    refine g_aload_n d_M_rule_78 0 rfl rfl ?_
    refine g_getV (x := .ref (v.2.2 1)) d_M_rule_79 fl_M_7 (by decide) rfl rfl rfl ?_
    refine g_iconst d_M_rule_82 (x := 2) (by decide) ?_
    refine g_iald (x := σ.1 1 2) d_M_rule_83 (by decide) rfl (g_lit (k := 2) (by decide) (by decide)) rfl ?_
    refine g_bipush d_M_rule_84 (x := 84) (by decide) ?_
    refine g_icmp_ne (tgt := 103) d_M_rule_86 rfl (fun hc => ?_) (fun hc => ?_)
    · have h := h.1 hc
      refine g_aload_n d_M_rule_103 0 rfl rfl ?_
      refine g_getV (x := .ref (v.2.2 1)) d_M_rule_104 fl_M_7 (by decide) rfl rfl rfl ?_
      refine g_iconst d_M_rule_107 (x := 2) (by decide) ?_
      refine g_iald (x := σ.1 1 2) d_M_rule_108 (by decide) rfl (g_lit (k := 2) (by decide) (by decide)) rfl ?_
      refine g_bipush d_M_rule_109 (x := 83) (by decide) ?_
      refine g_icmp_ne (tgt := 135) d_M_rule_111 rfl (fun hc => ?_) (fun hc => ?_)
      · have h := h.1 hc
        refine g_aload_n d_M_rule_135 0 rfl rfl ?_
        refine g_iload_n d_M_rule_136 1 rfl rfl ?_
        refine g_callVi (av := [.int x2]) (rest := [.int x2, .ref (v.2.2 2)]) d_M_rule_137 Y_M_work lk_M_173 (by decide) rfl rfl I_M_work rfl (Nat.le_of_ble_eq_true rfl) rfl h (fun r1 σ1 h => ?_)
        exact h
      · have h := h.2 hc
        refine g_aload_n d_M_rule_114 0 rfl rfl ?_
        refine g_getV (x := .ref (v.2.2 1)) d_M_rule_115 fl_M_7 (by decide) rfl rfl rfl ?_
        refine g_iconst d_M_rule_118 (x := 3) (by decide) ?_
        refine g_iload_n d_M_rule_119 1 rfl rfl ?_
        refine g_aload_n d_M_rule_120 0 rfl rfl ?_
        refine g_getV (x := .int (σ.1 0 2)) d_M_rule_121 fl_M_179 (by decide) rfl rfl rfl ?_
        refine g_callSi (av := [.int x2, .int (σ.1 0 2)]) (rest := [.int 3, .ref (v.2.2 1), .int x2, .ref (v.2.2 2)]) d_M_rule_124 Y_M_digitSum lk_M_191 I_M_digitSum rfl (Nat.le_of_ble_eq_true rfl) rfl h (fun r2 σ2 h => ?_)
        refine g_iadd d_M_rule_127 ?_
        have hi3 := h.1
        have h := h.2
        refine g_iald (x := σ2.1 1 ((3 + r2).toNatClampNeg)) d_M_rule_128 (by decide) rfl hi3 rfl ?_
        refine g_bipush d_M_rule_129 (x := 48) (by decide) ?_
        refine g_isub d_M_rule_131 ?_
        refine g_goto (tgt := 140) d_M_rule_132 rfl ?_
        exact h
    · have h := h.2 hc
      refine g_aload_n d_M_rule_89 0 rfl rfl ?_
      refine g_getV (x := .ref (v.2.2 1)) d_M_rule_90 fl_M_7 (by decide) rfl rfl rfl ?_
      refine g_iconst d_M_rule_93 (x := 3) (by decide) ?_
      refine g_iload_n d_M_rule_94 1 rfl rfl ?_
      refine g_iadd d_M_rule_95 ?_
      have hi4 := h.1
      have h := h.2
      refine g_iald (x := σ.1 1 ((3 + x2).toNatClampNeg)) d_M_rule_96 (by decide) rfl hi4 rfl ?_
      refine g_bipush d_M_rule_97 (x := 48) (by decide) ?_
      refine g_isub d_M_rule_99 ?_
      refine g_goto (tgt := 140) d_M_rule_100 rfl ?_
      exact h
set_option maxRecDepth 20000 in
set_option maxHeartbeats 1000000 in
theorem T_M_rule_140 {l : Launch} {v : gs_V} {n : Nat} {post : Int32 → gs_S → Prop} {σ : gs_S} {x2 : Int32} {s0 : Int32} {s1 : Int32} (h : vp_in s1 256 ∧ G_M_rule_65 l v n post (gs_pI σ 2 s1.toNatClampNeg s0) (x2 + 1)) : G_M_rule_140 l v n post σ x2 s0 s1 := by
  have hi1 := h.1
  have h := h.2
  refine g_iast d_M_rule_140 (by decide) rfl hi1 ?_
  refine g_iinc (L' := [(2, .int (x2 + 1)), (0, .ref (v.2.2 0))]) d_M_rule_141 1 rfl (by rfl) (by decide) rfl ?_
  refine g_goto (tgt := 65) d_M_rule_144 rfl ?_
  exact g_sub [1, 0] rfl h
set_option maxRecDepth 20000 in
set_option maxHeartbeats 1000000 in
theorem T_M_rule_154 {l : Launch} {v : gs_V} {n : Nat} {post : Int32 → gs_S → Prop} {σ : gs_S} {x2 : Int32} (h : ((64 ≤ x2 → post (σ.1 0 2) (gs_pI (gs_pI (gs_pI (gs_pI (gs_pI (gs_pI σ 0 28 0) 0 29 0) 0 31 0) 0 35 0) 0 41 0) 0 47 0)) ∧ (¬ 64 ≤ x2 → vp_in x2 64 ∧ G_M_rule_154 l v n post (gs_pI σ 3 x2.toNatClampNeg 0) (x2 + 1)))) : G_M_rule_154 l v n post σ x2 := by
  refine g_iload_n d_M_rule_154 1 rfl rfl ?_
  refine g_bipush d_M_rule_155 (x := 64) (by decide) ?_
  refine g_icmp_ge (tgt := 173) d_M_rule_157 rfl (fun hc => ?_) (fun hc => ?_)
  · have h := h.1 hc
    refine g_aload_n d_M_rule_173 0 rfl rfl ?_
    refine g_iconst d_M_rule_174 (x := 0) (by decide) ?_
    refine g_putI d_M_rule_175 fp_M_194 (by decide) rfl rfl ⟨rfl, rfl⟩ ?_
    refine g_aload_n d_M_rule_178 0 rfl rfl ?_
    refine g_iconst d_M_rule_179 (x := 0) (by decide) ?_
    refine g_putI d_M_rule_180 fp_M_197 (by decide) rfl rfl ⟨rfl, rfl⟩ ?_
    refine g_aload_n d_M_rule_183 0 rfl rfl ?_
    refine g_iconst d_M_rule_184 (x := 0) (by decide) ?_
    refine g_putI d_M_rule_185 fp_M_200 (by decide) rfl rfl ⟨rfl, rfl⟩ ?_
    refine g_aload_n d_M_rule_188 0 rfl rfl ?_
    refine g_iconst d_M_rule_189 (x := 0) (by decide) ?_
    refine g_putI d_M_rule_190 fp_M_204 (by decide) rfl rfl ⟨rfl, rfl⟩ ?_
    refine g_aload_n d_M_rule_193 0 rfl rfl ?_
    refine g_iconst d_M_rule_194 (x := 0) (by decide) ?_
    refine g_putI d_M_rule_195 fp_M_207 (by decide) rfl rfl ⟨rfl, rfl⟩ ?_
    refine g_aload_n d_M_rule_198 0 rfl rfl ?_
    refine g_iconst d_M_rule_199 (x := 0) (by decide) ?_
    refine g_putI d_M_rule_200 fp_M_210 (by decide) rfl rfl ⟨rfl, rfl⟩ ?_
    refine g_aload_n d_M_rule_203 0 rfl rfl ?_
    refine g_getV (x := .int (σ.1 0 2)) d_M_rule_204 fl_M_179 (by decide) rfl rfl rfl ?_
    exact g_iret d_M_rule_207 rfl h
  · have h := h.2 hc
    refine g_aload_n d_M_rule_160 0 rfl rfl ?_
    refine g_getV (x := .ref (v.2.2 3)) d_M_rule_161 fl_M_20 (by decide) rfl rfl rfl ?_
    refine g_iload_n d_M_rule_164 1 rfl rfl ?_
    refine g_iconst d_M_rule_165 (x := 0) (by decide) ?_
    have hi1 := h.1
    have h := h.2
    refine g_iast d_M_rule_166 (by decide) rfl hi1 ?_
    refine g_iinc (L' := [(2, .int (x2 + 1)), (0, .ref (v.2.2 0))]) d_M_rule_167 1 rfl (by rfl) (by decide) rfl ?_
    refine g_goto (tgt := 154) d_M_rule_170 rfl ?_
    exact g_sub [1, 0] rfl h
theorem E_M_rule {l : Launch} {v : gs_V} {n : Nat} {post : Int32 → gs_S → Prop} {σ : gs_S} (h : G_M_rule_0 l v n post σ) : gM l v lyM 33 me_M_rule (n + 1) [.ref (v.2.2 0)] σ (qI v lyM 33 post) := gM_of (by decide +kernel) (Nat.le_of_ble_eq_true rfl) h
/-! LineRulesModel.set -/
theorem d_M_set_0 : decode me_M_set.2.1 0 = .ok (.aload_n 0, 1) := by decide +kernel
theorem d_M_set_1 : decode me_M_set.2.1 1 = .ok (.getfield 179, 3) := by decide +kernel
theorem d_M_set_4 : decode me_M_set.2.1 4 = .ok (.ifCond .eq 27, 3) := by decide +kernel
theorem d_M_set_7 : decode me_M_set.2.1 7 = .ok (.iload_n 1, 1) := by decide +kernel
theorem d_M_set_8 : decode me_M_set.2.1 8 = .ok (.ifCond .lt 23, 3) := by decide +kernel
theorem d_M_set_11 : decode me_M_set.2.1 11 = .ok (.iload_n 1, 1) := by decide +kernel
theorem d_M_set_12 : decode me_M_set.2.1 12 = .ok (.aload_n 0, 1) := by decide +kernel
theorem d_M_set_13 : decode me_M_set.2.1 13 = .ok (.getfield 16, 3) := by decide +kernel
theorem d_M_set_16 : decode me_M_set.2.1 16 = .ok (.if_icmp .ge 15, 3) := by decide +kernel
theorem d_M_set_19 : decode me_M_set.2.1 19 = .ok (.iload_n 2, 1) := by decide +kernel
theorem d_M_set_20 : decode me_M_set.2.1 20 = .ok (.ifCond .lt 11, 3) := by decide +kernel
theorem d_M_set_23 : decode me_M_set.2.1 23 = .ok (.iload_n 2, 1) := by decide +kernel
theorem d_M_set_24 : decode me_M_set.2.1 24 = .ok (.aload_n 0, 1) := by decide +kernel
theorem d_M_set_25 : decode me_M_set.2.1 25 = .ok (.getfield 179, 3) := by decide +kernel
theorem d_M_set_28 : decode me_M_set.2.1 28 = .ok (.if_icmp .lt 5, 3) := by decide +kernel
theorem d_M_set_31 : decode me_M_set.2.1 31 = .ok (.iconst (-1), 1) := by decide +kernel
theorem d_M_set_32 : decode me_M_set.2.1 32 = .ok (.ireturn, 1) := by decide +kernel
theorem d_M_set_33 : decode me_M_set.2.1 33 = .ok (.aload_n 0, 1) := by decide +kernel
theorem d_M_set_34 : decode me_M_set.2.1 34 = .ok (.getfield 20, 3) := by decide +kernel
theorem d_M_set_37 : decode me_M_set.2.1 37 = .ok (.iload_n 1, 1) := by decide +kernel
theorem d_M_set_38 : decode me_M_set.2.1 38 = .ok (.iaload, 1) := by decide +kernel
theorem d_M_set_39 : decode me_M_set.2.1 39 = .ok (.istore_n 3, 1) := by decide +kernel
theorem d_M_set_40 : decode me_M_set.2.1 40 = .ok (.aload_n 0, 1) := by decide +kernel
theorem d_M_set_41 : decode me_M_set.2.1 41 = .ok (.getfield 20, 3) := by decide +kernel
theorem d_M_set_44 : decode me_M_set.2.1 44 = .ok (.iload_n 1, 1) := by decide +kernel
theorem d_M_set_45 : decode me_M_set.2.1 45 = .ok (.iload_n 2, 1) := by decide +kernel
theorem d_M_set_46 : decode me_M_set.2.1 46 = .ok (.iastore, 1) := by decide +kernel
theorem d_M_set_47 : decode me_M_set.2.1 47 = .ok (.aload_n 0, 1) := by decide +kernel
theorem d_M_set_48 : decode me_M_set.2.1 48 = .ok (.iconst 0, 1) := by decide +kernel
theorem d_M_set_49 : decode me_M_set.2.1 49 = .ok (.putfield 210, 3) := by decide +kernel
theorem d_M_set_52 : decode me_M_set.2.1 52 = .ok (.iload_n 3, 1) := by decide +kernel
theorem d_M_set_53 : decode me_M_set.2.1 53 = .ok (.ireturn, 1) := by decide +kernel
abbrev G_M_set_0 (l : Launch) (v : gs_V) (n : Nat) (post : Int32 → gs_S → Prop) (σ : gs_S) (x1 : Int32) (x2 : Int32) : Prop := gG l v lyM 33 me_M_set n (qI v lyM 33 post) 0 [(0, .ref (v.2.2 0)), (1, .int x1), (2, .int x2)] [] σ
abbrev G_M_set_31 (l : Launch) (v : gs_V) (n : Nat) (post : Int32 → gs_S → Prop) (σ : gs_S) : Prop := gG l v lyM 33 me_M_set n (qI v lyM 33 post) 31 [] [] σ
set_option maxRecDepth 20000 in
set_option maxHeartbeats 1000000 in
theorem T_M_set_0 {l : Launch} {v : gs_V} {n : Nat} {post : Int32 → gs_S → Prop} {σ : gs_S} {x1 : Int32} {x2 : Int32} (h : (((σ.1 0 2) = 0 → G_M_set_31 l v n post σ) ∧ (¬ (σ.1 0 2) = 0 → ((x1 < 0 → G_M_set_31 l v n post σ) ∧ (¬ x1 < 0 → (((σ.1 0 7) ≤ x1 → G_M_set_31 l v n post σ) ∧ (¬ (σ.1 0 7) ≤ x1 → ((x2 < 0 → G_M_set_31 l v n post σ) ∧ (¬ x2 < 0 → ((x2 < (σ.1 0 2) → vp_in x1 64 ∧ vp_in x1 64 ∧ post (σ.1 3 x1.toNatClampNeg) (gs_pI (gs_pI σ 3 x1.toNatClampNeg x2) 0 47 0)) ∧ (¬ x2 < (σ.1 0 2) → G_M_set_31 l v n post σ))))))))))) : G_M_set_0 l v n post σ x1 x2 := by
  refine g_aload_n d_M_set_0 0 rfl rfl ?_
  refine g_getV (x := .int (σ.1 0 2)) d_M_set_1 fl_M_179 (by decide) rfl rfl rfl ?_
  refine g_if_eq (tgt := 31) d_M_set_4 rfl (fun hc => ?_) (fun hc => ?_)
  · have h := h.1 hc
    exact g_sub [] rfl h
  · have h := h.2 hc
    refine g_iload_n d_M_set_7 1 rfl rfl ?_
    refine g_if_lt (tgt := 31) d_M_set_8 rfl (fun hc => ?_) (fun hc => ?_)
    · have h := h.1 hc
      exact g_sub [] rfl h
    · have h := h.2 hc
      refine g_iload_n d_M_set_11 1 rfl rfl ?_
      refine g_aload_n d_M_set_12 0 rfl rfl ?_
      refine g_getV (x := .int (σ.1 0 7)) d_M_set_13 fl_M_16 (by decide) rfl rfl rfl ?_
      refine g_icmp_ge (tgt := 31) d_M_set_16 rfl (fun hc => ?_) (fun hc => ?_)
      · have h := h.1 hc
        exact g_sub [] rfl h
      · have h := h.2 hc
        refine g_iload_n d_M_set_19 2 rfl rfl ?_
        refine g_if_lt (tgt := 31) d_M_set_20 rfl (fun hc => ?_) (fun hc => ?_)
        · have h := h.1 hc
          exact g_sub [] rfl h
        · have h := h.2 hc
          refine g_iload_n d_M_set_23 2 rfl rfl ?_
          refine g_aload_n d_M_set_24 0 rfl rfl ?_
          refine g_getV (x := .int (σ.1 0 2)) d_M_set_25 fl_M_179 (by decide) rfl rfl rfl ?_
          refine g_icmp_lt (tgt := 33) d_M_set_28 rfl (fun hc => ?_) (fun hc => ?_)
          · have h := h.1 hc
            refine g_aload_n d_M_set_33 0 rfl rfl ?_
            refine g_getV (x := .ref (v.2.2 3)) d_M_set_34 fl_M_20 (by decide) rfl rfl rfl ?_
            refine g_iload_n d_M_set_37 1 rfl rfl ?_
            have hi1 := h.1
            have h := h.2
            refine g_iald (x := σ.1 3 x1.toNatClampNeg) d_M_set_38 (by decide) rfl hi1 rfl ?_
            refine g_istore_n (L' := [(3, .int (σ.1 3 x1.toNatClampNeg)), (0, .ref (v.2.2 0)), (1, .int x1), (2, .int x2)]) d_M_set_39 rfl (by decide) rfl ?_
            refine g_aload_n d_M_set_40 1 rfl rfl ?_
            refine g_getV (x := .ref (v.2.2 3)) d_M_set_41 fl_M_20 (by decide) rfl rfl rfl ?_
            refine g_iload_n d_M_set_44 2 rfl rfl ?_
            refine g_iload_n d_M_set_45 3 rfl rfl ?_
            have hi2 := h.1
            have h := h.2
            refine g_iast d_M_set_46 (by decide) rfl hi2 ?_
            refine g_aload_n d_M_set_47 1 rfl rfl ?_
            refine g_iconst d_M_set_48 (x := 0) (by decide) ?_
            refine g_putI d_M_set_49 fp_M_210 (by decide) rfl rfl ⟨rfl, rfl⟩ ?_
            refine g_iload_n d_M_set_52 0 rfl rfl ?_
            exact g_iret d_M_set_53 rfl h
          · have h := h.2 hc
            exact g_sub [] rfl h
set_option maxRecDepth 20000 in
set_option maxHeartbeats 1000000 in
theorem T_M_set_31 {l : Launch} {v : gs_V} {n : Nat} {post : Int32 → gs_S → Prop} {σ : gs_S} (h : post ((-1)) σ) : G_M_set_31 l v n post σ := by
  refine g_iconst d_M_set_31 (x := (-1)) (by decide) ?_
  exact g_iret d_M_set_32 rfl h
theorem E_M_set {l : Launch} {v : gs_V} {n : Nat} {post : Int32 → gs_S → Prop} {σ : gs_S} {x1 : Int32} {x2 : Int32} (h : G_M_set_0 l v n post σ x1 x2) : gM l v lyM 33 me_M_set (n + 1) [.ref (v.2.2 0), .int x1, .int x2] σ (qI v lyM 33 post) := gM_of (by decide +kernel) (Nat.le_of_ble_eq_true rfl) h
/-! LineRulesModel.step -/
theorem d_M_step_0 : decode me_M_step.2.1 0 = .ok (.aload_n 0, 1) := by decide +kernel
theorem d_M_step_1 : decode me_M_step.2.1 1 = .ok (.getfield 179, 3) := by decide +kernel
theorem d_M_step_4 : decode me_M_step.2.1 4 = .ok (.ifCond .eq 14, 3) := by decide +kernel
theorem d_M_step_7 : decode me_M_step.2.1 7 = .ok (.iload_n 1, 1) := by decide +kernel
theorem d_M_step_8 : decode me_M_step.2.1 8 = .ok (.ifCond .lt 10, 3) := by decide +kernel
theorem d_M_step_11 : decode me_M_step.2.1 11 = .ok (.iload_n 1, 1) := by decide +kernel
theorem d_M_step_12 : decode me_M_step.2.1 12 = .ok (.sipush 200, 3) := by decide +kernel
theorem d_M_step_15 : decode me_M_step.2.1 15 = .ok (.if_icmp .le 5, 3) := by decide +kernel
theorem d_M_step_18 : decode me_M_step.2.1 18 = .ok (.iconst (-1), 1) := by decide +kernel
theorem d_M_step_19 : decode me_M_step.2.1 19 = .ok (.ireturn, 1) := by decide +kernel
theorem d_M_step_20 : decode me_M_step.2.1 20 = .ok (.iconst 0, 1) := by decide +kernel
theorem d_M_step_21 : decode me_M_step.2.1 21 = .ok (.istore_n 2, 1) := by decide +kernel
theorem d_M_step_22 : decode me_M_step.2.1 22 = .ok (.iload_n 2, 1) := by decide +kernel
theorem d_M_step_23 : decode me_M_step.2.1 23 = .ok (.aload_n 0, 1) := by decide +kernel
theorem d_M_step_24 : decode me_M_step.2.1 24 = .ok (.getfield 16, 3) := by decide +kernel
theorem d_M_step_27 : decode me_M_step.2.1 27 = .ok (.if_icmp .ge 21, 3) := by decide +kernel
theorem d_M_step_30 : decode me_M_step.2.1 30 = .ok (.aload_n 0, 1) := by decide +kernel
theorem d_M_step_31 : decode me_M_step.2.1 31 = .ok (.getfield 100, 3) := by decide +kernel
theorem d_M_step_34 : decode me_M_step.2.1 34 = .ok (.iload_n 2, 1) := by decide +kernel
theorem d_M_step_35 : decode me_M_step.2.1 35 = .ok (.aload_n 0, 1) := by decide +kernel
theorem d_M_step_36 : decode me_M_step.2.1 36 = .ok (.getfield 20, 3) := by decide +kernel
theorem d_M_step_39 : decode me_M_step.2.1 39 = .ok (.iload_n 2, 1) := by decide +kernel
theorem d_M_step_40 : decode me_M_step.2.1 40 = .ok (.iaload, 1) := by decide +kernel
theorem d_M_step_41 : decode me_M_step.2.1 41 = .ok (.iastore, 1) := by decide +kernel
theorem d_M_step_42 : decode me_M_step.2.1 42 = .ok (.iinc 2 1, 3) := by decide +kernel
theorem d_M_step_45 : decode me_M_step.2.1 45 = .ok (.goto (-23), 3) := by decide +kernel
theorem d_M_step_48 : decode me_M_step.2.1 48 = .ok (.iconst 0, 1) := by decide +kernel
theorem d_M_step_49 : decode me_M_step.2.1 49 = .ok (.istore_n 2, 1) := by decide +kernel
theorem d_M_step_50 : decode me_M_step.2.1 50 = .ok (.iload_n 2, 1) := by decide +kernel
theorem d_M_step_51 : decode me_M_step.2.1 51 = .ok (.iload_n 1, 1) := by decide +kernel
theorem d_M_step_52 : decode me_M_step.2.1 52 = .ok (.if_icmp .ge 13, 3) := by decide +kernel
theorem d_M_step_55 : decode me_M_step.2.1 55 = .ok (.aload_n 0, 1) := by decide +kernel
theorem d_M_step_56 : decode me_M_step.2.1 56 = .ok (.invokevirtual 213, 3) := by decide +kernel
theorem d_M_step_59 : decode me_M_step.2.1 59 = .ok (.iinc 2 1, 3) := by decide +kernel
theorem d_M_step_62 : decode me_M_step.2.1 62 = .ok (.goto (-12), 3) := by decide +kernel
theorem d_M_step_65 : decode me_M_step.2.1 65 = .ok (.iconst 0, 1) := by decide +kernel
theorem d_M_step_66 : decode me_M_step.2.1 66 = .ok (.istore_n 2, 1) := by decide +kernel
theorem d_M_step_67 : decode me_M_step.2.1 67 = .ok (.iconst 0, 1) := by decide +kernel
theorem d_M_step_68 : decode me_M_step.2.1 68 = .ok (.istore_n 3, 1) := by decide +kernel
theorem d_M_step_69 : decode me_M_step.2.1 69 = .ok (.iload_n 3, 1) := by decide +kernel
theorem d_M_step_70 : decode me_M_step.2.1 70 = .ok (.aload_n 0, 1) := by decide +kernel
theorem d_M_step_71 : decode me_M_step.2.1 71 = .ok (.getfield 16, 3) := by decide +kernel
theorem d_M_step_74 : decode me_M_step.2.1 74 = .ok (.if_icmp .ge 32, 3) := by decide +kernel
theorem d_M_step_77 : decode me_M_step.2.1 77 = .ok (.aload_n 0, 1) := by decide +kernel
theorem d_M_step_78 : decode me_M_step.2.1 78 = .ok (.getfield 20, 3) := by decide +kernel
theorem d_M_step_81 : decode me_M_step.2.1 81 = .ok (.iload_n 3, 1) := by decide +kernel
theorem d_M_step_82 : decode me_M_step.2.1 82 = .ok (.iaload, 1) := by decide +kernel
theorem d_M_step_83 : decode me_M_step.2.1 83 = .ok (.aload_n 0, 1) := by decide +kernel
theorem d_M_step_84 : decode me_M_step.2.1 84 = .ok (.getfield 100, 3) := by decide +kernel
theorem d_M_step_87 : decode me_M_step.2.1 87 = .ok (.iload_n 3, 1) := by decide +kernel
theorem d_M_step_88 : decode me_M_step.2.1 88 = .ok (.iaload, 1) := by decide +kernel
theorem d_M_step_89 : decode me_M_step.2.1 89 = .ok (.if_icmp .ne 7, 3) := by decide +kernel
theorem d_M_step_92 : decode me_M_step.2.1 92 = .ok (.iload_n 2, 1) := by decide +kernel
theorem d_M_step_93 : decode me_M_step.2.1 93 = .ok (.goto 6, 3) := by decide +kernel
theorem d_M_step_96 : decode me_M_step.2.1 96 = .ok (.iload_n 2, 1) := by decide +kernel
theorem d_M_step_97 : decode me_M_step.2.1 97 = .ok (.iconst 1, 1) := by decide +kernel
theorem d_M_step_98 : decode me_M_step.2.1 98 = .ok (.iadd, 1) := by decide +kernel
theorem d_M_step_99 : decode me_M_step.2.1 99 = .ok (.istore_n 2, 1) := by decide +kernel
theorem d_M_step_100 : decode me_M_step.2.1 100 = .ok (.iinc 3 1, 3) := by decide +kernel
theorem d_M_step_103 : decode me_M_step.2.1 103 = .ok (.goto (-34), 3) := by decide +kernel
theorem d_M_step_106 : decode me_M_step.2.1 106 = .ok (.aload_n 0, 1) := by decide +kernel
theorem d_M_step_107 : decode me_M_step.2.1 107 = .ok (.iconst 0, 1) := by decide +kernel
theorem d_M_step_108 : decode me_M_step.2.1 108 = .ok (.putfield 210, 3) := by decide +kernel
theorem d_M_step_111 : decode me_M_step.2.1 111 = .ok (.iload_n 2, 1) := by decide +kernel
theorem d_M_step_112 : decode me_M_step.2.1 112 = .ok (.ireturn, 1) := by decide +kernel
abbrev G_M_step_0 (l : Launch) (v : gs_V) (n : Nat) (post : Int32 → gs_S → Prop) (σ : gs_S) (x1 : Int32) : Prop := gG l v lyM 33 me_M_step n (qI v lyM 33 post) 0 [(0, .ref (v.2.2 0)), (1, .int x1)] [] σ
abbrev G_M_step_18 (l : Launch) (v : gs_V) (n : Nat) (post : Int32 → gs_S → Prop) (σ : gs_S) : Prop := gG l v lyM 33 me_M_step n (qI v lyM 33 post) 18 [] [] σ
abbrev G_M_step_22 (l : Launch) (v : gs_V) (n : Nat) (post : Int32 → gs_S → Prop) (σ : gs_S) (x1 : Int32) (x2 : Int32) : Prop := gG l v lyM 33 me_M_step n (qI v lyM 33 post) 22 [(0, .ref (v.2.2 0)), (1, .int x1), (2, .int x2)] [] σ
abbrev G_M_step_50 (l : Launch) (v : gs_V) (n : Nat) (post : Int32 → gs_S → Prop) (σ : gs_S) (x1 : Int32) (x2 : Int32) : Prop := gG l v lyM 33 me_M_step n (qI v lyM 33 post) 50 [(0, .ref (v.2.2 0)), (1, .int x1), (2, .int x2)] [] σ
abbrev G_M_step_69 (l : Launch) (v : gs_V) (n : Nat) (post : Int32 → gs_S → Prop) (σ : gs_S) (x2 : Int32) (x3 : Int32) : Prop := gG l v lyM 33 me_M_step n (qI v lyM 33 post) 69 [(0, .ref (v.2.2 0)), (2, .int x2), (3, .int x3)] [] σ
abbrev G_M_step_99 (l : Launch) (v : gs_V) (n : Nat) (post : Int32 → gs_S → Prop) (σ : gs_S) (x3 : Int32) (s0 : Int32) : Prop := gG l v lyM 33 me_M_step n (qI v lyM 33 post) 99 [(0, .ref (v.2.2 0)), (3, .int x3)] [.int s0] σ
set_option maxRecDepth 20000 in
set_option maxHeartbeats 1000000 in
theorem T_M_step_0 {l : Launch} {v : gs_V} {n : Nat} {post : Int32 → gs_S → Prop} {σ : gs_S} {x1 : Int32} (h : (((σ.1 0 2) = 0 → G_M_step_18 l v n post σ) ∧ (¬ (σ.1 0 2) = 0 → ((x1 < 0 → G_M_step_18 l v n post σ) ∧ (¬ x1 < 0 → ((x1 ≤ 200 → G_M_step_22 l v n post σ x1 0) ∧ (¬ x1 ≤ 200 → G_M_step_18 l v n post σ))))))) : G_M_step_0 l v n post σ x1 := by
  refine g_aload_n d_M_step_0 0 rfl rfl ?_
  refine g_getV (x := .int (σ.1 0 2)) d_M_step_1 fl_M_179 (by decide) rfl rfl rfl ?_
  refine g_if_eq (tgt := 18) d_M_step_4 rfl (fun hc => ?_) (fun hc => ?_)
  · have h := h.1 hc
    exact g_sub [] rfl h
  · have h := h.2 hc
    refine g_iload_n d_M_step_7 1 rfl rfl ?_
    refine g_if_lt (tgt := 18) d_M_step_8 rfl (fun hc => ?_) (fun hc => ?_)
    · have h := h.1 hc
      exact g_sub [] rfl h
    · have h := h.2 hc
      refine g_iload_n d_M_step_11 1 rfl rfl ?_
      refine g_sipush d_M_step_12 (x := 200) (by decide) ?_
      refine g_icmp_le (tgt := 20) d_M_step_15 rfl (fun hc => ?_) (fun hc => ?_)
      · have h := h.1 hc
        refine g_iconst d_M_step_20 (x := 0) (by decide) ?_
        refine g_istore_n (L' := [(2, .int 0), (0, .ref (v.2.2 0)), (1, .int x1)]) d_M_step_21 rfl (by decide) rfl ?_
        exact g_sub [1, 2, 0] rfl h
      · have h := h.2 hc
        exact g_sub [] rfl h
set_option maxRecDepth 20000 in
set_option maxHeartbeats 1000000 in
theorem T_M_step_18 {l : Launch} {v : gs_V} {n : Nat} {post : Int32 → gs_S → Prop} {σ : gs_S} (h : post ((-1)) σ) : G_M_step_18 l v n post σ := by
  refine g_iconst d_M_step_18 (x := (-1)) (by decide) ?_
  exact g_iret d_M_step_19 rfl h
set_option maxRecDepth 20000 in
set_option maxHeartbeats 1000000 in
theorem T_M_step_22 {l : Launch} {v : gs_V} {n : Nat} {post : Int32 → gs_S → Prop} {σ : gs_S} {x1 : Int32} {x2 : Int32} (h : (((σ.1 0 7) ≤ x2 → G_M_step_50 l v n post σ x1 0) ∧ (¬ (σ.1 0 7) ≤ x2 → vp_in x2 64 ∧ vp_in x2 68 ∧ G_M_step_22 l v n post (gs_pI σ 29 x2.toNatClampNeg (σ.1 3 x2.toNatClampNeg)) x1 (x2 + 1)))) : G_M_step_22 l v n post σ x1 x2 := by
  refine g_iload_n d_M_step_22 2 rfl rfl ?_
  refine g_aload_n d_M_step_23 0 rfl rfl ?_
  refine g_getV (x := .int (σ.1 0 7)) d_M_step_24 fl_M_16 (by decide) rfl rfl rfl ?_
  refine g_icmp_ge (tgt := 48) d_M_step_27 rfl (fun hc => ?_) (fun hc => ?_)
  · have h := h.1 hc
    refine g_iconst d_M_step_48 (x := 0) (by decide) ?_
    refine g_istore_n (L' := [(2, .int 0), (0, .ref (v.2.2 0)), (1, .int x1)]) d_M_step_49 rfl (by decide) rfl ?_
    exact g_sub [1, 2, 0] rfl h
  · have h := h.2 hc
    refine g_aload_n d_M_step_30 0 rfl rfl ?_
    refine g_getV (x := .ref (v.2.2 29)) d_M_step_31 fl_M_100 (by decide) rfl rfl rfl ?_
    refine g_iload_n d_M_step_34 2 rfl rfl ?_
    refine g_aload_n d_M_step_35 0 rfl rfl ?_
    refine g_getV (x := .ref (v.2.2 3)) d_M_step_36 fl_M_20 (by decide) rfl rfl rfl ?_
    refine g_iload_n d_M_step_39 2 rfl rfl ?_
    have hi1 := h.1
    have h := h.2
    refine g_iald (x := σ.1 3 x2.toNatClampNeg) d_M_step_40 (by decide) rfl hi1 rfl ?_
    have hi2 := h.1
    have h := h.2
    refine g_iast d_M_step_41 (by decide) rfl hi2 ?_
    refine g_iinc (L' := [(2, .int (x2 + 1)), (0, .ref (v.2.2 0)), (1, .int x1)]) d_M_step_42 2 rfl (by rfl) (by decide) rfl ?_
    refine g_goto (tgt := 22) d_M_step_45 rfl ?_
    exact g_sub [1, 2, 0] rfl h
set_option maxRecDepth 20000 in
set_option maxHeartbeats 1000000 in
theorem T_M_step_50 {l : Launch} {v : gs_V} {n : Nat} {post : Int32 → gs_S → Prop} {σ : gs_S} {x1 : Int32} {x2 : Int32} (h : ((x1 ≤ x2 → G_M_step_69 l v n post σ 0 0) ∧ (¬ x1 ≤ x2 → gM l v lyM 33 me_M_turn n [.ref (v.2.2 0)] σ (qV v lyM 33 (fun σ1 => G_M_step_50 l v n post σ1 x1 (x2 + 1)))))) : G_M_step_50 l v n post σ x1 x2 := by
  refine g_iload_n d_M_step_50 2 rfl rfl ?_
  refine g_iload_n d_M_step_51 1 rfl rfl ?_
  refine g_icmp_ge (tgt := 65) d_M_step_52 rfl (fun hc => ?_) (fun hc => ?_)
  · have h := h.1 hc
    refine g_iconst d_M_step_65 (x := 0) (by decide) ?_
    refine g_istore_n (L' := [(2, .int 0), (0, .ref (v.2.2 0)), (1, .int x1)]) d_M_step_66 rfl (by decide) rfl ?_
    refine g_iconst d_M_step_67 (x := 0) (by decide) ?_
    refine g_istore_n (L' := [(3, .int 0), (2, .int 0), (0, .ref (v.2.2 0)), (1, .int x1)]) d_M_step_68 rfl (by decide) rfl ?_
    exact g_sub [2, 1, 0] rfl h
  · have h := h.2 hc
    refine g_aload_n d_M_step_55 0 rfl rfl ?_
    refine g_callVv (av := []) (rest := []) d_M_step_56 Y_M_turn lk_M_213 (by decide) rfl rfl I_M_turn rfl (Nat.le_of_ble_eq_true rfl) rfl h (fun σ1 h => ?_)
    refine g_iinc (L' := [(2, .int (x2 + 1)), (0, .ref (v.2.2 0)), (1, .int x1)]) d_M_step_59 2 rfl (by rfl) (by decide) rfl ?_
    refine g_goto (tgt := 50) d_M_step_62 rfl ?_
    exact g_sub [1, 2, 0] rfl h
set_option maxRecDepth 20000 in
set_option maxHeartbeats 1000000 in
theorem T_M_step_69 {l : Launch} {v : gs_V} {n : Nat} {post : Int32 → gs_S → Prop} {σ : gs_S} {x2 : Int32} {x3 : Int32} (h : (((σ.1 0 7) ≤ x3 → post x2 (gs_pI σ 0 47 0)) ∧ (¬ (σ.1 0 7) ≤ x3 → vp_in x3 64 ∧ vp_in x3 68 ∧ ((¬ (σ.1 3 x3.toNatClampNeg) = (σ.1 29 x3.toNatClampNeg) → G_M_step_99 l v n post σ x3 (x2 + 1)) ∧ ((σ.1 3 x3.toNatClampNeg) = (σ.1 29 x3.toNatClampNeg) → G_M_step_99 l v n post σ x3 x2))))) : G_M_step_69 l v n post σ x2 x3 := by
  refine g_iload_n d_M_step_69 2 rfl rfl ?_
  refine g_aload_n d_M_step_70 0 rfl rfl ?_
  refine g_getV (x := .int (σ.1 0 7)) d_M_step_71 fl_M_16 (by decide) rfl rfl rfl ?_
  refine g_icmp_ge (tgt := 106) d_M_step_74 rfl (fun hc => ?_) (fun hc => ?_)
  · have h := h.1 hc
    refine g_aload_n d_M_step_106 0 rfl rfl ?_
    refine g_iconst d_M_step_107 (x := 0) (by decide) ?_
    refine g_putI d_M_step_108 fp_M_210 (by decide) rfl rfl ⟨rfl, rfl⟩ ?_
    refine g_iload_n d_M_step_111 1 rfl rfl ?_
    exact g_iret d_M_step_112 rfl h
  · have h := h.2 hc
    refine g_aload_n d_M_step_77 0 rfl rfl ?_
    refine g_getV (x := .ref (v.2.2 3)) d_M_step_78 fl_M_20 (by decide) rfl rfl rfl ?_
    refine g_iload_n d_M_step_81 2 rfl rfl ?_
    have hi1 := h.1
    have h := h.2
    refine g_iald (x := σ.1 3 x3.toNatClampNeg) d_M_step_82 (by decide) rfl hi1 rfl ?_
    refine g_aload_n d_M_step_83 0 rfl rfl ?_
    refine g_getV (x := .ref (v.2.2 29)) d_M_step_84 fl_M_100 (by decide) rfl rfl rfl ?_
    refine g_iload_n d_M_step_87 2 rfl rfl ?_
    have hi2 := h.1
    have h := h.2
    refine g_iald (x := σ.1 29 x3.toNatClampNeg) d_M_step_88 (by decide) rfl hi2 rfl ?_
    refine g_icmp_ne (tgt := 96) d_M_step_89 rfl (fun hc => ?_) (fun hc => ?_)
    · have h := h.1 hc
      refine g_iload_n d_M_step_96 1 rfl rfl ?_
      refine g_iconst d_M_step_97 (x := 1) (by decide) ?_
      refine g_iadd d_M_step_98 ?_
      exact g_sub [0, 2] rfl h
    · have h := h.2 hc
      refine g_iload_n d_M_step_92 1 rfl rfl ?_
      refine g_goto (tgt := 99) d_M_step_93 rfl ?_
      exact g_sub [0, 2] rfl h
set_option maxRecDepth 20000 in
set_option maxHeartbeats 1000000 in
theorem T_M_step_99 {l : Launch} {v : gs_V} {n : Nat} {post : Int32 → gs_S → Prop} {σ : gs_S} {x3 : Int32} {s0 : Int32} (h : G_M_step_69 l v n post σ s0 (x3 + 1)) : G_M_step_99 l v n post σ x3 s0 := by
  refine g_istore_n (L' := [(2, .int s0), (0, .ref (v.2.2 0)), (3, .int x3)]) d_M_step_99 rfl (by decide) rfl ?_
  refine g_iinc (L' := [(3, .int (x3 + 1)), (2, .int s0), (0, .ref (v.2.2 0))]) d_M_step_100 2 rfl (by rfl) (by decide) rfl ?_
  refine g_goto (tgt := 69) d_M_step_103 rfl ?_
  exact g_sub [2, 1, 0] rfl h
theorem E_M_step {l : Launch} {v : gs_V} {n : Nat} {post : Int32 → gs_S → Prop} {σ : gs_S} {x1 : Int32} (h : G_M_step_0 l v n post σ x1) : gM l v lyM 33 me_M_step (n + 1) [.ref (v.2.2 0), .int x1] σ (qI v lyM 33 post) := gM_of (by decide +kernel) (Nat.le_of_ble_eq_true rfl) h
/-! LineRulesModel.surjective -/
theorem d_M_surjective_0 : decode me_M_surjective.2.1 0 = .ok (.aload_n 0, 1) := by decide +kernel
theorem d_M_surjective_1 : decode me_M_surjective.2.1 1 = .ok (.getfield 179, 3) := by decide +kernel
theorem d_M_surjective_4 : decode me_M_surjective.2.1 4 = .ok (.ifCond .ne 5, 3) := by decide +kernel
theorem d_M_surjective_7 : decode me_M_surjective.2.1 7 = .ok (.iconst (-1), 1) := by decide +kernel
theorem d_M_surjective_8 : decode me_M_surjective.2.1 8 = .ok (.ireturn, 1) := by decide +kernel
theorem d_M_surjective_9 : decode me_M_surjective.2.1 9 = .ok (.aload_n 0, 1) := by decide +kernel
theorem d_M_surjective_10 : decode me_M_surjective.2.1 10 = .ok (.getfield 194, 3) := by decide +kernel
theorem d_M_surjective_13 : decode me_M_surjective.2.1 13 = .ok (.ifCond .ne 44, 3) := by decide +kernel
theorem d_M_surjective_16 : decode me_M_surjective.2.1 16 = .ok (.aload_n 0, 1) := by decide +kernel
theorem d_M_surjective_17 : decode me_M_surjective.2.1 17 = .ok (.getfield 182, 3) := by decide +kernel
theorem d_M_surjective_20 : decode me_M_surjective.2.1 20 = .ok (.iconst 1, 1) := by decide +kernel
theorem d_M_surjective_21 : decode me_M_surjective.2.1 21 = .ok (.if_icmp .ne 10, 3) := by decide +kernel
theorem d_M_surjective_24 : decode me_M_surjective.2.1 24 = .ok (.aload_n 0, 1) := by decide +kernel
theorem d_M_surjective_25 : decode me_M_surjective.2.1 25 = .ok (.invokevirtual 223, 3) := by decide +kernel
theorem d_M_surjective_28 : decode me_M_surjective.2.1 28 = .ok (.goto 15, 3) := by decide +kernel
theorem d_M_surjective_31 : decode me_M_surjective.2.1 31 = .ok (.aload_n 0, 1) := by decide +kernel
theorem d_M_surjective_32 : decode me_M_surjective.2.1 32 = .ok (.invokevirtual 227, 3) := by decide +kernel
theorem d_M_surjective_35 : decode me_M_surjective.2.1 35 = .ok (.ifCond .ne 7, 3) := by decide +kernel
theorem d_M_surjective_38 : decode me_M_surjective.2.1 38 = .ok (.iconst 1, 1) := by decide +kernel
theorem d_M_surjective_39 : decode me_M_surjective.2.1 39 = .ok (.goto 4, 3) := by decide +kernel
theorem d_M_surjective_42 : decode me_M_surjective.2.1 42 = .ok (.iconst 0, 1) := by decide +kernel
theorem d_M_surjective_43 : decode me_M_surjective.2.1 43 = .ok (.istore_n 1, 1) := by decide +kernel
theorem d_M_surjective_44 : decode me_M_surjective.2.1 44 = .ok (.aload_n 0, 1) := by decide +kernel
theorem d_M_surjective_45 : decode me_M_surjective.2.1 45 = .ok (.iload_n 1, 1) := by decide +kernel
theorem d_M_surjective_46 : decode me_M_surjective.2.1 46 = .ok (.ifCond .eq 7, 3) := by decide +kernel
theorem d_M_surjective_49 : decode me_M_surjective.2.1 49 = .ok (.iconst 2, 1) := by decide +kernel
theorem d_M_surjective_50 : decode me_M_surjective.2.1 50 = .ok (.goto 4, 3) := by decide +kernel
theorem d_M_surjective_53 : decode me_M_surjective.2.1 53 = .ok (.iconst 1, 1) := by decide +kernel
theorem d_M_surjective_54 : decode me_M_surjective.2.1 54 = .ok (.putfield 194, 3) := by decide +kernel
theorem d_M_surjective_57 : decode me_M_surjective.2.1 57 = .ok (.aload_n 0, 1) := by decide +kernel
theorem d_M_surjective_58 : decode me_M_surjective.2.1 58 = .ok (.getfield 194, 3) := by decide +kernel
theorem d_M_surjective_61 : decode me_M_surjective.2.1 61 = .ok (.iconst 1, 1) := by decide +kernel
theorem d_M_surjective_62 : decode me_M_surjective.2.1 62 = .ok (.isub, 1) := by decide +kernel
theorem d_M_surjective_63 : decode me_M_surjective.2.1 63 = .ok (.ireturn, 1) := by decide +kernel
abbrev G_M_surjective_0 (l : Launch) (v : gs_V) (n : Nat) (post : Int32 → gs_S → Prop) (σ : gs_S) : Prop := gG l v lyM 33 me_M_surjective n (qI v lyM 33 post) 0 [(0, .ref (v.2.2 0))] [] σ
abbrev G_M_surjective_43 (l : Launch) (v : gs_V) (n : Nat) (post : Int32 → gs_S → Prop) (σ : gs_S) (s0 : Int32) : Prop := gG l v lyM 33 me_M_surjective n (qI v lyM 33 post) 43 [(0, .ref (v.2.2 0))] [.int s0] σ
abbrev G_M_surjective_54 (l : Launch) (v : gs_V) (n : Nat) (post : Int32 → gs_S → Prop) (σ : gs_S) (s0 : Int32) : Prop := gG l v lyM 33 me_M_surjective n (qI v lyM 33 post) 54 [(0, .ref (v.2.2 0))] [.int s0, .ref (v.2.2 0)] σ
abbrev G_M_surjective_57 (l : Launch) (v : gs_V) (n : Nat) (post : Int32 → gs_S → Prop) (σ : gs_S) : Prop := gG l v lyM 33 me_M_surjective n (qI v lyM 33 post) 57 [(0, .ref (v.2.2 0))] [] σ
set_option maxRecDepth 20000 in
set_option maxHeartbeats 1000000 in
theorem T_M_surjective_0 {l : Launch} {v : gs_V} {n : Nat} {post : Int32 → gs_S → Prop} {σ : gs_S} (h : ((¬ (σ.1 0 2) = 0 → ((¬ (σ.1 0 28) = 0 → G_M_surjective_57 l v n post σ) ∧ ((σ.1 0 28) = 0 → ((¬ (σ.1 0 3) = 1 → gM l v lyM 33 me_M_losesSomewhere n [.ref (v.2.2 0)] σ (qI v lyM 33 (fun r1 σ1 => ((¬ r1 = 0 → G_M_surjective_43 l v n post σ1 0) ∧ (r1 = 0 → G_M_surjective_43 l v n post σ1 1))))) ∧ ((σ.1 0 3) = 1 → gM l v lyM 33 me_M_makesAll n [.ref (v.2.2 0)] σ (qI v lyM 33 (fun r2 σ2 => G_M_surjective_43 l v n post σ2 r2))))))) ∧ ((σ.1 0 2) = 0 → post ((-1)) σ))) : G_M_surjective_0 l v n post σ := by
  refine g_aload_n d_M_surjective_0 0 rfl rfl ?_
  refine g_getV (x := .int (σ.1 0 2)) d_M_surjective_1 fl_M_179 (by decide) rfl rfl rfl ?_
  refine g_if_ne (tgt := 9) d_M_surjective_4 rfl (fun hc => ?_) (fun hc => ?_)
  · have h := h.1 hc
    refine g_aload_n d_M_surjective_9 0 rfl rfl ?_
    refine g_getV (x := .int (σ.1 0 28)) d_M_surjective_10 fl_M_194 (by decide) rfl rfl rfl ?_
    refine g_if_ne (tgt := 57) d_M_surjective_13 rfl (fun hc => ?_) (fun hc => ?_)
    · have h := h.1 hc
      exact h
    · have h := h.2 hc
      refine g_aload_n d_M_surjective_16 0 rfl rfl ?_
      refine g_getV (x := .int (σ.1 0 3)) d_M_surjective_17 fl_M_182 (by decide) rfl rfl rfl ?_
      refine g_iconst d_M_surjective_20 (x := 1) (by decide) ?_
      refine g_icmp_ne (tgt := 31) d_M_surjective_21 rfl (fun hc => ?_) (fun hc => ?_)
      · have h := h.1 hc
        refine g_aload_n d_M_surjective_31 0 rfl rfl ?_
        refine g_callVi (av := []) (rest := []) d_M_surjective_32 Y_M_losesSomewhere lk_M_227 (by decide) rfl rfl I_M_losesSomewhere rfl (Nat.le_of_ble_eq_true rfl) rfl h (fun r1 σ1 h => ?_)
        refine g_if_ne (tgt := 42) d_M_surjective_35 rfl (fun hc => ?_) (fun hc => ?_)
        · have h := h.1 hc
          refine g_iconst d_M_surjective_42 (x := 0) (by decide) ?_
          exact h
        · have h := h.2 hc
          refine g_iconst d_M_surjective_38 (x := 1) (by decide) ?_
          refine g_goto (tgt := 43) d_M_surjective_39 rfl ?_
          exact h
      · have h := h.2 hc
        refine g_aload_n d_M_surjective_24 0 rfl rfl ?_
        refine g_callVi (av := []) (rest := []) d_M_surjective_25 Y_M_makesAll lk_M_223 (by decide) rfl rfl I_M_makesAll rfl (Nat.le_of_ble_eq_true rfl) rfl h (fun r2 σ2 h => ?_)
        refine g_goto (tgt := 43) d_M_surjective_28 rfl ?_
        exact h
  · have h := h.2 hc
    refine g_iconst d_M_surjective_7 (x := (-1)) (by decide) ?_
    exact g_iret d_M_surjective_8 rfl h
set_option maxRecDepth 20000 in
set_option maxHeartbeats 1000000 in
theorem T_M_surjective_43 {l : Launch} {v : gs_V} {n : Nat} {post : Int32 → gs_S → Prop} {σ : gs_S} {s0 : Int32} (h : ((s0 = 0 → G_M_surjective_54 l v n post σ 1) ∧ (¬ s0 = 0 → G_M_surjective_54 l v n post σ 2))) : G_M_surjective_43 l v n post σ s0 := by
  refine g_istore_n (L' := [(1, .int s0), (0, .ref (v.2.2 0))]) d_M_surjective_43 rfl (by decide) rfl ?_
  refine g_aload_n d_M_surjective_44 1 rfl rfl ?_
  refine g_iload_n d_M_surjective_45 0 rfl rfl ?_
  refine g_if_eq (tgt := 53) d_M_surjective_46 rfl (fun hc => ?_) (fun hc => ?_)
  · have h := h.1 hc
    refine g_iconst d_M_surjective_53 (x := 1) (by decide) ?_
    exact g_sub [1] rfl h
  · have h := h.2 hc
    refine g_iconst d_M_surjective_49 (x := 2) (by decide) ?_
    refine g_goto (tgt := 54) d_M_surjective_50 rfl ?_
    exact g_sub [1] rfl h
set_option maxRecDepth 20000 in
set_option maxHeartbeats 1000000 in
theorem T_M_surjective_54 {l : Launch} {v : gs_V} {n : Nat} {post : Int32 → gs_S → Prop} {σ : gs_S} {s0 : Int32} (h : G_M_surjective_57 l v n post (gs_pI σ 0 28 s0)) : G_M_surjective_54 l v n post σ s0 := by
  refine g_putI d_M_surjective_54 fp_M_194 (by decide) rfl rfl ⟨rfl, rfl⟩ ?_
  exact h
set_option maxRecDepth 20000 in
set_option maxHeartbeats 1000000 in
theorem T_M_surjective_57 {l : Launch} {v : gs_V} {n : Nat} {post : Int32 → gs_S → Prop} {σ : gs_S} (h : post ((σ.1 0 28) - 1) σ) : G_M_surjective_57 l v n post σ := by
  refine g_aload_n d_M_surjective_57 0 rfl rfl ?_
  refine g_getV (x := .int (σ.1 0 28)) d_M_surjective_58 fl_M_194 (by decide) rfl rfl rfl ?_
  refine g_iconst d_M_surjective_61 (x := 1) (by decide) ?_
  refine g_isub d_M_surjective_62 ?_
  exact g_iret d_M_surjective_63 rfl h
theorem E_M_surjective {l : Launch} {v : gs_V} {n : Nat} {post : Int32 → gs_S → Prop} {σ : gs_S} (h : G_M_surjective_0 l v n post σ) : gM l v lyM 33 me_M_surjective (n + 1) [.ref (v.2.2 0)] σ (qI v lyM 33 post) := gM_of (by decide +kernel) (Nat.le_of_ble_eq_true rfl) h
/-! LineRulesModel.undo -/
theorem d_M_undo_0 : decode me_M_undo.2.1 0 = .ok (.aload_n 0, 1) := by decide +kernel
theorem d_M_undo_1 : decode me_M_undo.2.1 1 = .ok (.getfield 179, 3) := by decide +kernel
theorem d_M_undo_4 : decode me_M_undo.2.1 4 = .ok (.ifCond .ne 5, 3) := by decide +kernel
theorem d_M_undo_7 : decode me_M_undo.2.1 7 = .ok (.iconst (-1), 1) := by decide +kernel
theorem d_M_undo_8 : decode me_M_undo.2.1 8 = .ok (.ireturn, 1) := by decide +kernel
theorem d_M_undo_9 : decode me_M_undo.2.1 9 = .ok (.aload_n 0, 1) := by decide +kernel
theorem d_M_undo_10 : decode me_M_undo.2.1 10 = .ok (.invokevirtual 245, 3) := by decide +kernel
theorem d_M_undo_13 : decode me_M_undo.2.1 13 = .ok (.aload_n 0, 1) := by decide +kernel
theorem d_M_undo_14 : decode me_M_undo.2.1 14 = .ok (.getfield 236, 3) := by decide +kernel
theorem d_M_undo_17 : decode me_M_undo.2.1 17 = .ok (.ifCond .le 31, 3) := by decide +kernel
theorem d_M_undo_20 : decode me_M_undo.2.1 20 = .ok (.iload_n 1, 1) := by decide +kernel
theorem d_M_undo_21 : decode me_M_undo.2.1 21 = .ok (.ifCond .lt 27, 3) := by decide +kernel
theorem d_M_undo_24 : decode me_M_undo.2.1 24 = .ok (.iload_n 1, 1) := by decide +kernel
theorem d_M_undo_25 : decode me_M_undo.2.1 25 = .ok (.aload_n 0, 1) := by decide +kernel
theorem d_M_undo_26 : decode me_M_undo.2.1 26 = .ok (.getfield 179, 3) := by decide +kernel
theorem d_M_undo_29 : decode me_M_undo.2.1 29 = .ok (.aload_n 0, 1) := by decide +kernel
theorem d_M_undo_30 : decode me_M_undo.2.1 30 = .ok (.getfield 236, 3) := by decide +kernel
theorem d_M_undo_33 : decode me_M_undo.2.1 33 = .ok (.invokestatic 147, 3) := by decide +kernel
theorem d_M_undo_36 : decode me_M_undo.2.1 36 = .ok (.if_icmp .ge 12, 3) := by decide +kernel
theorem d_M_undo_39 : decode me_M_undo.2.1 39 = .ok (.aload_n 0, 1) := by decide +kernel
theorem d_M_undo_40 : decode me_M_undo.2.1 40 = .ok (.getfield 72, 3) := by decide +kernel
theorem d_M_undo_43 : decode me_M_undo.2.1 43 = .ok (.iload_n 1, 1) := by decide +kernel
theorem d_M_undo_44 : decode me_M_undo.2.1 44 = .ok (.iaload, 1) := by decide +kernel
theorem d_M_undo_45 : decode me_M_undo.2.1 45 = .ok (.goto 4, 3) := by decide +kernel
theorem d_M_undo_48 : decode me_M_undo.2.1 48 = .ok (.iconst (-1), 1) := by decide +kernel
theorem d_M_undo_49 : decode me_M_undo.2.1 49 = .ok (.ireturn, 1) := by decide +kernel
abbrev G_M_undo_0 (l : Launch) (v : gs_V) (n : Nat) (post : Int32 → gs_S → Prop) (σ : gs_S) (x1 : Int32) : Prop := gG l v lyM 33 me_M_undo n (qI v lyM 33 post) 0 [(0, .ref (v.2.2 0)), (1, .int x1)] [] σ
abbrev G_M_undo_48 (l : Launch) (v : gs_V) (n : Nat) (post : Int32 → gs_S → Prop) (σ : gs_S) : Prop := gG l v lyM 33 me_M_undo n (qI v lyM 33 post) 48 [] [] σ
abbrev G_M_undo_49 (l : Launch) (v : gs_V) (n : Nat) (post : Int32 → gs_S → Prop) (σ : gs_S) (s0 : Int32) : Prop := gG l v lyM 33 me_M_undo n (qI v lyM 33 post) 49 [] [.int s0] σ
set_option maxRecDepth 20000 in
set_option maxHeartbeats 1000000 in
theorem T_M_undo_0 {l : Launch} {v : gs_V} {n : Nat} {post : Int32 → gs_S → Prop} {σ : gs_S} {x1 : Int32} (h : ((¬ (σ.1 0 2) = 0 → gM l v lyM 33 me_M_findInverse n [.ref (v.2.2 0)] σ (qV v lyM 33 (fun σ1 => (((σ1.1 0 32) ≤ 0 → G_M_undo_48 l v n post σ1) ∧ (¬ (σ1.1 0 32) ≤ 0 → ((x1 < 0 → G_M_undo_48 l v n post σ1) ∧ (¬ x1 < 0 → gM l v lyM 33 me_M_powerOf n [.int (σ1.1 0 2), .int (σ1.1 0 32)] σ1 (qI v lyM 33 (fun r2 σ2 => ((r2 ≤ x1 → G_M_undo_48 l v n post σ2) ∧ (¬ r2 ≤ x1 → vp_in x1 1024 ∧ G_M_undo_49 l v n post σ2 (σ2.1 20 x1.toNatClampNeg)))))))))))) ∧ ((σ.1 0 2) = 0 → post ((-1)) σ))) : G_M_undo_0 l v n post σ x1 := by
  refine g_aload_n d_M_undo_0 0 rfl rfl ?_
  refine g_getV (x := .int (σ.1 0 2)) d_M_undo_1 fl_M_179 (by decide) rfl rfl rfl ?_
  refine g_if_ne (tgt := 9) d_M_undo_4 rfl (fun hc => ?_) (fun hc => ?_)
  · have h := h.1 hc
    refine g_aload_n d_M_undo_9 0 rfl rfl ?_
    refine g_callVv (av := []) (rest := []) d_M_undo_10 Y_M_findInverse lk_M_245 (by decide) rfl rfl I_M_findInverse rfl (Nat.le_of_ble_eq_true rfl) rfl h (fun σ1 h => ?_)
    refine g_aload_n d_M_undo_13 0 rfl rfl ?_
    refine g_getV (x := .int (σ1.1 0 32)) d_M_undo_14 fl_M_236 (by decide) rfl rfl rfl ?_
    refine g_if_le (tgt := 48) d_M_undo_17 rfl (fun hc => ?_) (fun hc => ?_)
    · have h := h.1 hc
      exact g_sub [] rfl h
    · have h := h.2 hc
      refine g_iload_n d_M_undo_20 1 rfl rfl ?_
      refine g_if_lt (tgt := 48) d_M_undo_21 rfl (fun hc => ?_) (fun hc => ?_)
      · have h := h.1 hc
        exact g_sub [] rfl h
      · have h := h.2 hc
        refine g_iload_n d_M_undo_24 1 rfl rfl ?_
        refine g_aload_n d_M_undo_25 0 rfl rfl ?_
        refine g_getV (x := .int (σ1.1 0 2)) d_M_undo_26 fl_M_179 (by decide) rfl rfl rfl ?_
        refine g_aload_n d_M_undo_29 0 rfl rfl ?_
        refine g_getV (x := .int (σ1.1 0 32)) d_M_undo_30 fl_M_236 (by decide) rfl rfl rfl ?_
        refine g_callSi (av := [.int (σ1.1 0 2), .int (σ1.1 0 32)]) (rest := [.int x1]) d_M_undo_33 Y_M_powerOf lk_M_147 I_M_powerOf rfl (Nat.le_of_ble_eq_true rfl) rfl h (fun r2 σ2 h => ?_)
        refine g_icmp_ge (tgt := 48) d_M_undo_36 rfl (fun hc => ?_) (fun hc => ?_)
        · have h := h.1 hc
          exact g_sub [] rfl h
        · have h := h.2 hc
          refine g_aload_n d_M_undo_39 0 rfl rfl ?_
          refine g_getV (x := .ref (v.2.2 20)) d_M_undo_40 fl_M_72 (by decide) rfl rfl rfl ?_
          refine g_iload_n d_M_undo_43 1 rfl rfl ?_
          have hi3 := h.1
          have h := h.2
          refine g_iald (x := σ2.1 20 x1.toNatClampNeg) d_M_undo_44 (by decide) rfl hi3 rfl ?_
          refine g_goto (tgt := 49) d_M_undo_45 rfl ?_
          exact g_sub [] rfl h
  · have h := h.2 hc
    refine g_iconst d_M_undo_7 (x := (-1)) (by decide) ?_
    exact g_iret d_M_undo_8 rfl h
set_option maxRecDepth 20000 in
set_option maxHeartbeats 1000000 in
theorem T_M_undo_48 {l : Launch} {v : gs_V} {n : Nat} {post : Int32 → gs_S → Prop} {σ : gs_S} (h : G_M_undo_49 l v n post σ ((-1))) : G_M_undo_48 l v n post σ := by
  refine g_iconst d_M_undo_48 (x := (-1)) (by decide) ?_
  exact h
set_option maxRecDepth 20000 in
set_option maxHeartbeats 1000000 in
theorem T_M_undo_49 {l : Launch} {v : gs_V} {n : Nat} {post : Int32 → gs_S → Prop} {σ : gs_S} {s0 : Int32} (h : post s0 σ) : G_M_undo_49 l v n post σ s0 := by
  exact g_iret d_M_undo_49 rfl h
theorem E_M_undo {l : Launch} {v : gs_V} {n : Nat} {post : Int32 → gs_S → Prop} {σ : gs_S} {x1 : Int32} (h : G_M_undo_0 l v n post σ x1) : gM l v lyM 33 me_M_undo (n + 1) [.ref (v.2.2 0), .int x1] σ (qI v lyM 33 post) := gM_of (by decide +kernel) (Nat.le_of_ble_eq_true rfl) h
/-! LineRulesModel.ways -/
theorem d_M_ways_0 : decode me_M_ways.2.1 0 = .ok (.aload_n 0, 1) := by decide +kernel
theorem d_M_ways_1 : decode me_M_ways.2.1 1 = .ok (.getfield 179, 3) := by decide +kernel
theorem d_M_ways_4 : decode me_M_ways.2.1 4 = .ok (.ifCond .ne 7, 3) := by decide +kernel
theorem d_M_ways_7 : decode me_M_ways.2.1 7 = .ok (.ldc2_w 276, 3) := by decide +kernel
theorem d_M_ways_10 : decode me_M_ways.2.1 10 = .ok (.lreturn, 1) := by decide +kernel
theorem d_M_ways_11 : decode me_M_ways.2.1 11 = .ok (.aload_n 0, 1) := by decide +kernel
theorem d_M_ways_12 : decode me_M_ways.2.1 12 = .ok (.invokevirtual 308, 3) := by decide +kernel
theorem d_M_ways_15 : decode me_M_ways.2.1 15 = .ok (.aload_n 0, 1) := by decide +kernel
theorem d_M_ways_16 : decode me_M_ways.2.1 16 = .ok (.getfield 294, 3) := by decide +kernel
theorem d_M_ways_19 : decode me_M_ways.2.1 19 = .ok (.lreturn, 1) := by decide +kernel
abbrev G_M_ways_0 (l : Launch) (v : gs_V) (n : Nat) (post : Int64 → gs_S → Prop) (σ : gs_S) : Prop := gG l v lyM 33 me_M_ways n (qL v lyM 33 post) 0 [(0, .ref (v.2.2 0))] [] σ
set_option maxRecDepth 20000 in
set_option maxHeartbeats 1000000 in
theorem T_M_ways_0 {l : Launch} {v : gs_V} {n : Nat} {post : Int64 → gs_S → Prop} {σ : gs_S} (h : ((¬ (σ.1 0 2) = 0 → gM l v lyM 33 me_M_findBefore n [.ref (v.2.2 0)] σ (qV v lyM 33 (fun σ1 => post (σ1.2.1 0 49) σ1))) ∧ ((σ.1 0 2) = 0 → post ((-1)) σ))) : G_M_ways_0 l v n post σ := by
  refine g_aload_n d_M_ways_0 0 rfl rfl ?_
  refine g_getV (x := .int (σ.1 0 2)) d_M_ways_1 fl_M_179 (by decide) rfl rfl rfl ?_
  refine g_if_ne (tgt := 11) d_M_ways_4 rfl (fun hc => ?_) (fun hc => ?_)
  · have h := h.1 hc
    refine g_aload_n d_M_ways_11 0 rfl rfl ?_
    refine g_callVv (av := []) (rest := []) d_M_ways_12 Y_M_findBefore lk_M_308 (by decide) rfl rfl I_M_findBefore rfl (Nat.le_of_ble_eq_true rfl) rfl h (fun σ1 h => ?_)
    refine g_aload_n d_M_ways_15 0 rfl rfl ?_
    refine g_getV (x := .long (σ1.2.1 0 49)) d_M_ways_16 fl_M_294 (by decide) rfl rfl rfl ?_
    exact g_lret d_M_ways_19 rfl h
  · have h := h.2 hc
    refine g_ldc2 d_M_ways_7 (x := (-1)) (gw_t5 (List.mem_of_getElem? (i := 172) rfl) rfl) ?_
    exact g_lret d_M_ways_10 rfl h
theorem E_M_ways {l : Launch} {v : gs_V} {n : Nat} {post : Int64 → gs_S → Prop} {σ : gs_S} (h : G_M_ways_0 l v n post σ) : gM l v lyM 33 me_M_ways (n + 1) [.ref (v.2.2 0)] σ (qL v lyM 33 post) := gM_of (by decide +kernel) (Nat.le_of_ble_eq_true rfl) h
/-! LineRulesModel.weight -/
theorem d_M_weight_0 : decode me_M_weight.2.1 0 = .ok (.aload_n 0, 1) := by decide +kernel
theorem d_M_weight_1 : decode me_M_weight.2.1 1 = .ok (.getfield 179, 3) := by decide +kernel
theorem d_M_weight_4 : decode me_M_weight.2.1 4 = .ok (.ifCond .ne 5, 3) := by decide +kernel
theorem d_M_weight_7 : decode me_M_weight.2.1 7 = .ok (.iconst (-1), 1) := by decide +kernel
theorem d_M_weight_8 : decode me_M_weight.2.1 8 = .ok (.ireturn, 1) := by decide +kernel
theorem d_M_weight_9 : decode me_M_weight.2.1 9 = .ok (.aload_n 0, 1) := by decide +kernel
theorem d_M_weight_10 : decode me_M_weight.2.1 10 = .ok (.invokevirtual 267, 3) := by decide +kernel
theorem d_M_weight_13 : decode me_M_weight.2.1 13 = .ok (.iload_n 1, 1) := by decide +kernel
theorem d_M_weight_14 : decode me_M_weight.2.1 14 = .ok (.ifCond .lt 36, 3) := by decide +kernel
theorem d_M_weight_17 : decode me_M_weight.2.1 17 = .ok (.iload_n 1, 1) := by decide +kernel
theorem d_M_weight_18 : decode me_M_weight.2.1 18 = .ok (.aload_n 0, 1) := by decide +kernel
theorem d_M_weight_19 : decode me_M_weight.2.1 19 = .ok (.getfield 255, 3) := by decide +kernel
theorem d_M_weight_22 : decode me_M_weight.2.1 22 = .ok (.if_icmp .ge 28, 3) := by decide +kernel
theorem d_M_weight_25 : decode me_M_weight.2.1 25 = .ok (.iload_n 2, 1) := by decide +kernel
theorem d_M_weight_26 : decode me_M_weight.2.1 26 = .ok (.ifCond .lt 24, 3) := by decide +kernel
theorem d_M_weight_29 : decode me_M_weight.2.1 29 = .ok (.iload_n 2, 1) := by decide +kernel
theorem d_M_weight_30 : decode me_M_weight.2.1 30 = .ok (.aload_n 0, 1) := by decide +kernel
theorem d_M_weight_31 : decode me_M_weight.2.1 31 = .ok (.getfield 179, 3) := by decide +kernel
theorem d_M_weight_34 : decode me_M_weight.2.1 34 = .ok (.if_icmp .ge 16, 3) := by decide +kernel
theorem d_M_weight_37 : decode me_M_weight.2.1 37 = .ok (.aload_n 0, 1) := by decide +kernel
theorem d_M_weight_38 : decode me_M_weight.2.1 38 = .ok (.getfield 75, 3) := by decide +kernel
theorem d_M_weight_41 : decode me_M_weight.2.1 41 = .ok (.iconst 4, 1) := by decide +kernel
theorem d_M_weight_42 : decode me_M_weight.2.1 42 = .ok (.iload_n 1, 1) := by decide +kernel
theorem d_M_weight_43 : decode me_M_weight.2.1 43 = .ok (.imul, 1) := by decide +kernel
theorem d_M_weight_44 : decode me_M_weight.2.1 44 = .ok (.iload_n 2, 1) := by decide +kernel
theorem d_M_weight_45 : decode me_M_weight.2.1 45 = .ok (.iadd, 1) := by decide +kernel
theorem d_M_weight_46 : decode me_M_weight.2.1 46 = .ok (.iaload, 1) := by decide +kernel
theorem d_M_weight_47 : decode me_M_weight.2.1 47 = .ok (.goto 4, 3) := by decide +kernel
theorem d_M_weight_50 : decode me_M_weight.2.1 50 = .ok (.iconst 0, 1) := by decide +kernel
theorem d_M_weight_51 : decode me_M_weight.2.1 51 = .ok (.ireturn, 1) := by decide +kernel
abbrev G_M_weight_0 (l : Launch) (v : gs_V) (n : Nat) (post : Int32 → gs_S → Prop) (σ : gs_S) (x1 : Int32) (x2 : Int32) : Prop := gG l v lyM 33 me_M_weight n (qI v lyM 33 post) 0 [(0, .ref (v.2.2 0)), (1, .int x1), (2, .int x2)] [] σ
abbrev G_M_weight_50 (l : Launch) (v : gs_V) (n : Nat) (post : Int32 → gs_S → Prop) (σ : gs_S) : Prop := gG l v lyM 33 me_M_weight n (qI v lyM 33 post) 50 [] [] σ
abbrev G_M_weight_51 (l : Launch) (v : gs_V) (n : Nat) (post : Int32 → gs_S → Prop) (σ : gs_S) (s0 : Int32) : Prop := gG l v lyM 33 me_M_weight n (qI v lyM 33 post) 51 [] [.int s0] σ
set_option maxRecDepth 20000 in
set_option maxHeartbeats 1000000 in
theorem T_M_weight_0 {l : Launch} {v : gs_V} {n : Nat} {post : Int32 → gs_S → Prop} {σ : gs_S} {x1 : Int32} {x2 : Int32} (h : ((¬ (σ.1 0 2) = 0 → gM l v lyM 33 me_M_findWeights n [.ref (v.2.2 0)] σ (qV v lyM 33 (fun σ1 => ((x1 < 0 → G_M_weight_50 l v n post σ1) ∧ (¬ x1 < 0 → (((σ1.1 0 36) ≤ x1 → G_M_weight_50 l v n post σ1) ∧ (¬ (σ1.1 0 36) ≤ x1 → ((x2 < 0 → G_M_weight_50 l v n post σ1) ∧ (¬ x2 < 0 → (((σ1.1 0 2) ≤ x2 → G_M_weight_50 l v n post σ1) ∧ (¬ (σ1.1 0 2) ≤ x2 → vp_in ((4 * x1) + x2) 16 ∧ G_M_weight_51 l v n post σ1 (σ1.1 21 (((4 * x1) + x2).toNatClampNeg))))))))))))) ∧ ((σ.1 0 2) = 0 → post ((-1)) σ))) : G_M_weight_0 l v n post σ x1 x2 := by
  refine g_aload_n d_M_weight_0 0 rfl rfl ?_
  refine g_getV (x := .int (σ.1 0 2)) d_M_weight_1 fl_M_179 (by decide) rfl rfl rfl ?_
  refine g_if_ne (tgt := 9) d_M_weight_4 rfl (fun hc => ?_) (fun hc => ?_)
  · have h := h.1 hc
    refine g_aload_n d_M_weight_9 0 rfl rfl ?_
    refine g_callVv (av := []) (rest := []) d_M_weight_10 Y_M_findWeights lk_M_267 (by decide) rfl rfl I_M_findWeights rfl (Nat.le_of_ble_eq_true rfl) rfl h (fun σ1 h => ?_)
    refine g_iload_n d_M_weight_13 1 rfl rfl ?_
    refine g_if_lt (tgt := 50) d_M_weight_14 rfl (fun hc => ?_) (fun hc => ?_)
    · have h := h.1 hc
      exact g_sub [] rfl h
    · have h := h.2 hc
      refine g_iload_n d_M_weight_17 1 rfl rfl ?_
      refine g_aload_n d_M_weight_18 0 rfl rfl ?_
      refine g_getV (x := .int (σ1.1 0 36)) d_M_weight_19 fl_M_255 (by decide) rfl rfl rfl ?_
      refine g_icmp_ge (tgt := 50) d_M_weight_22 rfl (fun hc => ?_) (fun hc => ?_)
      · have h := h.1 hc
        exact g_sub [] rfl h
      · have h := h.2 hc
        refine g_iload_n d_M_weight_25 2 rfl rfl ?_
        refine g_if_lt (tgt := 50) d_M_weight_26 rfl (fun hc => ?_) (fun hc => ?_)
        · have h := h.1 hc
          exact g_sub [] rfl h
        · have h := h.2 hc
          refine g_iload_n d_M_weight_29 2 rfl rfl ?_
          refine g_aload_n d_M_weight_30 0 rfl rfl ?_
          refine g_getV (x := .int (σ1.1 0 2)) d_M_weight_31 fl_M_179 (by decide) rfl rfl rfl ?_
          refine g_icmp_ge (tgt := 50) d_M_weight_34 rfl (fun hc => ?_) (fun hc => ?_)
          · have h := h.1 hc
            exact g_sub [] rfl h
          · have h := h.2 hc
            refine g_aload_n d_M_weight_37 0 rfl rfl ?_
            refine g_getV (x := .ref (v.2.2 21)) d_M_weight_38 fl_M_75 (by decide) rfl rfl rfl ?_
            refine g_iconst d_M_weight_41 (x := 4) (by decide) ?_
            refine g_iload_n d_M_weight_42 1 rfl rfl ?_
            refine g_imul d_M_weight_43 ?_
            refine g_iload_n d_M_weight_44 2 rfl rfl ?_
            refine g_iadd d_M_weight_45 ?_
            have hi2 := h.1
            have h := h.2
            refine g_iald (x := σ1.1 21 (((4 * x1) + x2).toNatClampNeg)) d_M_weight_46 (by decide) rfl hi2 rfl ?_
            refine g_goto (tgt := 51) d_M_weight_47 rfl ?_
            exact g_sub [] rfl h
  · have h := h.2 hc
    refine g_iconst d_M_weight_7 (x := (-1)) (by decide) ?_
    exact g_iret d_M_weight_8 rfl h
set_option maxRecDepth 20000 in
set_option maxHeartbeats 1000000 in
theorem T_M_weight_50 {l : Launch} {v : gs_V} {n : Nat} {post : Int32 → gs_S → Prop} {σ : gs_S} (h : G_M_weight_51 l v n post σ 0) : G_M_weight_50 l v n post σ := by
  refine g_iconst d_M_weight_50 (x := 0) (by decide) ?_
  exact h
set_option maxRecDepth 20000 in
set_option maxHeartbeats 1000000 in
theorem T_M_weight_51 {l : Launch} {v : gs_V} {n : Nat} {post : Int32 → gs_S → Prop} {σ : gs_S} {s0 : Int32} (h : post s0 σ) : G_M_weight_51 l v n post σ s0 := by
  exact g_iret d_M_weight_51 rfl h
theorem E_M_weight {l : Launch} {v : gs_V} {n : Nat} {post : Int32 → gs_S → Prop} {σ : gs_S} {x1 : Int32} {x2 : Int32} (h : G_M_weight_0 l v n post σ x1 x2) : gM l v lyM 33 me_M_weight (n + 1) [.ref (v.2.2 0), .int x1, .int x2] σ (qI v lyM 33 post) := gM_of (by decide +kernel) (Nat.le_of_ble_eq_true rfl) h
end
section
theorem gw_oi : Cond.instanceMethod objectInit ∈ gw ∧ Cond.code objectInit ⟨#[0xb1]⟩ 1 none ∈ gw := ⟨(gw_t1 (List.mem_of_getElem? (i := 20) rfl) rfl), (gw_t1 (List.mem_of_getElem? (i := 21) rfl) rfl)⟩
/-! Constructors: the judgement gN over a world that is a plain list of cells; what is made is counted. -/
def gCn (v : gs_V) (me : gs_M) (p : Program) (s : State) (m : MethodId) (args : Array Value) (meth : Method) (c : Code) (A : Nat → Prop) : Prop :=
  p.tables.exec = Jvm.exec ∧ c.code = me.2.1 ∧ c.maxLocals = me.2.2.1 ∧ s.vm.findClass me.1.cls = some m.cls ∧ (∀ w ∈ gw, w.before args s = true) ∧ gs_K v s ∧ (∀ q, s.heap.size ≤ q → A q) ∧ meth.sig.returnType = none ∧ meth.locks = false ∧ meth.name = "<init>"
def gN (l : Launch) (v : gs_V) (me : gs_M) (R : Room) (mc ms : Nat) (Qf : gs_Q) (cells slots pc : Nat) (L : List (Nat × Value)) (st : List Value) (ws : va_W) : Prop :=
  ∀ (p : Program) (e : Env) (s : State) (m : MethodId) (args : Array Value) (below : List Frame) (meth : Method) (c : Code) (A : Nat → Prop), gCn v me p s m args meth c A →
  ∀ (ls : Array Slot) (H : Heap) (locs : List Loc), lv_has ls me.2.2.1 L → va_P v.1 vwCl ws H → va_D A ws → va_S A s.heap H locs →
  W p l e R s m args below meth c H locs cells slots (MQ below (Qf A) args s mc ms A) (F0 m pc ls st)
def qN (v : gs_V) (Wf : (Nat → Nat) → va_W) : gs_Q := fun A => va_Qv (fun _ : Nat → Nat => True) (fun u t => va_P v.1 vwCl (Wf u) t.heap ∧ va_D A (Wf u)) A
def gMn (l : Launch) (v : gs_V) (me : gs_M) (R : Room) (mc ms : Nat) (av : List Value) (ws0 : va_W) (Wf : (Nat → Nat) → va_W) : Prop :=
  ∀ sz : Nat, Met l me.1 (gs_h me :: gw) R (va_Pc av (fun U => U.heap.size = sz ∧ va_P v.1 vwCl ws0 U.heap ∧ gs_K v U ∧ va_D (fun _ => True) ws0)) (qN v Wf (va_A ws0 sz)) mc ms (va_A ws0 sz)
section GN
variable {l : Launch} {v : gs_V} {me : gs_M} {R : Room} {mc ms : Nat} {Qf : gs_Q} {cells slots pc : Nat} {L : List (Nat × Value)} {st rest : List Value} {ws ws' : va_W} {Wf : (Nat → Nat) → va_W}
theorem gMn_of {av : List Value} (hy : plainFor me.1 = true) (hi : me.1.name = "<init>") (hr : me.2.2.2 = none) (hl : (lg_sl av).length ≤ me.2.2.1) (h : gN l v me R mc ms (qN v Wf) 0 0 0 (lv_args 0 av) [] ws) : gMn l v me R mc ms av ws Wf := by
  intro sz
  refine va_MetF (cc := me.2.1) (maxL := me.2.2.1) (ret := me.2.2.2) hy rfl ?_
  intro p e s m args below meth c s₁ B hml hv
  obtain ⟨rfl, hsz, hP, hK, hD0⟩ := hv
  subst hsz
  have hts := atoms_spec (ws := gs_h me :: gw) B.pre
  have hin : meth.name = me.1.name := (name_of_methodNamed B.named B.method).1
  have hret := B.returns
  rw [hr] at hret
  rw [lg_entry_eq]
  exact h p e s m _ below meth c (va_A ws s.heap.size) ⟨B.exec, B.bytes, hml, findClass_of_methodNamed B.named, fun w hw => hts w (List.mem_cons_of_mem _ hw), hK, fun q hq => Or.inr hq, hret, B.notSynchronized, hin.trans hi⟩ _ s.heap [] (lv_entry av hl) hP hD0.self va_S.rf
theorem n_aload {z : Fin 4} {i x : Nat} (d : decode me.2.1 pc = .ok (.aload_n z, 1)) (q : Nat) (hi : (z : Nat) = i) (hq : L[q]? = some (i, .ref x)) (k : gN l v me R mc ms Qf cells slots (pc + 1) L (.ref x :: rest) ws) : gN l v me R mc ms Qf cells slots pc L rest ws :=
  fun p e s m args below meth c A hC ls H locs hl hP hD hS => lv_aload_n hC.1 hC.2.1 d hi (lv_at hl q hq) (k p e s m args below meth c A hC ls H locs hl hP hD hS)
theorem n_iconst {z : Int} {x : Int32} (d : decode me.2.1 pc = .ok (.iconst z, 1)) (hv : Int32.ofInt z = x) (k : gN l v me R mc ms Qf cells slots (pc + 1) L (.int x :: rest) ws) : gN l v me R mc ms Qf cells slots pc L rest ws :=
  fun p e s m args below meth c A hC ls H locs hl hP hD hS => lv_iconst hC.1 hC.2.1 d hv (k p e s m args below meth c A hC ls H locs hl hP hD hS)
theorem n_bipush {z : Int} {x : Int32} (d : decode me.2.1 pc = .ok (.bipush z, 2)) (hv : (Int8.ofInt z).toInt32 = x) (k : gN l v me R mc ms Qf cells slots (pc + 2) L (.int x :: rest) ws) : gN l v me R mc ms Qf cells slots pc L rest ws :=
  fun p e s m args below meth c A hC ls H locs hl hP hD hS => lv_bipush hC.1 hC.2.1 d hv (k p e s m args below meth c A hC ls H locs hl hP hD hS)
theorem n_sipush {z : Int} {x : Int32} (d : decode me.2.1 pc = .ok (.sipush z, 3)) (hv : (Int16.ofInt z).toInt32 = x) (k : gN l v me R mc ms Qf cells slots (pc + 3) L (.int x :: rest) ws) : gN l v me R mc ms Qf cells slots pc L rest ws :=
  fun p e s m args below meth c A hC ls H locs hl hP hD hS => lv_sipush hC.1 hC.2.1 d hv (k p e s m args below meth c A hC ls H locs hl hP hD hS)
theorem n_lconst {z : Fin 2} {x : Int64} (d : decode me.2.1 pc = .ok (.lconst z, 1)) (hv : Int64.ofNat (z : Nat) = x) (k : gN l v me R mc ms Qf cells slots (pc + 1) L (.long x :: rest) ws) : gN l v me R mc ms Qf cells slots pc L rest ws :=
  fun p e s m args below meth c A hC ls H locs hl hP hD hS => lv_lconst hC.1 hC.2.1 d hv (k p e s m args below meth c A hC ls H locs hl hP hD hS)
theorem n_dup {a : Value} (d : decode me.2.1 pc = .ok (.dup, 1)) (ha : a.category = 1) (k : gN l v me R mc ms Qf cells slots (pc + 1) L (a :: a :: rest) ws) : gN l v me R mc ms Qf cells slots pc L (a :: rest) ws :=
  fun p e s m args below meth c A hC ls H locs hl hP hD hS => lv_dup hC.1 hC.2.1 d ha (k p e s m args below meth c A hC ls H locs hl hP hD hS)
theorem n_obj {q index : Nat} (d : decode me.2.1 pc = .ok (.invokespecial index, 3)) (hL : Cond.methodLink me.1.cls index objectInit ∈ gw) (hR1 : 1 ≤ R.frames) (hR2 : 12 ≤ R.locals) (k : gN l v me R mc ms Qf cells slots (pc + 3) L [] ws) : gN l v me R mc ms Qf cells slots pc L [.ref q] ws :=
  fun p e s m args below meth c A hC ls H locs hl hP hD hS => W.objInit hC.1 hC.2.1 hC.2.2.2.1 (hC.2.2.2.2.1 _ hL) (hC.2.2.2.2.1 _ gw_oi.1) (hC.2.2.2.2.1 _ gw_oi.2) rfl (by rw [hC.2.2.1]; exact hl.1) rfl d hR1 hR2 (k p e s m args below meth c A hC ls H locs hl hP hD hS)
theorem n_newa {atype : ArrayType} {t N' : Nat} {n : Int32} {a0 : vp_A} (d : decode me.2.1 pc = .ok (.newarray atype, 2)) (hw : Cond.arrayClass (newarray.typeOf atype) ∈ gw) (ht : (gs_t v)[t]? = some (v.2.1 t, newarray.typeOf atype)) (hpr : ∀ (s : State) (cA : ClassId), va_RA s cA (newarray.typeOf atype) → s.vm.findClass ("[" ++ (newarray.typeOf atype).toString) = some cA) (ha : ∀ cA : ClassId, vp_cell cA a0 = arrV cA N' (fun _ => defaultValue (newarray.typeOf atype))) (hn : ¬ n < 0) (hN : n.toNatClampNeg = N') (hbytes : N' * componentBytes (newarray.typeOf atype) ≤ 536870912) (hcells : cells + 1 ≤ R.cells) (hslots : slots + N' ≤ R.slots)
    (k : ∀ q : Nat, gN l v me R mc ms Qf (cells + 1) (slots + N') (pc + 2) L (.ref q :: rest) (ws ++ [(q, .inl (v.2.1 t, a0))])) : gN l v me R mc ms Qf cells slots pc L (.int n :: rest) ws :=
  fun p e s m args below meth c A hC ls H locs hl hP hD hS => va_newa hC.1 hC.2.1 (hC.2.2.2.2.1 _ hw) rfl hC.2.2.2.2.2.1.1 hP hD hS hC.2.2.2.2.2.2.1 ha hn hN hbytes hcells hslots d (fun q cA H1 hK' hP' hD' hS' => by
    have e1 := (hK'.2 5 (cA, _) rfl).2
    have e2 := (hC.2.2.2.2.2.1.1.2 t _ ht).2
    have e3 : cA = v.2.1 t := by
      have a := hpr s cA e1
      have b := hpr s (v.2.1 t) e2
      rw [a] at b
      exact Option.some.inj b
    subst e3
    exact k q p e s m args below meth c A hC ls H1 locs hl hP' hD' hS')
-- a field that is written in a constructor: final or not
def gFi (own : String) (index ci j : Nat) (ty : FieldType) : Prop := ∃ (C : String) (T : u_T) (M : Nat) (ty0 : Nat → FieldType), vwCl[ci]? = some (C, T, M) ∧ j < M ∧ (∀ w ∈ u_ws C T M, w ∈ gw) ∧ Cond.fieldLink own index C (T j).2.1 (T j).2.2.1 ∈ gw ∧ (T j).1 = C ∧ (∀ k, k < M → parseFieldDescriptor (T k).2.2.1 = some (ty0 k)) ∧ (∀ a, a < M → ∀ b, b < M → a ≠ b → (T a).2.1 ≠ (T b).2.1) ∧ C = own ∧ parseFieldDescriptor (T j).2.2.1 = some ty
theorem n_put {q ci j index q0 : Nat} {fs : List Value} {ty : FieldType} {x : Value} (d : decode me.2.1 pc = .ok (.putfield index, 3)) (hF : gFi me.1.cls index ci j ty) (he : ws[q0]? = some (q, .inr (ci, fs))) (hn : narrow ty x = x) (hf : fits ty x = true) (hl : j < fs.length) (hw : ws.set q0 (q, .inr (ci, fs.set j x)) = ws') (k : gN l v me R mc ms Qf cells slots (pc + 3) L rest ws') : gN l v me R mc ms Qf cells slots pc L (x :: .ref q :: rest) ws := by
  subst hw
  intro p e s m args below meth c A hC ls H locs hll hP hD hS
  obtain ⟨C, T, M, ty0, h1, h2, h3, h4, h5, h6, h7, h8, h9⟩ := hF
  by_cases hfin : (T j).2.2.2 = true
  · exact va_putF (ref := C) hC.1 hC.2.1 hC.2.2.2.2.1 h3 ty0 h6 h7 hC.2.2.2.1 hC.2.2.2.2.2.1.1 hP hD hS q0 he h1 j h2 (hC.2.2.2.2.1 _ h4) (fun x hx => by rw [h5] at hx; exact hx) hfin hC.2.2.2.2.2.2.2.2.2 (h5.trans h8) h9 hn hf hl d (fun H locs hP' hD' hS => k p e s m args below meth c A hC ls H locs hll hP' hD' hS)
  · have hfin' : (T j).2.2.2 = false := by simpa using hfin
    exact va_put (ref := C) hC.1 hC.2.1 hC.2.2.2.2.1 h3 ty0 h6 h7 hC.2.2.2.1 hC.2.2.2.2.2.1.1 hP hD hS q0 he h1 j h2 (hC.2.2.2.2.1 _ h4) (fun x hx => by rw [h5] at hx; exact hx) hfin' h9 hn hf hl d (fun H locs hP' hD' hS => k p e s m args below meth c A hC ls H locs hll hP' hD' hS)
theorem n_get {q ci j index q0 : Nat} {fs : List Value} {x : Value} (d : decode me.2.1 pc = .ok (.getfield index, 3)) (hF : gF me.1.cls index ci j) (he : ws[q0]? = some (q, .inr (ci, fs))) (hx : fs[j]? = some x) (k : gN l v me R mc ms Qf cells slots (pc + 3) L (x :: rest) ws) : gN l v me R mc ms Qf cells slots pc L (.ref q :: rest) ws := by
  intro p e s m args below meth c A hC ls H locs hll hP hD hS
  obtain ⟨C, T, M, h1, h2, h3, h4, h5⟩ := hF
  exact va_get (ref := C) hC.1 hC.2.1 hC.2.2.2.2.1 h3 hC.2.2.2.1 hC.2.2.2.2.2.1.1 hP q0 he h1 j h2 (hC.2.2.2.2.1 _ h4) (fun x hx => by rw [h5] at hx; exact hx) hx d (k p e s m args below meth c A hC ls H locs hll hP hD hS)
def gNw (own : String) (index ci M : Nat) (ty0 : Nat → FieldType) : Prop := ∃ (C : String) (T : u_T), vwCl[ci]? = some (C, T, M) ∧ (∀ w ∈ u_ws C T M, w ∈ gw) ∧ (∀ k, k < M → parseFieldDescriptor (T k).2.2.1 = some (ty0 k)) ∧ Cond.classLink own index C ∈ gw ∧ Cond.instantiable C M ∈ gw ∧ Cond.initialized C ∈ gw
theorem n_new {ci index M : Nat} {fs : List Value} {ty0 : Nat → FieldType} (d : decode me.2.1 pc = .ok (.new index, 3)) (hW : gNw me.1.cls index ci M ty0) (hfs : ∀ j, j < M → defaultValue (ty0 j) = vp_V fs j) (hcells : cells + 1 ≤ R.cells) (hslots : slots + M ≤ R.slots) (k : ∀ q : Nat, gN l v me R mc ms Qf (cells + 1) (slots + M) (pc + 3) L (.ref q :: rest) (ws ++ [(q, .inr (ci, fs))])) : gN l v me R mc ms Qf cells slots pc L rest ws := by
  intro p e s m args below meth c A hC ls H locs hll hP hD hS
  obtain ⟨C, T, h1, h2, h3, h4, h5, h6⟩ := hW
  exact va_new (c0 := c) hC.1 hC.2.1 hC.2.2.2.2.1 h2 ty0 h3 hC.2.2.2.1 (hC.2.2.2.2.1 _ h4) (hC.2.2.2.2.1 _ h5) (hC.2.2.2.2.1 _ h6) hC.2.2.2.2.2.1.1 hP hD hS hC.2.2.2.2.2.2.1 h1 hfs hcells hslots d (fun q H1 hP' hD' hS' => k q p e s m args below meth c A hC ls H1 locs hll hP' hD' hS')
theorem n_ret (u : Nat → Nat) (d : decode me.2.1 pc = .ok (.return_, 1)) (hw : Wf u = ws) : gN l v me R cells slots (qN v Wf) cells slots pc L [] ws := by
  subst hw
  exact fun p e s m args below meth c A hC ls H locs hl hP hD hS => W.vret hC.1 hC.2.1 hC.2.2.2.2.2.2.2.1 (fun t ht hW => ⟨⟨u, rfl, trivial, by show va_P _ _ _ t.heap ∧ _; rw [ht]; exact ⟨hP, hD⟩⟩, hS.F ht⟩) hS.2.2 d hC.2.2.2.2.2.2.2.2.1
theorem n_sub (is : List Nat) (hn : va_nd is = true) (hs : is.map (fun i => ws[i]?) = ws'.map some) (k : gN l v me R mc ms Qf cells slots pc L st ws') : gN l v me R mc ms Qf cells slots pc L st ws := by
  intro p e s m args below meth c A hC ls H locs hl hP hD hS
  have hfm : is.filterMap (fun i => ws[i]?) = ws' := by
    have h1 : is.filterMap (fun i => ws[i]?) = (is.map (fun i => ws[i]?)).filterMap id := by rw [List.filterMap_map]; rfl
    rw [h1, hs, List.filterMap_map]
    simp
  exact k p e s m args below meth c A hC ls H locs hl (hP.sub is hfm) (hD.sub is hn hs) hS
theorem n_tie {q0 q : Nat} {cA : ClassId} {f g : Nat → Option Nat} (he : ws[q0]? = some (q, .inl (cA, 4, .inr (.inr (.inr (.inr f)))))) (hfg : ∀ i, i < 4 → f i = g i) (hw : ws.set q0 (q, .inl (cA, 4, .inr (.inr (.inr (.inr g))))) = ws') (k : gN l v me R mc ms Qf cells slots pc L st ws') : gN l v me R mc ms Qf cells slots pc L st ws := by
  subst hw
  intro p e s m args below meth c A hC ls H locs hl hP hD hS
  have hc : vp_cell cA (4, .inr (.inr (.inr (.inr f)))) = vp_cell cA (4, .inr (.inr (.inr (.inr g)))) := by
    rw [vp_cell_q, vp_cell_q]
    unfold arrV
    congr 2
    funext j
    exact congrArg va_rf (hfg j.val j.isLt)
  have h1 : H[q]? = some (vp_cell cA (4, .inr (.inr (.inr (.inr f))))) := hP q0 _ he
  rw [hc] at h1
  exact k p e s m args below meth c A hC ls H locs hl (hP.set hD he h1 (fun _ _ => rfl)) (hD.set he) hS
theorem n_blind {av : List Value} {ws0 : va_W} {sz : Nat} : FrameBlind (va_Pc av (fun U => U.heap.size = sz ∧ va_P v.1 vwCl ws0 U.heap ∧ gs_K v U ∧ va_D (fun _ => True) ws0)) := fun a U g mk q => by
  obtain ⟨q0, q1, qP, qK, qD⟩ := q
  exact ⟨q0, q1, qP, gs_K_same rfl qK, qD⟩
def gRm (R R' : Room) (mc' ms' maxL : Nat) : Prop := R'.cells = mc' ∧ R'.slots = ms' ∧ R'.frames + 1 ≤ R.frames ∧ 8 + (maxL + 11) + R'.locals ≤ R.locals
theorem n_callI {me' : gs_M} {index a q mc' ms' : Nat} {av : List Value} {R' : Room} {ws0 wr : va_W} {Wf' : (Nat → Nat) → va_W} (isC isR : List Nat) (d : decode me.2.1 pc = .ok (.invokespecial index, 3)) (hY : gY me' a) (hL : Cond.methodLink me.1.cls index me'.1 ∈ gw ∨ ∃ host, (me.1.cls, index, me'.1, host) ∈ gw_n) (hi : me'.1.name = "<init>") (hr : me'.2.2.2 = none) (hI : Cond.instanceMethod me'.1 ∈ gw) (hR : gRm R R' mc' ms' me'.2.2.1) (ha : av.length = a) (h8 : (rest.map fun x => x.category).sum ≤ 8) (hst : st = av.reverse ++ .ref q :: rest) (hc : cells + mc' ≤ R.cells ∧ slots + ms' ≤ R.slots)
    (hC0 : isC.map (fun i => ws[i]?) = ws0.map some) (hR0 : isR.map (fun i => ws[i]?) = wr.map some) (hn : va_nd isR = true) (hnc : va_nd isC = true) (hdis : ∀ i ∈ isR, i ∉ isC) (hM : gMn l v me' R' mc' ms' (.ref q :: av) ws0 Wf') (k : ∀ u : Nat → Nat, gN l v me R mc ms Qf (cells + mc') (slots + ms') (pc + 3) L rest (wr ++ Wf' u)) : gN l v me R mc ms Qf cells slots pc L st ws := by
  intro p e s m args below meth c A hC ls H locs hl hP hD hS
  have hts := hC.2.2.2.2.1
  have hFc : ∀ x, va_A ws0 H.size x → A x := va_free hD hS hC.2.2.2.2.2.2.1 isC hC0
  have hfm : isC.filterMap (fun i => ws[i]?) = ws0 := by
    have h1 : isC.filterMap (fun i => ws[i]?) = (isC.map (fun i => ws[i]?)).filterMap id := by rw [List.filterMap_map]; rfl
    rw [h1, hC0, List.filterMap_map]
    simp
  have hPc := hP.sub (ws' := ws0) isC hfm
  have hDc := hD.sub (ws' := ws0) isC hnc hC0
  have hpre : ∀ U : State, U.heap = H → s.WarmedH U.vm → va_Pc (.ref q :: av) (fun U => U.heap.size = H.size ∧ va_P v.1 vwCl ws0 U.heap ∧ gs_K v U ∧ va_D (fun _ => True) ws0) (Value.ref q :: av).toArray U := fun U hU hW => ⟨rfl, by rw [hU], by rw [hU]; exact hPc, gs_K_warm hW hC.2.2.2.2.2.1, hDc.weaken (fun _ _ _ _ => trivial)⟩
  have fin : ∀ (u : Nat → Nat) (t : State) (H1 : Heap) (locs1 : List Loc), t.heap = H1 → s.vm.Alike t.vm → True → (va_P v.1 vwCl (Wf' u) t.heap ∧ va_D (va_A ws0 H.size) (Wf' u)) → H.size ≤ H1.size → (∀ x : Nat, x < H.size → ¬ va_A ws0 H.size x → H1[x]? = H[x]?) → va_S A s.heap H1 locs1 → W p l e R s m args below meth c H1 locs1 (cells + mc') (slots + ms') (MQ below (Qf A) args s mc ms A) (F0 m (pc + 3) ls rest) := by
    intro u t H1 locs1 ht hvm _ hB hz1 hk1 hS1
    rw [ht] at hB
    obtain ⟨hP2, hD2⟩ := va_join (wr := wr) (w1 := Wf' u) hP hD isC isR hC0 hR0 hn hdis hk1 hFc hB.1 hB.2
    exact k u p e s m args below meth c A hC ls H1 locs1 hl hP2 hD2 hS1
  rcases hL with hL | ⟨host, hL⟩
  · have cb : CallB R s args me.1.cls index me'.1 me'.2.1 me'.2.2.1 none (gs_h me' :: gw) R' mc' ms' a := callB_of a hts (g_good hY.1) (by rw [gs_h, hr]) hR.1 hR.2.1 (hts _ hY.2.1) (hts _ hL) hY.2.2.1 ⟨hR.2.2.1, hR.2.2.2⟩
    exact va_callv (va_runI (As := av) (rest := rest) (b := q) ⟨hC.1, hC.2.1, hC.2.2.1, hC.2.2.2.1, hts⟩ (hM H.size) ⟨cb, hi, hts _ hI⟩ ⟨n_blind, hpre⟩ rfl ha hl.1 hst (lv_room h8) d hc) hS (fun x _ h => hFc x h) hFc fin
  · have cb : va_CN R s args me.1.cls index me'.1 host me'.2.1 me'.2.2.1 none (gs_h me' :: gw) R' mc' ms' a := va_cnB a hts (g_good hY.1) (by rw [gs_h, hr]) hR.1 hR.2.1 (hC.2.2.2.2.2.1.2.1 _ hL) (hts _ hY.2.1) hY.2.2.1 ⟨hR.2.2.1, hR.2.2.2⟩
    exact va_callv (va_runIN (As := av) (rest := rest) (b := q) ⟨hC.1, hC.2.1, hC.2.2.1, hC.2.2.2.1, hts⟩ (hM H.size) ⟨cb, hi, hts _ hI⟩ ⟨n_blind, hpre⟩ rfl ha hl.1 hst (lv_room h8) d hc) hS (fun x _ h => hFc x h) hFc fin
/-- new long[4][4]: an array of four rows, and the rows -/
theorem n_mna {index : Nat} {n k : Int32} (hn : n = 4) (hk : k = 4) (d : decode me.2.1 pc = .ok (.multianewarray index 2, 4)) (hL : Cond.classLink me.1.cls index "[[J" ∈ gw) (hw : Cond.arrayClass .long ∈ gw) (hcells : cells + 5 ≤ R.cells) (hslots : slots + 20 ≤ R.slots)
    (kk : ∀ q : Nat, gN l v me R mc ms Qf (cells + 5) (slots + 20) (pc + 4) L (.ref q :: rest) (ws ++ [(q, .inl (v.2.1 4, 4, .inr (.inr (.inr (.inr (fun i => some (q + 1 + i))))))), (q + 1, .inl (v.2.1 1, 4, .inr (.inl (fun _ => 0)))), (q + 2, .inl (v.2.1 1, 4, .inr (.inl (fun _ => 0)))), (q + 3, .inl (v.2.1 1, 4, .inr (.inl (fun _ => 0)))), (q + 4, .inl (v.2.1 1, 4, .inr (.inl (fun _ => 0))))])) : gN l v me R mc ms Qf cells slots pc L (.int k :: .int n :: rest) ws := by
  subst hn
  subst hk
  intro p e s m args below meth c A hC ls H locs hl hP hD hS
  intro T hT X
  have hb := hC.2.1
  obtain ⟨vm₁, cA, comp, -, fA, fC, -, -, X', step⟩ := X.multianewarray2F hC.1 hC.2.2.2.1 (ty := .long) (hC.2.2.2.2.1 _ hL) hC.2.2.2.2.2.1.2.2 (hC.2.2.2.2.1 _ hw) (g := F0 m pc ls (.int 4 :: .int 4 :: rest)) rfl (by rw [hb]; exact d) rfl (by decide) (by decide) (by decide) (by decide) (by decide) rfl rfl (show cells + (1 + (4 : Int32).toNatClampNeg) ≤ R.cells from hcells) (show slots + ((4 : Int32).toNatClampNeg + (4 : Int32).toNatClampNeg * (4 : Int32).toNatClampNeg) ≤ R.slots from hslots)
  have e4 : (4 : Int32).toNatClampNeg = 4 := rfl
  have ecA : cA = v.2.1 4 := by
    have b : s.vm.findClass ("[" ++ (FieldType.array .long).toString) = some (v.2.1 4) := (hC.2.2.2.2.2.1.1.2 4 _ rfl).2
    rw [fA] at b
    exact Option.some.inj b
  have ecp : comp = v.2.1 1 := by
    have b : s.vm.findClass ("[" ++ FieldType.long.toString) = some (v.2.1 1) := (hC.2.2.2.2.2.1.1.2 1 _ rfl).2
    have b2 : s.vm.findClass ("[" ++ FieldType.long.toString) = some comp := fC
    rw [b2] at b
    exact Option.some.inj b
  subst ecA
  subst ecp
  rw [e4] at X' step
  generalize hF : Jvm.Free.Multi.fill (T.setVm vm₁) (v.2.1 4) (v.2.1 1) 4 4 (defaultValue .long) 4 = F at X' step
  have hTh : (T.setVm vm₁).heap = H := hT
  obtain ⟨f1, f2, -, -⟩ := Jvm.Free.Multi.fill_facts (T.setVm vm₁) (v.2.1 4) (v.2.1 1) 4 4 (defaultValue .long) 4
  rw [hF, hTh] at f1 f2
  have hold : ∀ x : Nat, x < H.size → F.heap[x]? = H[x]? := fun x hx => by
    have := Jvm.Free.Multi.fill_old (T.setVm vm₁) (v.2.1 4) (v.2.1 1) 4 4 (defaultValue .long) (a := x) (by rw [hTh]; exact hx) 4
    rw [hF, hTh] at this
    exact this
  have hrow : ∀ j : Nat, j < 4 → F.heap[H.size + 1 + j]? = some (vp_cell (v.2.1 1) (4, .inr (.inl (fun _ => 0)))) := fun j hj => by
    have := Jvm.Free.Multi.fill_inner (T.setVm vm₁) (v.2.1 4) (v.2.1 1) 4 4 (defaultValue .long) 4 j hj
    rw [hF, hTh] at this
    rw [this, vp_cell_l, ← arrV_new]
    rfl
  have hout : F.heap[H.size]? = some (vp_cell (v.2.1 4) (4, .inr (.inr (.inr (.inr (fun i => some (H.size + 1 + i))))))) := by
    rw [f2, vp_cell_q]
    congr 1
  have hw5 : ∀ (i : Nat) (x : Nat × va_E), ([(H.size, .inl (v.2.1 4, 4, .inr (.inr (.inr (.inr (fun i => some (H.size + 1 + i))))))), (H.size + 1, .inl (v.2.1 1, 4, .inr (.inl (fun _ => 0)))), (H.size + 2, .inl (v.2.1 1, 4, .inr (.inl (fun _ => 0)))), (H.size + 3, .inl (v.2.1 1, 4, .inr (.inl (fun _ => 0)))), (H.size + 4, .inl (v.2.1 1, 4, .inr (.inl (fun _ => 0))))] : va_W)[i]? = some x → x.1 = H.size + i ∧ va_at v.1 vwCl x F.heap := by
    intro i x hx
    have hi : i < 5 := (List.getElem?_eq_some_iff.mp hx).1
    rcases (show i = 0 ∨ i = 1 ∨ i = 2 ∨ i = 3 ∨ i = 4 by omega) with h | h | h | h | h <;> subst h <;> cases hx
    · exact ⟨rfl, hout⟩
    · exact ⟨rfl, hrow 0 (by decide)⟩
    · exact ⟨rfl, hrow 1 (by decide)⟩
    · exact ⟨rfl, hrow 2 (by decide)⟩
    · exact ⟨rfl, hrow 3 (by decide)⟩
  have hP2 := (hP.kept (H1 := F.heap) (fun k9 x hx => hold x.1 ((hP k9 x hx).lt))).app (fun i x hx => (hw5 i x hx).2)
  have hD2 : va_D A (ws ++ _) := hD.app (w2 := [(H.size, .inl (v.2.1 4, 4, .inr (.inr (.inr (.inr (fun i => some (H.size + 1 + i))))))), (H.size + 1, .inl (v.2.1 1, 4, .inr (.inl (fun _ => 0)))), (H.size + 2, .inl (v.2.1 1, 4, .inr (.inl (fun _ => 0)))), (H.size + 3, .inl (v.2.1 1, 4, .inr (.inl (fun _ => 0)))), (H.size + 4, .inl (v.2.1 1, 4, .inr (.inl (fun _ => 0))))])
    ⟨fun i j x y hi hj hxy => by have a := (hw5 i x hi).1; have b := (hw5 j y hj).1; omega, fun i x hx => by have a := (hw5 i x hx).1; have b := hS.1; exact hC.2.2.2.2.2.2.1 _ (by omega)⟩
    (fun i j x y hi hj => by have a := (hP i x hi).lt; have b := (hw5 j y hj).1; omega)
  have hS2 : va_S A s.heap F.heap locs := ⟨by rw [f1]; have := hS.1; omega, fun x h1 h2 => (hold x (Nat.lt_of_lt_of_le h1 hS.1)).trans (hS.2.1 x h1 h2), hS.2.2⟩
  obtain ⟨t, a1, b1⟩ := kk H.size p e s m args below meth c A hC ls F.heap locs hl hP2 hD2 hS2 F rfl X'
  refine ⟨t, step t ?_, b1⟩
  have e5 : T.heap.size = H.size := by rw [hT]
  rw [e5]
  exact a1
end GN
end
section
theorem gw_jj : Cond.classLink "LineRules$Weights" 9 "[[J" ∈ gw := (gw_t1 (List.mem_of_getElem? (i := 211) rfl) rfl)
theorem gw_ac_int : Cond.arrayClass .int ∈ gw := (gw_t1 (List.mem_of_getElem? (i := 57) rfl) rfl)
theorem gw_ac_long : Cond.arrayClass .long ∈ gw := (gw_t1 (List.mem_of_getElem? (i := 125) rfl) rfl)
theorem gw_ac_boolean : Cond.arrayClass .boolean ∈ gw := (gw_t4 (List.mem_of_getElem? (i := 225) rfl) rfl)
theorem gw_ac_char : Cond.arrayClass .char ∈ gw := (gw_t1 (List.mem_of_getElem? (i := 56) rfl) rfl)
theorem lo_T : Cond.methodLink "LineRules$Text" 3 objectInit ∈ gw := (gw_t1 (List.mem_of_getElem? (i := 27) rfl) rfl)
theorem fi_T_9 : gFi "LineRules$Text" 9 1 0 (.array .char) := ⟨"LineRules$Text", TX1, 9, tyX1, rfl, by decide, inX1, (gw_t1 (List.mem_of_getElem? (i := 28) rfl) rfl), rfl, tyX1_ok, nmX1, rfl, by decide +kernel⟩
theorem fi_T_15 : gFi "LineRules$Text" 15 1 1 (.array .int) := ⟨"LineRules$Text", TX1, 9, tyX1, rfl, by decide, inX1, (gw_t1 (List.mem_of_getElem? (i := 29) rfl) rfl), rfl, tyX1_ok, nmX1, rfl, by decide +kernel⟩
theorem fi_T_19 : gFi "LineRules$Text" 19 1 2 .int := ⟨"LineRules$Text", TX1, 9, tyX1, rfl, by decide, inX1, (gw_t1 (List.mem_of_getElem? (i := 30) rfl) rfl), rfl, tyX1_ok, nmX1, rfl, by decide +kernel⟩
theorem fi_T_23 : gFi "LineRules$Text" 23 1 3 .int := ⟨"LineRules$Text", TX1, 9, tyX1, rfl, by decide, inX1, (gw_t1 (List.mem_of_getElem? (i := 31) rfl) rfl), rfl, tyX1_ok, nmX1, rfl, by decide +kernel⟩
theorem fi_T_26 : gFi "LineRules$Text" 26 1 4 .int := ⟨"LineRules$Text", TX1, 9, tyX1, rfl, by decide, inX1, (gw_t1 (List.mem_of_getElem? (i := 32) rfl) rfl), rfl, tyX1_ok, nmX1, rfl, by decide +kernel⟩
theorem fi_T_29 : gFi "LineRules$Text" 29 1 5 .char := ⟨"LineRules$Text", TX1, 9, tyX1, rfl, by decide, inX1, (gw_t1 (List.mem_of_getElem? (i := 33) rfl) rfl), rfl, tyX1_ok, nmX1, rfl, by decide +kernel⟩
theorem fi_T_33 : gFi "LineRules$Text" 33 1 6 .int := ⟨"LineRules$Text", TX1, 9, tyX1, rfl, by decide, inX1, (gw_t1 (List.mem_of_getElem? (i := 34) rfl) rfl), rfl, tyX1_ok, nmX1, rfl, by decide +kernel⟩
theorem fi_T_36 : gFi "LineRules$Text" 36 1 7 .int := ⟨"LineRules$Text", TX1, 9, tyX1, rfl, by decide, inX1, (gw_t1 (List.mem_of_getElem? (i := 35) rfl) rfl), rfl, tyX1_ok, nmX1, rfl, by decide +kernel⟩
theorem fi_T_39 : gFi "LineRules$Text" 39 1 8 .boolean := ⟨"LineRules$Text", TX1, 9, tyX1, rfl, by decide, inX1, (gw_t1 (List.mem_of_getElem? (i := 36) rfl) rfl), rfl, tyX1_ok, nmX1, rfl, by decide +kernel⟩
def cw_T (v : gs_V) (h0 : Nat) (u : Nat → Nat) : va_W := [(h0, .inr (1, [.ref (u 1), .ref (u 2), .int 0, .int 2, .int 1, .int 84, .int 0, .int 0, .int 0])), (u 1, .inl (v.2.1 3, 64, .inl (fun _ => 0))), (u 2, .inl (v.2.1 0, 4, .inl (fun _ => 0)))]
abbrev rm_T : Room := { frames := 1, cells := 2, slots := 68, locals := 12 }
theorem d_T_init_0 : decode me_T_init.2.1 0 = .ok (.aload_n 0, 1) := by decide +kernel
theorem d_T_init_1 : decode me_T_init.2.1 1 = .ok (.invokespecial 3, 3) := by decide +kernel
theorem d_T_init_4 : decode me_T_init.2.1 4 = .ok (.aload_n 0, 1) := by decide +kernel
theorem d_T_init_5 : decode me_T_init.2.1 5 = .ok (.bipush 64, 2) := by decide +kernel
theorem d_T_init_7 : decode me_T_init.2.1 7 = .ok (.newarray .char, 2) := by decide +kernel
theorem d_T_init_9 : decode me_T_init.2.1 9 = .ok (.putfield 9, 3) := by decide +kernel
theorem d_T_init_12 : decode me_T_init.2.1 12 = .ok (.aload_n 0, 1) := by decide +kernel
theorem d_T_init_13 : decode me_T_init.2.1 13 = .ok (.iconst 4, 1) := by decide +kernel
theorem d_T_init_14 : decode me_T_init.2.1 14 = .ok (.newarray .int, 2) := by decide +kernel
theorem d_T_init_16 : decode me_T_init.2.1 16 = .ok (.putfield 15, 3) := by decide +kernel
theorem d_T_init_19 : decode me_T_init.2.1 19 = .ok (.aload_n 0, 1) := by decide +kernel
theorem d_T_init_20 : decode me_T_init.2.1 20 = .ok (.iconst 0, 1) := by decide +kernel
theorem d_T_init_21 : decode me_T_init.2.1 21 = .ok (.putfield 19, 3) := by decide +kernel
theorem d_T_init_24 : decode me_T_init.2.1 24 = .ok (.aload_n 0, 1) := by decide +kernel
theorem d_T_init_25 : decode me_T_init.2.1 25 = .ok (.iconst 2, 1) := by decide +kernel
theorem d_T_init_26 : decode me_T_init.2.1 26 = .ok (.putfield 23, 3) := by decide +kernel
theorem d_T_init_29 : decode me_T_init.2.1 29 = .ok (.aload_n 0, 1) := by decide +kernel
theorem d_T_init_30 : decode me_T_init.2.1 30 = .ok (.iconst 1, 1) := by decide +kernel
theorem d_T_init_31 : decode me_T_init.2.1 31 = .ok (.putfield 26, 3) := by decide +kernel
theorem d_T_init_34 : decode me_T_init.2.1 34 = .ok (.aload_n 0, 1) := by decide +kernel
theorem d_T_init_35 : decode me_T_init.2.1 35 = .ok (.bipush 84, 2) := by decide +kernel
theorem d_T_init_37 : decode me_T_init.2.1 37 = .ok (.putfield 29, 3) := by decide +kernel
theorem d_T_init_40 : decode me_T_init.2.1 40 = .ok (.aload_n 0, 1) := by decide +kernel
theorem d_T_init_41 : decode me_T_init.2.1 41 = .ok (.iconst 0, 1) := by decide +kernel
theorem d_T_init_42 : decode me_T_init.2.1 42 = .ok (.putfield 33, 3) := by decide +kernel
theorem d_T_init_45 : decode me_T_init.2.1 45 = .ok (.aload_n 0, 1) := by decide +kernel
theorem d_T_init_46 : decode me_T_init.2.1 46 = .ok (.iconst 0, 1) := by decide +kernel
theorem d_T_init_47 : decode me_T_init.2.1 47 = .ok (.putfield 36, 3) := by decide +kernel
theorem d_T_init_50 : decode me_T_init.2.1 50 = .ok (.aload_n 0, 1) := by decide +kernel
theorem d_T_init_51 : decode me_T_init.2.1 51 = .ok (.iconst 0, 1) := by decide +kernel
theorem d_T_init_52 : decode me_T_init.2.1 52 = .ok (.putfield 39, 3) := by decide +kernel
theorem d_T_init_55 : decode me_T_init.2.1 55 = .ok (.return_, 1) := by decide +kernel
set_option maxRecDepth 100000 in
set_option maxHeartbeats 4000000 in
theorem N_T {l : Launch} {v : gs_V} {h0 : Nat} : gMn l v me_T_init rm_T 2 68 [.ref h0] [(h0, .inr (1, [.null, .null, .int 0, .int 0, .int 0, .int 0, .int 0, .int 0, .int 0]))] (cw_T v h0) := by
  refine gMn_of (by decide +kernel) rfl rfl (Nat.le_of_ble_eq_true rfl) ?_
  refine n_aload d_T_init_0 0 rfl rfl ?_
  refine n_obj d_T_init_1 lo_T (by decide) (by decide) ?_
  refine n_aload d_T_init_4 0 rfl rfl ?_
  refine n_bipush d_T_init_5 (x := 64) (by decide) ?_
  refine n_newa (t := 3) (N' := 64) (a0 := (64, .inl (fun _ => 0))) d_T_init_7 gw_ac_char rfl (fun _ _ h => h) (fun _ => rfl) (by decide) (by decide) (by decide) (by decide) (by decide) (fun q7 => ?_)
  refine n_put (q0 := 0) (ws' := [(h0, .inr (1, [.ref q7, .null, .int 0, .int 0, .int 0, .int 0, .int 0, .int 0, .int 0])), (q7, .inl (v.2.1 3, 64, .inl (fun _ => 0)))]) d_T_init_9 fi_T_9 rfl rfl rfl (Nat.le_of_ble_eq_true rfl) rfl ?_
  refine n_aload d_T_init_12 0 rfl rfl ?_
  refine n_iconst d_T_init_13 (x := 4) (by decide) ?_
  refine n_newa (t := 0) (N' := 4) (a0 := (4, .inl (fun _ => 0))) d_T_init_14 gw_ac_int rfl (fun _ _ h => h) (fun _ => rfl) (by decide) (by decide) (by decide) (by decide) (by decide) (fun q14 => ?_)
  refine n_put (q0 := 0) (ws' := [(h0, .inr (1, [.ref q7, .ref q14, .int 0, .int 0, .int 0, .int 0, .int 0, .int 0, .int 0])), (q7, .inl (v.2.1 3, 64, .inl (fun _ => 0))), (q14, .inl (v.2.1 0, 4, .inl (fun _ => 0)))]) d_T_init_16 fi_T_15 rfl rfl rfl (Nat.le_of_ble_eq_true rfl) rfl ?_
  refine n_aload d_T_init_19 0 rfl rfl ?_
  refine n_iconst d_T_init_20 (x := 0) (by decide) ?_
  refine n_put (q0 := 0) (ws' := [(h0, .inr (1, [.ref q7, .ref q14, .int 0, .int 0, .int 0, .int 0, .int 0, .int 0, .int 0])), (q7, .inl (v.2.1 3, 64, .inl (fun _ => 0))), (q14, .inl (v.2.1 0, 4, .inl (fun _ => 0)))]) d_T_init_21 fi_T_19 rfl rfl rfl (Nat.le_of_ble_eq_true rfl) rfl ?_
  refine n_aload d_T_init_24 0 rfl rfl ?_
  refine n_iconst d_T_init_25 (x := 2) (by decide) ?_
  refine n_put (q0 := 0) (ws' := [(h0, .inr (1, [.ref q7, .ref q14, .int 0, .int 2, .int 0, .int 0, .int 0, .int 0, .int 0])), (q7, .inl (v.2.1 3, 64, .inl (fun _ => 0))), (q14, .inl (v.2.1 0, 4, .inl (fun _ => 0)))]) d_T_init_26 fi_T_23 rfl rfl rfl (Nat.le_of_ble_eq_true rfl) rfl ?_
  refine n_aload d_T_init_29 0 rfl rfl ?_
  refine n_iconst d_T_init_30 (x := 1) (by decide) ?_
  refine n_put (q0 := 0) (ws' := [(h0, .inr (1, [.ref q7, .ref q14, .int 0, .int 2, .int 1, .int 0, .int 0, .int 0, .int 0])), (q7, .inl (v.2.1 3, 64, .inl (fun _ => 0))), (q14, .inl (v.2.1 0, 4, .inl (fun _ => 0)))]) d_T_init_31 fi_T_26 rfl rfl rfl (Nat.le_of_ble_eq_true rfl) rfl ?_
  refine n_aload d_T_init_34 0 rfl rfl ?_
  refine n_bipush d_T_init_35 (x := 84) (by decide) ?_
  refine n_put (q0 := 0) (ws' := [(h0, .inr (1, [.ref q7, .ref q14, .int 0, .int 2, .int 1, .int 84, .int 0, .int 0, .int 0])), (q7, .inl (v.2.1 3, 64, .inl (fun _ => 0))), (q14, .inl (v.2.1 0, 4, .inl (fun _ => 0)))]) d_T_init_37 fi_T_29 rfl rfl rfl (Nat.le_of_ble_eq_true rfl) rfl ?_
  refine n_aload d_T_init_40 0 rfl rfl ?_
  refine n_iconst d_T_init_41 (x := 0) (by decide) ?_
  refine n_put (q0 := 0) (ws' := [(h0, .inr (1, [.ref q7, .ref q14, .int 0, .int 2, .int 1, .int 84, .int 0, .int 0, .int 0])), (q7, .inl (v.2.1 3, 64, .inl (fun _ => 0))), (q14, .inl (v.2.1 0, 4, .inl (fun _ => 0)))]) d_T_init_42 fi_T_33 rfl rfl rfl (Nat.le_of_ble_eq_true rfl) rfl ?_
  refine n_aload d_T_init_45 0 rfl rfl ?_
  refine n_iconst d_T_init_46 (x := 0) (by decide) ?_
  refine n_put (q0 := 0) (ws' := [(h0, .inr (1, [.ref q7, .ref q14, .int 0, .int 2, .int 1, .int 84, .int 0, .int 0, .int 0])), (q7, .inl (v.2.1 3, 64, .inl (fun _ => 0))), (q14, .inl (v.2.1 0, 4, .inl (fun _ => 0)))]) d_T_init_47 fi_T_36 rfl rfl rfl (Nat.le_of_ble_eq_true rfl) rfl ?_
  refine n_aload d_T_init_50 0 rfl rfl ?_
  refine n_iconst d_T_init_51 (x := 0) (by decide) ?_
  refine n_put (q0 := 0) (ws' := [(h0, .inr (1, [.ref q7, .ref q14, .int 0, .int 2, .int 1, .int 84, .int 0, .int 0, .int 0])), (q7, .inl (v.2.1 3, 64, .inl (fun _ => 0))), (q14, .inl (v.2.1 0, 4, .inl (fun _ => 0)))]) d_T_init_52 fi_T_39 rfl rfl rfl (Nat.le_of_ble_eq_true rfl) rfl ?_
  exact n_ret (fun k => match k with | 1 => q7 | 2 => q14 | _ => 0) d_T_init_55 rfl
theorem lo_R : Cond.methodLink "LineRules$Rule" 3 objectInit ∈ gw := (gw_t1 (List.mem_of_getElem? (i := 63) rfl) rfl)
theorem fi_R_9 : gFi "LineRules$Rule" 9 2 0 (.array .int) := ⟨"LineRules$Rule", TX2, 10, tyX2, rfl, by decide, inX2, (gw_t1 (List.mem_of_getElem? (i := 64) rfl) rfl), rfl, tyX2_ok, nmX2, rfl, by decide +kernel⟩
theorem fi_R_15 : gFi "LineRules$Rule" 15 2 1 (.array .long) := ⟨"LineRules$Rule", TX2, 10, tyX2, rfl, by decide, inX2, (gw_t1 (List.mem_of_getElem? (i := 72) rfl) rfl), rfl, tyX2_ok, nmX2, rfl, by decide +kernel⟩
theorem fi_R_19 : gFi "LineRules$Rule" 19 2 2 (.array .int) := ⟨"LineRules$Rule", TX2, 10, tyX2, rfl, by decide, inX2, (gw_t1 (List.mem_of_getElem? (i := 73) rfl) rfl), rfl, tyX2_ok, nmX2, rfl, by decide +kernel⟩
theorem fi_R_22 : gFi "LineRules$Rule" 22 2 3 (.array .int) := ⟨"LineRules$Rule", TX2, 10, tyX2, rfl, by decide, inX2, (gw_t1 (List.mem_of_getElem? (i := 75) rfl) rfl), rfl, tyX2_ok, nmX2, rfl, by decide +kernel⟩
theorem fi_R_25 : gFi "LineRules$Rule" 25 2 4 (.array .int) := ⟨"LineRules$Rule", TX2, 10, tyX2, rfl, by decide, inX2, (gw_t1 (List.mem_of_getElem? (i := 77) rfl) rfl), rfl, tyX2_ok, nmX2, rfl, by decide +kernel⟩
theorem fi_R_28 : gFi "LineRules$Rule" 28 2 5 .boolean := ⟨"LineRules$Rule", TX2, 10, tyX2, rfl, by decide, inX2, (gw_t1 (List.mem_of_getElem? (i := 79) rfl) rfl), rfl, tyX2_ok, nmX2, rfl, by decide +kernel⟩
theorem fi_R_32 : gFi "LineRules$Rule" 32 2 6 .int := ⟨"LineRules$Rule", TX2, 10, tyX2, rfl, by decide, inX2, (gw_t1 (List.mem_of_getElem? (i := 81) rfl) rfl), rfl, tyX2_ok, nmX2, rfl, by decide +kernel⟩
theorem fi_R_36 : gFi "LineRules$Rule" 36 2 7 .int := ⟨"LineRules$Rule", TX2, 10, tyX2, rfl, by decide, inX2, (gw_t1 (List.mem_of_getElem? (i := 89) rfl) rfl), rfl, tyX2_ok, nmX2, rfl, by decide +kernel⟩
theorem fi_R_39 : gFi "LineRules$Rule" 39 2 8 .int := ⟨"LineRules$Rule", TX2, 10, tyX2, rfl, by decide, inX2, (gw_t1 (List.mem_of_getElem? (i := 94) rfl) rfl), rfl, tyX2_ok, nmX2, rfl, by decide +kernel⟩
theorem fi_R_42 : gFi "LineRules$Rule" 42 2 9 .int := ⟨"LineRules$Rule", TX2, 10, tyX2, rfl, by decide, inX2, (gw_t1 (List.mem_of_getElem? (i := 99) rfl) rfl), rfl, tyX2_ok, nmX2, rfl, by decide +kernel⟩
def cw_R (v : gs_V) (h0 : Nat) (u : Nat → Nat) : va_W := [(h0, .inr (2, [.ref (u 1), .ref (u 2), .ref (u 3), .ref (u 4), .ref (u 5), .int 0, .int 2, .int 1, .int 2, .int 1])), (u 1, .inl (v.2.1 0, 256, .inl (fun _ => 0))), (u 2, .inl (v.2.1 1, 256, .inr (.inl (fun _ => 0)))), (u 3, .inl (v.2.1 0, 256, .inl (fun _ => 0))), (u 4, .inl (v.2.1 0, 256, .inl (fun _ => 0))), (u 5, .inl (v.2.1 0, 5, .inl (fun _ => 0)))]
abbrev rm_R : Room := { frames := 1, cells := 5, slots := 1029, locals := 12 }
theorem d_R_init_0 : decode me_R_init.2.1 0 = .ok (.aload_n 0, 1) := by decide +kernel
theorem d_R_init_1 : decode me_R_init.2.1 1 = .ok (.invokespecial 3, 3) := by decide +kernel
theorem d_R_init_4 : decode me_R_init.2.1 4 = .ok (.aload_n 0, 1) := by decide +kernel
theorem d_R_init_5 : decode me_R_init.2.1 5 = .ok (.sipush 256, 3) := by decide +kernel
theorem d_R_init_8 : decode me_R_init.2.1 8 = .ok (.newarray .int, 2) := by decide +kernel
theorem d_R_init_10 : decode me_R_init.2.1 10 = .ok (.putfield 9, 3) := by decide +kernel
theorem d_R_init_13 : decode me_R_init.2.1 13 = .ok (.aload_n 0, 1) := by decide +kernel
theorem d_R_init_14 : decode me_R_init.2.1 14 = .ok (.sipush 256, 3) := by decide +kernel
theorem d_R_init_17 : decode me_R_init.2.1 17 = .ok (.newarray .long, 2) := by decide +kernel
theorem d_R_init_19 : decode me_R_init.2.1 19 = .ok (.putfield 15, 3) := by decide +kernel
theorem d_R_init_22 : decode me_R_init.2.1 22 = .ok (.aload_n 0, 1) := by decide +kernel
theorem d_R_init_23 : decode me_R_init.2.1 23 = .ok (.sipush 256, 3) := by decide +kernel
theorem d_R_init_26 : decode me_R_init.2.1 26 = .ok (.newarray .int, 2) := by decide +kernel
theorem d_R_init_28 : decode me_R_init.2.1 28 = .ok (.putfield 19, 3) := by decide +kernel
theorem d_R_init_31 : decode me_R_init.2.1 31 = .ok (.aload_n 0, 1) := by decide +kernel
theorem d_R_init_32 : decode me_R_init.2.1 32 = .ok (.sipush 256, 3) := by decide +kernel
theorem d_R_init_35 : decode me_R_init.2.1 35 = .ok (.newarray .int, 2) := by decide +kernel
theorem d_R_init_37 : decode me_R_init.2.1 37 = .ok (.putfield 22, 3) := by decide +kernel
theorem d_R_init_40 : decode me_R_init.2.1 40 = .ok (.aload_n 0, 1) := by decide +kernel
theorem d_R_init_41 : decode me_R_init.2.1 41 = .ok (.iconst 5, 1) := by decide +kernel
theorem d_R_init_42 : decode me_R_init.2.1 42 = .ok (.newarray .int, 2) := by decide +kernel
theorem d_R_init_44 : decode me_R_init.2.1 44 = .ok (.putfield 25, 3) := by decide +kernel
theorem d_R_init_47 : decode me_R_init.2.1 47 = .ok (.aload_n 0, 1) := by decide +kernel
theorem d_R_init_48 : decode me_R_init.2.1 48 = .ok (.iconst 0, 1) := by decide +kernel
theorem d_R_init_49 : decode me_R_init.2.1 49 = .ok (.putfield 28, 3) := by decide +kernel
theorem d_R_init_52 : decode me_R_init.2.1 52 = .ok (.aload_n 0, 1) := by decide +kernel
theorem d_R_init_53 : decode me_R_init.2.1 53 = .ok (.iconst 2, 1) := by decide +kernel
theorem d_R_init_54 : decode me_R_init.2.1 54 = .ok (.putfield 32, 3) := by decide +kernel
theorem d_R_init_57 : decode me_R_init.2.1 57 = .ok (.aload_n 0, 1) := by decide +kernel
theorem d_R_init_58 : decode me_R_init.2.1 58 = .ok (.iconst 1, 1) := by decide +kernel
theorem d_R_init_59 : decode me_R_init.2.1 59 = .ok (.putfield 36, 3) := by decide +kernel
theorem d_R_init_62 : decode me_R_init.2.1 62 = .ok (.aload_n 0, 1) := by decide +kernel
theorem d_R_init_63 : decode me_R_init.2.1 63 = .ok (.iconst 2, 1) := by decide +kernel
theorem d_R_init_64 : decode me_R_init.2.1 64 = .ok (.putfield 39, 3) := by decide +kernel
theorem d_R_init_67 : decode me_R_init.2.1 67 = .ok (.aload_n 0, 1) := by decide +kernel
theorem d_R_init_68 : decode me_R_init.2.1 68 = .ok (.iconst 1, 1) := by decide +kernel
theorem d_R_init_69 : decode me_R_init.2.1 69 = .ok (.putfield 42, 3) := by decide +kernel
theorem d_R_init_72 : decode me_R_init.2.1 72 = .ok (.return_, 1) := by decide +kernel
set_option maxRecDepth 100000 in
set_option maxHeartbeats 4000000 in
theorem N_R {l : Launch} {v : gs_V} {h0 : Nat} : gMn l v me_R_init rm_R 5 1029 [.ref h0] [(h0, .inr (2, [.null, .null, .null, .null, .null, .int 0, .int 0, .int 0, .int 0, .int 0]))] (cw_R v h0) := by
  refine gMn_of (by decide +kernel) rfl rfl (Nat.le_of_ble_eq_true rfl) ?_
  refine n_aload d_R_init_0 0 rfl rfl ?_
  refine n_obj d_R_init_1 lo_R (by decide) (by decide) ?_
  refine n_aload d_R_init_4 0 rfl rfl ?_
  refine n_sipush d_R_init_5 (x := 256) (by decide) ?_
  refine n_newa (t := 0) (N' := 256) (a0 := (256, .inl (fun _ => 0))) d_R_init_8 gw_ac_int rfl (fun _ _ h => h) (fun _ => rfl) (by decide) (by decide) (by decide) (by decide) (by decide) (fun q8 => ?_)
  refine n_put (q0 := 0) (ws' := [(h0, .inr (2, [.ref q8, .null, .null, .null, .null, .int 0, .int 0, .int 0, .int 0, .int 0])), (q8, .inl (v.2.1 0, 256, .inl (fun _ => 0)))]) d_R_init_10 fi_R_9 rfl rfl rfl (Nat.le_of_ble_eq_true rfl) rfl ?_
  refine n_aload d_R_init_13 0 rfl rfl ?_
  refine n_sipush d_R_init_14 (x := 256) (by decide) ?_
  refine n_newa (t := 1) (N' := 256) (a0 := (256, .inr (.inl (fun _ => 0)))) d_R_init_17 gw_ac_long rfl (fun _ _ h => h) (fun _ => rfl) (by decide) (by decide) (by decide) (by decide) (by decide) (fun q17 => ?_)
  refine n_put (q0 := 0) (ws' := [(h0, .inr (2, [.ref q8, .ref q17, .null, .null, .null, .int 0, .int 0, .int 0, .int 0, .int 0])), (q8, .inl (v.2.1 0, 256, .inl (fun _ => 0))), (q17, .inl (v.2.1 1, 256, .inr (.inl (fun _ => 0))))]) d_R_init_19 fi_R_15 rfl rfl rfl (Nat.le_of_ble_eq_true rfl) rfl ?_
  refine n_aload d_R_init_22 0 rfl rfl ?_
  refine n_sipush d_R_init_23 (x := 256) (by decide) ?_
  refine n_newa (t := 0) (N' := 256) (a0 := (256, .inl (fun _ => 0))) d_R_init_26 gw_ac_int rfl (fun _ _ h => h) (fun _ => rfl) (by decide) (by decide) (by decide) (by decide) (by decide) (fun q26 => ?_)
  refine n_put (q0 := 0) (ws' := [(h0, .inr (2, [.ref q8, .ref q17, .ref q26, .null, .null, .int 0, .int 0, .int 0, .int 0, .int 0])), (q8, .inl (v.2.1 0, 256, .inl (fun _ => 0))), (q17, .inl (v.2.1 1, 256, .inr (.inl (fun _ => 0)))), (q26, .inl (v.2.1 0, 256, .inl (fun _ => 0)))]) d_R_init_28 fi_R_19 rfl rfl rfl (Nat.le_of_ble_eq_true rfl) rfl ?_
  refine n_aload d_R_init_31 0 rfl rfl ?_
  refine n_sipush d_R_init_32 (x := 256) (by decide) ?_
  refine n_newa (t := 0) (N' := 256) (a0 := (256, .inl (fun _ => 0))) d_R_init_35 gw_ac_int rfl (fun _ _ h => h) (fun _ => rfl) (by decide) (by decide) (by decide) (by decide) (by decide) (fun q35 => ?_)
  refine n_put (q0 := 0) (ws' := [(h0, .inr (2, [.ref q8, .ref q17, .ref q26, .ref q35, .null, .int 0, .int 0, .int 0, .int 0, .int 0])), (q8, .inl (v.2.1 0, 256, .inl (fun _ => 0))), (q17, .inl (v.2.1 1, 256, .inr (.inl (fun _ => 0)))), (q26, .inl (v.2.1 0, 256, .inl (fun _ => 0))), (q35, .inl (v.2.1 0, 256, .inl (fun _ => 0)))]) d_R_init_37 fi_R_22 rfl rfl rfl (Nat.le_of_ble_eq_true rfl) rfl ?_
  refine n_aload d_R_init_40 0 rfl rfl ?_
  refine n_iconst d_R_init_41 (x := 5) (by decide) ?_
  refine n_newa (t := 0) (N' := 5) (a0 := (5, .inl (fun _ => 0))) d_R_init_42 gw_ac_int rfl (fun _ _ h => h) (fun _ => rfl) (by decide) (by decide) (by decide) (by decide) (by decide) (fun q42 => ?_)
  refine n_put (q0 := 0) (ws' := [(h0, .inr (2, [.ref q8, .ref q17, .ref q26, .ref q35, .ref q42, .int 0, .int 0, .int 0, .int 0, .int 0])), (q8, .inl (v.2.1 0, 256, .inl (fun _ => 0))), (q17, .inl (v.2.1 1, 256, .inr (.inl (fun _ => 0)))), (q26, .inl (v.2.1 0, 256, .inl (fun _ => 0))), (q35, .inl (v.2.1 0, 256, .inl (fun _ => 0))), (q42, .inl (v.2.1 0, 5, .inl (fun _ => 0)))]) d_R_init_44 fi_R_25 rfl rfl rfl (Nat.le_of_ble_eq_true rfl) rfl ?_
  refine n_aload d_R_init_47 0 rfl rfl ?_
  refine n_iconst d_R_init_48 (x := 0) (by decide) ?_
  refine n_put (q0 := 0) (ws' := [(h0, .inr (2, [.ref q8, .ref q17, .ref q26, .ref q35, .ref q42, .int 0, .int 0, .int 0, .int 0, .int 0])), (q8, .inl (v.2.1 0, 256, .inl (fun _ => 0))), (q17, .inl (v.2.1 1, 256, .inr (.inl (fun _ => 0)))), (q26, .inl (v.2.1 0, 256, .inl (fun _ => 0))), (q35, .inl (v.2.1 0, 256, .inl (fun _ => 0))), (q42, .inl (v.2.1 0, 5, .inl (fun _ => 0)))]) d_R_init_49 fi_R_28 rfl rfl rfl (Nat.le_of_ble_eq_true rfl) rfl ?_
  refine n_aload d_R_init_52 0 rfl rfl ?_
  refine n_iconst d_R_init_53 (x := 2) (by decide) ?_
  refine n_put (q0 := 0) (ws' := [(h0, .inr (2, [.ref q8, .ref q17, .ref q26, .ref q35, .ref q42, .int 0, .int 2, .int 0, .int 0, .int 0])), (q8, .inl (v.2.1 0, 256, .inl (fun _ => 0))), (q17, .inl (v.2.1 1, 256, .inr (.inl (fun _ => 0)))), (q26, .inl (v.2.1 0, 256, .inl (fun _ => 0))), (q35, .inl (v.2.1 0, 256, .inl (fun _ => 0))), (q42, .inl (v.2.1 0, 5, .inl (fun _ => 0)))]) d_R_init_54 fi_R_32 rfl rfl rfl (Nat.le_of_ble_eq_true rfl) rfl ?_
  refine n_aload d_R_init_57 0 rfl rfl ?_
  refine n_iconst d_R_init_58 (x := 1) (by decide) ?_
  refine n_put (q0 := 0) (ws' := [(h0, .inr (2, [.ref q8, .ref q17, .ref q26, .ref q35, .ref q42, .int 0, .int 2, .int 1, .int 0, .int 0])), (q8, .inl (v.2.1 0, 256, .inl (fun _ => 0))), (q17, .inl (v.2.1 1, 256, .inr (.inl (fun _ => 0)))), (q26, .inl (v.2.1 0, 256, .inl (fun _ => 0))), (q35, .inl (v.2.1 0, 256, .inl (fun _ => 0))), (q42, .inl (v.2.1 0, 5, .inl (fun _ => 0)))]) d_R_init_59 fi_R_36 rfl rfl rfl (Nat.le_of_ble_eq_true rfl) rfl ?_
  refine n_aload d_R_init_62 0 rfl rfl ?_
  refine n_iconst d_R_init_63 (x := 2) (by decide) ?_
  refine n_put (q0 := 0) (ws' := [(h0, .inr (2, [.ref q8, .ref q17, .ref q26, .ref q35, .ref q42, .int 0, .int 2, .int 1, .int 2, .int 0])), (q8, .inl (v.2.1 0, 256, .inl (fun _ => 0))), (q17, .inl (v.2.1 1, 256, .inr (.inl (fun _ => 0)))), (q26, .inl (v.2.1 0, 256, .inl (fun _ => 0))), (q35, .inl (v.2.1 0, 256, .inl (fun _ => 0))), (q42, .inl (v.2.1 0, 5, .inl (fun _ => 0)))]) d_R_init_64 fi_R_39 rfl rfl rfl (Nat.le_of_ble_eq_true rfl) rfl ?_
  refine n_aload d_R_init_67 0 rfl rfl ?_
  refine n_iconst d_R_init_68 (x := 1) (by decide) ?_
  refine n_put (q0 := 0) (ws' := [(h0, .inr (2, [.ref q8, .ref q17, .ref q26, .ref q35, .ref q42, .int 0, .int 2, .int 1, .int 2, .int 1])), (q8, .inl (v.2.1 0, 256, .inl (fun _ => 0))), (q17, .inl (v.2.1 1, 256, .inr (.inl (fun _ => 0)))), (q26, .inl (v.2.1 0, 256, .inl (fun _ => 0))), (q35, .inl (v.2.1 0, 256, .inl (fun _ => 0))), (q42, .inl (v.2.1 0, 5, .inl (fun _ => 0)))]) d_R_init_69 fi_R_42 rfl rfl rfl (Nat.le_of_ble_eq_true rfl) rfl ?_
  exact n_ret (fun k => match k with | 1 => q8 | 2 => q17 | 3 => q26 | 4 => q35 | 5 => q42 | _ => 0) d_R_init_72 rfl
theorem lo_C : Cond.methodLink "LineRules$Ring" 3 objectInit ∈ gw := (gw_t1 (List.mem_of_getElem? (i := 131) rfl) rfl)
theorem fi_C_9 : gFi "LineRules$Ring" 9 3 0 (.array .int) := ⟨"LineRules$Ring", TX3, 5, tyX3, rfl, by decide, inX3, (gw_t1 (List.mem_of_getElem? (i := 132) rfl) rfl), rfl, tyX3_ok, nmX3, rfl, by decide +kernel⟩
theorem fi_C_15 : gFi "LineRules$Ring" 15 3 1 .int := ⟨"LineRules$Ring", TX3, 5, tyX3, rfl, by decide, inX3, (gw_t1 (List.mem_of_getElem? (i := 135) rfl) rfl), rfl, tyX3_ok, nmX3, rfl, by decide +kernel⟩
theorem fi_C_19 : gFi "LineRules$Ring" 19 3 3 (.array .int) := ⟨"LineRules$Ring", TX3, 5, tyX3, rfl, by decide, inX3, (gw_t1 (List.mem_of_getElem? (i := 139) rfl) rfl), rfl, tyX3_ok, nmX3, rfl, by decide +kernel⟩
theorem fi_C_22 : gFi "LineRules$Ring" 22 3 4 (.array .int) := ⟨"LineRules$Ring", TX3, 5, tyX3, rfl, by decide, inX3, (gw_t1 (List.mem_of_getElem? (i := 140) rfl) rfl), rfl, tyX3_ok, nmX3, rfl, by decide +kernel⟩
theorem fi_C_25 : gFi "LineRules$Ring" 25 3 2 (.object "LineRules$Rule") := ⟨"LineRules$Ring", TX3, 5, tyX3, rfl, by decide, inX3, (gw_t1 (List.mem_of_getElem? (i := 138) rfl) rfl), rfl, tyX3_ok, nmX3, rfl, by decide +kernel⟩
def cw_C (v : gs_V) (h0 : Nat) (a1 : Nat) (u : Nat → Nat) : va_W := [(h0, .inr (3, [.ref (u 1), .int 1, .ref a1, .ref (u 2), .ref (u 3)])), (u 1, .inl (v.2.1 0, 64, .inl (fun _ => 0))), (u 2, .inl (v.2.1 0, 64, .inl (fun _ => 0))), (u 3, .inl (v.2.1 0, 64, .inl (fun _ => 0)))]
abbrev rm_C : Room := { frames := 1, cells := 3, slots := 192, locals := 12 }
theorem d_C_init_0 : decode me_C_init.2.1 0 = .ok (.aload_n 0, 1) := by decide +kernel
theorem d_C_init_1 : decode me_C_init.2.1 1 = .ok (.invokespecial 3, 3) := by decide +kernel
theorem d_C_init_4 : decode me_C_init.2.1 4 = .ok (.aload_n 0, 1) := by decide +kernel
theorem d_C_init_5 : decode me_C_init.2.1 5 = .ok (.bipush 64, 2) := by decide +kernel
theorem d_C_init_7 : decode me_C_init.2.1 7 = .ok (.newarray .int, 2) := by decide +kernel
theorem d_C_init_9 : decode me_C_init.2.1 9 = .ok (.putfield 9, 3) := by decide +kernel
theorem d_C_init_12 : decode me_C_init.2.1 12 = .ok (.aload_n 0, 1) := by decide +kernel
theorem d_C_init_13 : decode me_C_init.2.1 13 = .ok (.iconst 1, 1) := by decide +kernel
theorem d_C_init_14 : decode me_C_init.2.1 14 = .ok (.putfield 15, 3) := by decide +kernel
theorem d_C_init_17 : decode me_C_init.2.1 17 = .ok (.aload_n 0, 1) := by decide +kernel
theorem d_C_init_18 : decode me_C_init.2.1 18 = .ok (.bipush 64, 2) := by decide +kernel
theorem d_C_init_20 : decode me_C_init.2.1 20 = .ok (.newarray .int, 2) := by decide +kernel
theorem d_C_init_22 : decode me_C_init.2.1 22 = .ok (.putfield 19, 3) := by decide +kernel
theorem d_C_init_25 : decode me_C_init.2.1 25 = .ok (.aload_n 0, 1) := by decide +kernel
theorem d_C_init_26 : decode me_C_init.2.1 26 = .ok (.bipush 64, 2) := by decide +kernel
theorem d_C_init_28 : decode me_C_init.2.1 28 = .ok (.newarray .int, 2) := by decide +kernel
theorem d_C_init_30 : decode me_C_init.2.1 30 = .ok (.putfield 22, 3) := by decide +kernel
theorem d_C_init_33 : decode me_C_init.2.1 33 = .ok (.aload_n 0, 1) := by decide +kernel
theorem d_C_init_34 : decode me_C_init.2.1 34 = .ok (.aload_n 1, 1) := by decide +kernel
theorem d_C_init_35 : decode me_C_init.2.1 35 = .ok (.putfield 25, 3) := by decide +kernel
theorem d_C_init_38 : decode me_C_init.2.1 38 = .ok (.return_, 1) := by decide +kernel
set_option maxRecDepth 100000 in
set_option maxHeartbeats 4000000 in
theorem N_C {l : Launch} {v : gs_V} {h0 a1 : Nat} : gMn l v me_C_init rm_C 3 192 [.ref h0, .ref a1] [(h0, .inr (3, [.null, .int 0, .null, .null, .null]))] (cw_C v h0 a1) := by
  refine gMn_of (by decide +kernel) rfl rfl (Nat.le_of_ble_eq_true rfl) ?_
  refine n_aload d_C_init_0 0 rfl rfl ?_
  refine n_obj d_C_init_1 lo_C (by decide) (by decide) ?_
  refine n_aload d_C_init_4 0 rfl rfl ?_
  refine n_bipush d_C_init_5 (x := 64) (by decide) ?_
  refine n_newa (t := 0) (N' := 64) (a0 := (64, .inl (fun _ => 0))) d_C_init_7 gw_ac_int rfl (fun _ _ h => h) (fun _ => rfl) (by decide) (by decide) (by decide) (by decide) (by decide) (fun q7 => ?_)
  refine n_put (q0 := 0) (ws' := [(h0, .inr (3, [.ref q7, .int 0, .null, .null, .null])), (q7, .inl (v.2.1 0, 64, .inl (fun _ => 0)))]) d_C_init_9 fi_C_9 rfl rfl rfl (Nat.le_of_ble_eq_true rfl) rfl ?_
  refine n_aload d_C_init_12 0 rfl rfl ?_
  refine n_iconst d_C_init_13 (x := 1) (by decide) ?_
  refine n_put (q0 := 0) (ws' := [(h0, .inr (3, [.ref q7, .int 1, .null, .null, .null])), (q7, .inl (v.2.1 0, 64, .inl (fun _ => 0)))]) d_C_init_14 fi_C_15 rfl rfl rfl (Nat.le_of_ble_eq_true rfl) rfl ?_
  refine n_aload d_C_init_17 0 rfl rfl ?_
  refine n_bipush d_C_init_18 (x := 64) (by decide) ?_
  refine n_newa (t := 0) (N' := 64) (a0 := (64, .inl (fun _ => 0))) d_C_init_20 gw_ac_int rfl (fun _ _ h => h) (fun _ => rfl) (by decide) (by decide) (by decide) (by decide) (by decide) (fun q20 => ?_)
  refine n_put (q0 := 0) (ws' := [(h0, .inr (3, [.ref q7, .int 1, .null, .ref q20, .null])), (q7, .inl (v.2.1 0, 64, .inl (fun _ => 0))), (q20, .inl (v.2.1 0, 64, .inl (fun _ => 0)))]) d_C_init_22 fi_C_19 rfl rfl rfl (Nat.le_of_ble_eq_true rfl) rfl ?_
  refine n_aload d_C_init_25 0 rfl rfl ?_
  refine n_bipush d_C_init_26 (x := 64) (by decide) ?_
  refine n_newa (t := 0) (N' := 64) (a0 := (64, .inl (fun _ => 0))) d_C_init_28 gw_ac_int rfl (fun _ _ h => h) (fun _ => rfl) (by decide) (by decide) (by decide) (by decide) (by decide) (fun q28 => ?_)
  refine n_put (q0 := 0) (ws' := [(h0, .inr (3, [.ref q7, .int 1, .null, .ref q20, .ref q28])), (q7, .inl (v.2.1 0, 64, .inl (fun _ => 0))), (q20, .inl (v.2.1 0, 64, .inl (fun _ => 0))), (q28, .inl (v.2.1 0, 64, .inl (fun _ => 0)))]) d_C_init_30 fi_C_22 rfl rfl rfl (Nat.le_of_ble_eq_true rfl) rfl ?_
  refine n_aload d_C_init_33 0 rfl rfl ?_
  refine n_aload d_C_init_34 1 rfl rfl ?_
  refine n_put (q0 := 0) (ws' := [(h0, .inr (3, [.ref q7, .int 1, .ref a1, .ref q20, .ref q28])), (q7, .inl (v.2.1 0, 64, .inl (fun _ => 0))), (q20, .inl (v.2.1 0, 64, .inl (fun _ => 0))), (q28, .inl (v.2.1 0, 64, .inl (fun _ => 0)))]) d_C_init_35 fi_C_25 rfl rfl rfl (Nat.le_of_ble_eq_true rfl) rfl ?_
  exact n_ret (fun k => match k with | 1 => q7 | 2 => q20 | 3 => q28 | _ => 0) d_C_init_38 rfl
theorem lo_P : Cond.methodLink "LineRules$Pairs" 3 objectInit ∈ gw := (gw_t1 (List.mem_of_getElem? (i := 157) rfl) rfl)
theorem fi_P_9 : gFi "LineRules$Pairs" 9 4 1 (.array .long) := ⟨"LineRules$Pairs", TX4, 7, tyX4, rfl, by decide, inX4, (gw_t1 (List.mem_of_getElem? (i := 159) rfl) rfl), rfl, tyX4_ok, nmX4, rfl, by decide +kernel⟩
theorem fi_P_15 : gFi "LineRules$Pairs" 15 4 2 (.array .long) := ⟨"LineRules$Pairs", TX4, 7, tyX4, rfl, by decide, inX4, (gw_t1 (List.mem_of_getElem? (i := 160) rfl) rfl), rfl, tyX4_ok, nmX4, rfl, by decide +kernel⟩
theorem fi_P_18 : gFi "LineRules$Pairs" 18 4 3 .boolean := ⟨"LineRules$Pairs", TX4, 7, tyX4, rfl, by decide, inX4, (gw_t1 (List.mem_of_getElem? (i := 161) rfl) rfl), rfl, tyX4_ok, nmX4, rfl, by decide +kernel⟩
theorem fi_P_22 : gFi "LineRules$Pairs" 22 4 4 .boolean := ⟨"LineRules$Pairs", TX4, 7, tyX4, rfl, by decide, inX4, (gw_t1 (List.mem_of_getElem? (i := 162) rfl) rfl), rfl, tyX4_ok, nmX4, rfl, by decide +kernel⟩
theorem fi_P_25 : gFi "LineRules$Pairs" 25 4 5 .boolean := ⟨"LineRules$Pairs", TX4, 7, tyX4, rfl, by decide, inX4, (gw_t1 (List.mem_of_getElem? (i := 163) rfl) rfl), rfl, tyX4_ok, nmX4, rfl, by decide +kernel⟩
theorem fi_P_28 : gFi "LineRules$Pairs" 28 4 6 .boolean := ⟨"LineRules$Pairs", TX4, 7, tyX4, rfl, by decide, inX4, (gw_t1 (List.mem_of_getElem? (i := 164) rfl) rfl), rfl, tyX4_ok, nmX4, rfl, by decide +kernel⟩
theorem fi_P_31 : gFi "LineRules$Pairs" 31 4 0 (.object "LineRules$Rule") := ⟨"LineRules$Pairs", TX4, 7, tyX4, rfl, by decide, inX4, (gw_t1 (List.mem_of_getElem? (i := 158) rfl) rfl), rfl, tyX4_ok, nmX4, rfl, by decide +kernel⟩
def cw_P (v : gs_V) (h0 : Nat) (a1 : Nat) (u : Nat → Nat) : va_W := [(h0, .inr (4, [.ref a1, .ref (u 1), .ref (u 2), .int 0, .int 0, .int 0, .int 0])), (u 1, .inl (v.2.1 1, 64, .inr (.inl (fun _ => 0)))), (u 2, .inl (v.2.1 1, 64, .inr (.inl (fun _ => 0))))]
abbrev rm_P : Room := { frames := 1, cells := 2, slots := 128, locals := 12 }
theorem d_P_init_0 : decode me_P_init.2.1 0 = .ok (.aload_n 0, 1) := by decide +kernel
theorem d_P_init_1 : decode me_P_init.2.1 1 = .ok (.invokespecial 3, 3) := by decide +kernel
theorem d_P_init_4 : decode me_P_init.2.1 4 = .ok (.aload_n 0, 1) := by decide +kernel
theorem d_P_init_5 : decode me_P_init.2.1 5 = .ok (.bipush 64, 2) := by decide +kernel
theorem d_P_init_7 : decode me_P_init.2.1 7 = .ok (.newarray .long, 2) := by decide +kernel
theorem d_P_init_9 : decode me_P_init.2.1 9 = .ok (.putfield 9, 3) := by decide +kernel
theorem d_P_init_12 : decode me_P_init.2.1 12 = .ok (.aload_n 0, 1) := by decide +kernel
theorem d_P_init_13 : decode me_P_init.2.1 13 = .ok (.bipush 64, 2) := by decide +kernel
theorem d_P_init_15 : decode me_P_init.2.1 15 = .ok (.newarray .long, 2) := by decide +kernel
theorem d_P_init_17 : decode me_P_init.2.1 17 = .ok (.putfield 15, 3) := by decide +kernel
theorem d_P_init_20 : decode me_P_init.2.1 20 = .ok (.aload_n 0, 1) := by decide +kernel
theorem d_P_init_21 : decode me_P_init.2.1 21 = .ok (.iconst 0, 1) := by decide +kernel
theorem d_P_init_22 : decode me_P_init.2.1 22 = .ok (.putfield 18, 3) := by decide +kernel
theorem d_P_init_25 : decode me_P_init.2.1 25 = .ok (.aload_n 0, 1) := by decide +kernel
theorem d_P_init_26 : decode me_P_init.2.1 26 = .ok (.iconst 0, 1) := by decide +kernel
theorem d_P_init_27 : decode me_P_init.2.1 27 = .ok (.putfield 22, 3) := by decide +kernel
theorem d_P_init_30 : decode me_P_init.2.1 30 = .ok (.aload_n 0, 1) := by decide +kernel
theorem d_P_init_31 : decode me_P_init.2.1 31 = .ok (.iconst 0, 1) := by decide +kernel
theorem d_P_init_32 : decode me_P_init.2.1 32 = .ok (.putfield 25, 3) := by decide +kernel
theorem d_P_init_35 : decode me_P_init.2.1 35 = .ok (.aload_n 0, 1) := by decide +kernel
theorem d_P_init_36 : decode me_P_init.2.1 36 = .ok (.iconst 0, 1) := by decide +kernel
theorem d_P_init_37 : decode me_P_init.2.1 37 = .ok (.putfield 28, 3) := by decide +kernel
theorem d_P_init_40 : decode me_P_init.2.1 40 = .ok (.aload_n 0, 1) := by decide +kernel
theorem d_P_init_41 : decode me_P_init.2.1 41 = .ok (.aload_n 1, 1) := by decide +kernel
theorem d_P_init_42 : decode me_P_init.2.1 42 = .ok (.putfield 31, 3) := by decide +kernel
theorem d_P_init_45 : decode me_P_init.2.1 45 = .ok (.return_, 1) := by decide +kernel
set_option maxRecDepth 100000 in
set_option maxHeartbeats 4000000 in
theorem N_P {l : Launch} {v : gs_V} {h0 a1 : Nat} : gMn l v me_P_init rm_P 2 128 [.ref h0, .ref a1] [(h0, .inr (4, [.null, .null, .null, .int 0, .int 0, .int 0, .int 0]))] (cw_P v h0 a1) := by
  refine gMn_of (by decide +kernel) rfl rfl (Nat.le_of_ble_eq_true rfl) ?_
  refine n_aload d_P_init_0 0 rfl rfl ?_
  refine n_obj d_P_init_1 lo_P (by decide) (by decide) ?_
  refine n_aload d_P_init_4 0 rfl rfl ?_
  refine n_bipush d_P_init_5 (x := 64) (by decide) ?_
  refine n_newa (t := 1) (N' := 64) (a0 := (64, .inr (.inl (fun _ => 0)))) d_P_init_7 gw_ac_long rfl (fun _ _ h => h) (fun _ => rfl) (by decide) (by decide) (by decide) (by decide) (by decide) (fun q7 => ?_)
  refine n_put (q0 := 0) (ws' := [(h0, .inr (4, [.null, .ref q7, .null, .int 0, .int 0, .int 0, .int 0])), (q7, .inl (v.2.1 1, 64, .inr (.inl (fun _ => 0))))]) d_P_init_9 fi_P_9 rfl rfl rfl (Nat.le_of_ble_eq_true rfl) rfl ?_
  refine n_aload d_P_init_12 0 rfl rfl ?_
  refine n_bipush d_P_init_13 (x := 64) (by decide) ?_
  refine n_newa (t := 1) (N' := 64) (a0 := (64, .inr (.inl (fun _ => 0)))) d_P_init_15 gw_ac_long rfl (fun _ _ h => h) (fun _ => rfl) (by decide) (by decide) (by decide) (by decide) (by decide) (fun q15 => ?_)
  refine n_put (q0 := 0) (ws' := [(h0, .inr (4, [.null, .ref q7, .ref q15, .int 0, .int 0, .int 0, .int 0])), (q7, .inl (v.2.1 1, 64, .inr (.inl (fun _ => 0)))), (q15, .inl (v.2.1 1, 64, .inr (.inl (fun _ => 0))))]) d_P_init_17 fi_P_15 rfl rfl rfl (Nat.le_of_ble_eq_true rfl) rfl ?_
  refine n_aload d_P_init_20 0 rfl rfl ?_
  refine n_iconst d_P_init_21 (x := 0) (by decide) ?_
  refine n_put (q0 := 0) (ws' := [(h0, .inr (4, [.null, .ref q7, .ref q15, .int 0, .int 0, .int 0, .int 0])), (q7, .inl (v.2.1 1, 64, .inr (.inl (fun _ => 0)))), (q15, .inl (v.2.1 1, 64, .inr (.inl (fun _ => 0))))]) d_P_init_22 fi_P_18 rfl rfl rfl (Nat.le_of_ble_eq_true rfl) rfl ?_
  refine n_aload d_P_init_25 0 rfl rfl ?_
  refine n_iconst d_P_init_26 (x := 0) (by decide) ?_
  refine n_put (q0 := 0) (ws' := [(h0, .inr (4, [.null, .ref q7, .ref q15, .int 0, .int 0, .int 0, .int 0])), (q7, .inl (v.2.1 1, 64, .inr (.inl (fun _ => 0)))), (q15, .inl (v.2.1 1, 64, .inr (.inl (fun _ => 0))))]) d_P_init_27 fi_P_22 rfl rfl rfl (Nat.le_of_ble_eq_true rfl) rfl ?_
  refine n_aload d_P_init_30 0 rfl rfl ?_
  refine n_iconst d_P_init_31 (x := 0) (by decide) ?_
  refine n_put (q0 := 0) (ws' := [(h0, .inr (4, [.null, .ref q7, .ref q15, .int 0, .int 0, .int 0, .int 0])), (q7, .inl (v.2.1 1, 64, .inr (.inl (fun _ => 0)))), (q15, .inl (v.2.1 1, 64, .inr (.inl (fun _ => 0))))]) d_P_init_32 fi_P_25 rfl rfl rfl (Nat.le_of_ble_eq_true rfl) rfl ?_
  refine n_aload d_P_init_35 0 rfl rfl ?_
  refine n_iconst d_P_init_36 (x := 0) (by decide) ?_
  refine n_put (q0 := 0) (ws' := [(h0, .inr (4, [.null, .ref q7, .ref q15, .int 0, .int 0, .int 0, .int 0])), (q7, .inl (v.2.1 1, 64, .inr (.inl (fun _ => 0)))), (q15, .inl (v.2.1 1, 64, .inr (.inl (fun _ => 0))))]) d_P_init_37 fi_P_28 rfl rfl rfl (Nat.le_of_ble_eq_true rfl) rfl ?_
  refine n_aload d_P_init_40 0 rfl rfl ?_
  refine n_aload d_P_init_41 1 rfl rfl ?_
  refine n_put (q0 := 0) (ws' := [(h0, .inr (4, [.ref a1, .ref q7, .ref q15, .int 0, .int 0, .int 0, .int 0])), (q7, .inl (v.2.1 1, 64, .inr (.inl (fun _ => 0)))), (q15, .inl (v.2.1 1, 64, .inr (.inl (fun _ => 0))))]) d_P_init_42 fi_P_31 rfl rfl rfl (Nat.le_of_ble_eq_true rfl) rfl ?_
  exact n_ret (fun k => match k with | 1 => q7 | 2 => q15 | _ => 0) d_P_init_45 rfl
theorem lo_V : Cond.methodLink "LineRules$Inverse" 3 objectInit ∈ gw := (gw_t1 (List.mem_of_getElem? (i := 185) rfl) rfl)
theorem fi_V_9 : gFi "LineRules$Inverse" 9 5 2 (.array .int) := ⟨"LineRules$Inverse", TX5, 6, tyX5, rfl, by decide, inX5, (gw_t1 (List.mem_of_getElem? (i := 188) rfl) rfl), rfl, tyX5_ok, nmX5, rfl, by decide +kernel⟩
theorem fi_V_15 : gFi "LineRules$Inverse" 15 5 3 .boolean := ⟨"LineRules$Inverse", TX5, 6, tyX5, rfl, by decide, inX5, (gw_t1 (List.mem_of_getElem? (i := 189) rfl) rfl), rfl, tyX5_ok, nmX5, rfl, by decide +kernel⟩
theorem fi_V_19 : gFi "LineRules$Inverse" 19 5 4 .int := ⟨"LineRules$Inverse", TX5, 6, tyX5, rfl, by decide, inX5, (gw_t1 (List.mem_of_getElem? (i := 190) rfl) rfl), rfl, tyX5_ok, nmX5, rfl, by decide +kernel⟩
theorem fi_V_23 : gFi "LineRules$Inverse" 23 5 5 .int := ⟨"LineRules$Inverse", TX5, 6, tyX5, rfl, by decide, inX5, (gw_t1 (List.mem_of_getElem? (i := 191) rfl) rfl), rfl, tyX5_ok, nmX5, rfl, by decide +kernel⟩
theorem fi_V_26 : gFi "LineRules$Inverse" 26 5 0 (.object "LineRules$Rule") := ⟨"LineRules$Inverse", TX5, 6, tyX5, rfl, by decide, inX5, (gw_t1 (List.mem_of_getElem? (i := 186) rfl) rfl), rfl, tyX5_ok, nmX5, rfl, by decide +kernel⟩
theorem fi_V_30 : gFi "LineRules$Inverse" 30 5 1 (.object "LineRules$Pairs") := ⟨"LineRules$Inverse", TX5, 6, tyX5, rfl, by decide, inX5, (gw_t1 (List.mem_of_getElem? (i := 187) rfl) rfl), rfl, tyX5_ok, nmX5, rfl, by decide +kernel⟩
def cw_V (v : gs_V) (h0 : Nat) (a1 a2 : Nat) (u : Nat → Nat) : va_W := [(h0, .inr (5, [.ref a1, .ref a2, .ref (u 1), .int 0, .int 0, .int 0])), (u 1, .inl (v.2.1 0, 1024, .inl (fun _ => 0)))]
abbrev rm_V : Room := { frames := 1, cells := 1, slots := 1024, locals := 12 }
theorem d_V_init_0 : decode me_V_init.2.1 0 = .ok (.aload_n 0, 1) := by decide +kernel
theorem d_V_init_1 : decode me_V_init.2.1 1 = .ok (.invokespecial 3, 3) := by decide +kernel
theorem d_V_init_4 : decode me_V_init.2.1 4 = .ok (.aload_n 0, 1) := by decide +kernel
theorem d_V_init_5 : decode me_V_init.2.1 5 = .ok (.sipush 1024, 3) := by decide +kernel
theorem d_V_init_8 : decode me_V_init.2.1 8 = .ok (.newarray .int, 2) := by decide +kernel
theorem d_V_init_10 : decode me_V_init.2.1 10 = .ok (.putfield 9, 3) := by decide +kernel
theorem d_V_init_13 : decode me_V_init.2.1 13 = .ok (.aload_n 0, 1) := by decide +kernel
theorem d_V_init_14 : decode me_V_init.2.1 14 = .ok (.iconst 0, 1) := by decide +kernel
theorem d_V_init_15 : decode me_V_init.2.1 15 = .ok (.putfield 15, 3) := by decide +kernel
theorem d_V_init_18 : decode me_V_init.2.1 18 = .ok (.aload_n 0, 1) := by decide +kernel
theorem d_V_init_19 : decode me_V_init.2.1 19 = .ok (.iconst 0, 1) := by decide +kernel
theorem d_V_init_20 : decode me_V_init.2.1 20 = .ok (.putfield 19, 3) := by decide +kernel
theorem d_V_init_23 : decode me_V_init.2.1 23 = .ok (.aload_n 0, 1) := by decide +kernel
theorem d_V_init_24 : decode me_V_init.2.1 24 = .ok (.iconst 0, 1) := by decide +kernel
theorem d_V_init_25 : decode me_V_init.2.1 25 = .ok (.putfield 23, 3) := by decide +kernel
theorem d_V_init_28 : decode me_V_init.2.1 28 = .ok (.aload_n 0, 1) := by decide +kernel
theorem d_V_init_29 : decode me_V_init.2.1 29 = .ok (.aload_n 1, 1) := by decide +kernel
theorem d_V_init_30 : decode me_V_init.2.1 30 = .ok (.putfield 26, 3) := by decide +kernel
theorem d_V_init_33 : decode me_V_init.2.1 33 = .ok (.aload_n 0, 1) := by decide +kernel
theorem d_V_init_34 : decode me_V_init.2.1 34 = .ok (.aload_n 2, 1) := by decide +kernel
theorem d_V_init_35 : decode me_V_init.2.1 35 = .ok (.putfield 30, 3) := by decide +kernel
theorem d_V_init_38 : decode me_V_init.2.1 38 = .ok (.return_, 1) := by decide +kernel
set_option maxRecDepth 100000 in
set_option maxHeartbeats 4000000 in
theorem N_V {l : Launch} {v : gs_V} {h0 a1 a2 : Nat} : gMn l v me_V_init rm_V 1 1024 [.ref h0, .ref a1, .ref a2] [(h0, .inr (5, [.null, .null, .null, .int 0, .int 0, .int 0]))] (cw_V v h0 a1 a2) := by
  refine gMn_of (by decide +kernel) rfl rfl (Nat.le_of_ble_eq_true rfl) ?_
  refine n_aload d_V_init_0 0 rfl rfl ?_
  refine n_obj d_V_init_1 lo_V (by decide) (by decide) ?_
  refine n_aload d_V_init_4 0 rfl rfl ?_
  refine n_sipush d_V_init_5 (x := 1024) (by decide) ?_
  refine n_newa (t := 0) (N' := 1024) (a0 := (1024, .inl (fun _ => 0))) d_V_init_8 gw_ac_int rfl (fun _ _ h => h) (fun _ => rfl) (by decide) (by decide) (by decide) (by decide) (by decide) (fun q8 => ?_)
  refine n_put (q0 := 0) (ws' := [(h0, .inr (5, [.null, .null, .ref q8, .int 0, .int 0, .int 0])), (q8, .inl (v.2.1 0, 1024, .inl (fun _ => 0)))]) d_V_init_10 fi_V_9 rfl rfl rfl (Nat.le_of_ble_eq_true rfl) rfl ?_
  refine n_aload d_V_init_13 0 rfl rfl ?_
  refine n_iconst d_V_init_14 (x := 0) (by decide) ?_
  refine n_put (q0 := 0) (ws' := [(h0, .inr (5, [.null, .null, .ref q8, .int 0, .int 0, .int 0])), (q8, .inl (v.2.1 0, 1024, .inl (fun _ => 0)))]) d_V_init_15 fi_V_15 rfl rfl rfl (Nat.le_of_ble_eq_true rfl) rfl ?_
  refine n_aload d_V_init_18 0 rfl rfl ?_
  refine n_iconst d_V_init_19 (x := 0) (by decide) ?_
  refine n_put (q0 := 0) (ws' := [(h0, .inr (5, [.null, .null, .ref q8, .int 0, .int 0, .int 0])), (q8, .inl (v.2.1 0, 1024, .inl (fun _ => 0)))]) d_V_init_20 fi_V_19 rfl rfl rfl (Nat.le_of_ble_eq_true rfl) rfl ?_
  refine n_aload d_V_init_23 0 rfl rfl ?_
  refine n_iconst d_V_init_24 (x := 0) (by decide) ?_
  refine n_put (q0 := 0) (ws' := [(h0, .inr (5, [.null, .null, .ref q8, .int 0, .int 0, .int 0])), (q8, .inl (v.2.1 0, 1024, .inl (fun _ => 0)))]) d_V_init_25 fi_V_23 rfl rfl rfl (Nat.le_of_ble_eq_true rfl) rfl ?_
  refine n_aload d_V_init_28 0 rfl rfl ?_
  refine n_aload d_V_init_29 1 rfl rfl ?_
  refine n_put (q0 := 0) (ws' := [(h0, .inr (5, [.ref a1, .null, .ref q8, .int 0, .int 0, .int 0])), (q8, .inl (v.2.1 0, 1024, .inl (fun _ => 0)))]) d_V_init_30 fi_V_26 rfl rfl rfl (Nat.le_of_ble_eq_true rfl) rfl ?_
  refine n_aload d_V_init_33 0 rfl rfl ?_
  refine n_aload d_V_init_34 2 rfl rfl ?_
  refine n_put (q0 := 0) (ws' := [(h0, .inr (5, [.ref a1, .ref a2, .ref q8, .int 0, .int 0, .int 0])), (q8, .inl (v.2.1 0, 1024, .inl (fun _ => 0)))]) d_V_init_35 fi_V_30 rfl rfl rfl (Nat.le_of_ble_eq_true rfl) rfl ?_
  exact n_ret (fun k => match k with | 1 => q8 | _ => 0) d_V_init_38 rfl
theorem lo_W : Cond.methodLink "LineRules$Weights" 3 objectInit ∈ gw := (gw_t1 (List.mem_of_getElem? (i := 210) rfl) rfl)
theorem fi_W_11 : gFi "LineRules$Weights" 11 6 1 (.array (.array .long)) := ⟨"LineRules$Weights", TX6, 6, tyX6, rfl, by decide, inX6, (gw_t1 (List.mem_of_getElem? (i := 214) rfl) rfl), rfl, tyX6_ok, nmX6, rfl, by decide +kernel⟩
theorem fi_W_16 : gFi "LineRules$Weights" 16 6 2 (.array (.array .long)) := ⟨"LineRules$Weights", TX6, 6, tyX6, rfl, by decide, inX6, (gw_t1 (List.mem_of_getElem? (i := 215) rfl) rfl), rfl, tyX6_ok, nmX6, rfl, by decide +kernel⟩
theorem fi_W_19 : gFi "LineRules$Weights" 19 6 3 (.array .long) := ⟨"LineRules$Weights", TX6, 6, tyX6, rfl, by decide, inX6, (gw_t1 (List.mem_of_getElem? (i := 216) rfl) rfl), rfl, tyX6_ok, nmX6, rfl, by decide +kernel⟩
theorem fi_W_23 : gFi "LineRules$Weights" 23 6 4 .boolean := ⟨"LineRules$Weights", TX6, 6, tyX6, rfl, by decide, inX6, (gw_t1 (List.mem_of_getElem? (i := 217) rfl) rfl), rfl, tyX6_ok, nmX6, rfl, by decide +kernel⟩
theorem fi_W_27 : gFi "LineRules$Weights" 27 6 5 .int := ⟨"LineRules$Weights", TX6, 6, tyX6, rfl, by decide, inX6, (gw_t1 (List.mem_of_getElem? (i := 218) rfl) rfl), rfl, tyX6_ok, nmX6, rfl, by decide +kernel⟩
theorem fi_W_31 : gFi "LineRules$Weights" 31 6 0 (.object "LineRules$Rule") := ⟨"LineRules$Weights", TX6, 6, tyX6, rfl, by decide, inX6, (gw_t1 (List.mem_of_getElem? (i := 213) rfl) rfl), rfl, tyX6_ok, nmX6, rfl, by decide +kernel⟩
def cw_W (v : gs_V) (h0 : Nat) (a1 : Nat) (u : Nat → Nat) : va_W := [(h0, .inr (6, [.ref a1, .ref (u 1), .ref (u 2), .ref (u 3), .int 0, .int 0])), (u 1, .inl (v.2.1 4, 4, .inr (.inr (.inr (.inr (fun i => some (u 1 + 1 + i))))))), (u 1 + 1, .inl (v.2.1 1, 4, .inr (.inl (fun _ => 0)))), (u 1 + 2, .inl (v.2.1 1, 4, .inr (.inl (fun _ => 0)))), (u 1 + 3, .inl (v.2.1 1, 4, .inr (.inl (fun _ => 0)))), (u 1 + 4, .inl (v.2.1 1, 4, .inr (.inl (fun _ => 0)))), (u 2, .inl (v.2.1 4, 4, .inr (.inr (.inr (.inr (fun i => some (u 2 + 1 + i))))))), (u 2 + 1, .inl (v.2.1 1, 4, .inr (.inl (fun _ => 0)))), (u 2 + 2, .inl (v.2.1 1, 4, .inr (.inl (fun _ => 0)))), (u 2 + 3, .inl (v.2.1 1, 4, .inr (.inl (fun _ => 0)))), (u 2 + 4, .inl (v.2.1 1, 4, .inr (.inl (fun _ => 0)))), (u 3, .inl (v.2.1 1, 4, .inr (.inl (fun _ => 0))))]
abbrev rm_W : Room := { frames := 1, cells := 11, slots := 44, locals := 12 }
theorem d_W_init_0 : decode me_W_init.2.1 0 = .ok (.aload_n 0, 1) := by decide +kernel
theorem d_W_init_1 : decode me_W_init.2.1 1 = .ok (.invokespecial 3, 3) := by decide +kernel
theorem d_W_init_4 : decode me_W_init.2.1 4 = .ok (.aload_n 0, 1) := by decide +kernel
theorem d_W_init_5 : decode me_W_init.2.1 5 = .ok (.iconst 4, 1) := by decide +kernel
theorem d_W_init_6 : decode me_W_init.2.1 6 = .ok (.iconst 4, 1) := by decide +kernel
theorem d_W_init_7 : decode me_W_init.2.1 7 = .ok (.multianewarray 9 2, 4) := by decide +kernel
theorem d_W_init_11 : decode me_W_init.2.1 11 = .ok (.putfield 11, 3) := by decide +kernel
theorem d_W_init_14 : decode me_W_init.2.1 14 = .ok (.aload_n 0, 1) := by decide +kernel
theorem d_W_init_15 : decode me_W_init.2.1 15 = .ok (.iconst 4, 1) := by decide +kernel
theorem d_W_init_16 : decode me_W_init.2.1 16 = .ok (.iconst 4, 1) := by decide +kernel
theorem d_W_init_17 : decode me_W_init.2.1 17 = .ok (.multianewarray 9 2, 4) := by decide +kernel
theorem d_W_init_21 : decode me_W_init.2.1 21 = .ok (.putfield 16, 3) := by decide +kernel
theorem d_W_init_24 : decode me_W_init.2.1 24 = .ok (.aload_n 0, 1) := by decide +kernel
theorem d_W_init_25 : decode me_W_init.2.1 25 = .ok (.iconst 4, 1) := by decide +kernel
theorem d_W_init_26 : decode me_W_init.2.1 26 = .ok (.newarray .long, 2) := by decide +kernel
theorem d_W_init_28 : decode me_W_init.2.1 28 = .ok (.putfield 19, 3) := by decide +kernel
theorem d_W_init_31 : decode me_W_init.2.1 31 = .ok (.aload_n 0, 1) := by decide +kernel
theorem d_W_init_32 : decode me_W_init.2.1 32 = .ok (.iconst 0, 1) := by decide +kernel
theorem d_W_init_33 : decode me_W_init.2.1 33 = .ok (.putfield 23, 3) := by decide +kernel
theorem d_W_init_36 : decode me_W_init.2.1 36 = .ok (.aload_n 0, 1) := by decide +kernel
theorem d_W_init_37 : decode me_W_init.2.1 37 = .ok (.iconst 0, 1) := by decide +kernel
theorem d_W_init_38 : decode me_W_init.2.1 38 = .ok (.putfield 27, 3) := by decide +kernel
theorem d_W_init_41 : decode me_W_init.2.1 41 = .ok (.aload_n 0, 1) := by decide +kernel
theorem d_W_init_42 : decode me_W_init.2.1 42 = .ok (.aload_n 1, 1) := by decide +kernel
theorem d_W_init_43 : decode me_W_init.2.1 43 = .ok (.putfield 31, 3) := by decide +kernel
theorem d_W_init_46 : decode me_W_init.2.1 46 = .ok (.return_, 1) := by decide +kernel
set_option maxRecDepth 100000 in
set_option maxHeartbeats 4000000 in
theorem N_W {l : Launch} {v : gs_V} {h0 a1 : Nat} : gMn l v me_W_init rm_W 11 44 [.ref h0, .ref a1] [(h0, .inr (6, [.null, .null, .null, .null, .int 0, .int 0]))] (cw_W v h0 a1) := by
  refine gMn_of (by decide +kernel) rfl rfl (Nat.le_of_ble_eq_true rfl) ?_
  refine n_aload d_W_init_0 0 rfl rfl ?_
  refine n_obj d_W_init_1 lo_W (by decide) (by decide) ?_
  refine n_aload d_W_init_4 0 rfl rfl ?_
  refine n_iconst d_W_init_5 (x := 4) (by decide) ?_
  refine n_iconst d_W_init_6 (x := 4) (by decide) ?_
  refine n_mna rfl rfl d_W_init_7 gw_jj gw_ac_long (by decide) (by decide) (fun q7 => ?_)
  refine n_put (q0 := 0) (ws' := [(h0, .inr (6, [.null, .ref q7, .null, .null, .int 0, .int 0])), (q7, .inl (v.2.1 4, 4, .inr (.inr (.inr (.inr (fun i => some (q7 + 1 + i))))))), (q7 + 1, .inl (v.2.1 1, 4, .inr (.inl (fun _ => 0)))), (q7 + 2, .inl (v.2.1 1, 4, .inr (.inl (fun _ => 0)))), (q7 + 3, .inl (v.2.1 1, 4, .inr (.inl (fun _ => 0)))), (q7 + 4, .inl (v.2.1 1, 4, .inr (.inl (fun _ => 0))))]) d_W_init_11 fi_W_11 rfl rfl rfl (Nat.le_of_ble_eq_true rfl) rfl ?_
  refine n_aload d_W_init_14 0 rfl rfl ?_
  refine n_iconst d_W_init_15 (x := 4) (by decide) ?_
  refine n_iconst d_W_init_16 (x := 4) (by decide) ?_
  refine n_mna rfl rfl d_W_init_17 gw_jj gw_ac_long (by decide) (by decide) (fun q17 => ?_)
  refine n_put (q0 := 0) (ws' := [(h0, .inr (6, [.null, .ref q7, .ref q17, .null, .int 0, .int 0])), (q7, .inl (v.2.1 4, 4, .inr (.inr (.inr (.inr (fun i => some (q7 + 1 + i))))))), (q7 + 1, .inl (v.2.1 1, 4, .inr (.inl (fun _ => 0)))), (q7 + 2, .inl (v.2.1 1, 4, .inr (.inl (fun _ => 0)))), (q7 + 3, .inl (v.2.1 1, 4, .inr (.inl (fun _ => 0)))), (q7 + 4, .inl (v.2.1 1, 4, .inr (.inl (fun _ => 0)))), (q17, .inl (v.2.1 4, 4, .inr (.inr (.inr (.inr (fun i => some (q17 + 1 + i))))))), (q17 + 1, .inl (v.2.1 1, 4, .inr (.inl (fun _ => 0)))), (q17 + 2, .inl (v.2.1 1, 4, .inr (.inl (fun _ => 0)))), (q17 + 3, .inl (v.2.1 1, 4, .inr (.inl (fun _ => 0)))), (q17 + 4, .inl (v.2.1 1, 4, .inr (.inl (fun _ => 0))))]) d_W_init_21 fi_W_16 rfl rfl rfl (Nat.le_of_ble_eq_true rfl) rfl ?_
  refine n_aload d_W_init_24 0 rfl rfl ?_
  refine n_iconst d_W_init_25 (x := 4) (by decide) ?_
  refine n_newa (t := 1) (N' := 4) (a0 := (4, .inr (.inl (fun _ => 0)))) d_W_init_26 gw_ac_long rfl (fun _ _ h => h) (fun _ => rfl) (by decide) (by decide) (by decide) (by decide) (by decide) (fun q26 => ?_)
  refine n_put (q0 := 0) (ws' := [(h0, .inr (6, [.null, .ref q7, .ref q17, .ref q26, .int 0, .int 0])), (q7, .inl (v.2.1 4, 4, .inr (.inr (.inr (.inr (fun i => some (q7 + 1 + i))))))), (q7 + 1, .inl (v.2.1 1, 4, .inr (.inl (fun _ => 0)))), (q7 + 2, .inl (v.2.1 1, 4, .inr (.inl (fun _ => 0)))), (q7 + 3, .inl (v.2.1 1, 4, .inr (.inl (fun _ => 0)))), (q7 + 4, .inl (v.2.1 1, 4, .inr (.inl (fun _ => 0)))), (q17, .inl (v.2.1 4, 4, .inr (.inr (.inr (.inr (fun i => some (q17 + 1 + i))))))), (q17 + 1, .inl (v.2.1 1, 4, .inr (.inl (fun _ => 0)))), (q17 + 2, .inl (v.2.1 1, 4, .inr (.inl (fun _ => 0)))), (q17 + 3, .inl (v.2.1 1, 4, .inr (.inl (fun _ => 0)))), (q17 + 4, .inl (v.2.1 1, 4, .inr (.inl (fun _ => 0)))), (q26, .inl (v.2.1 1, 4, .inr (.inl (fun _ => 0))))]) d_W_init_28 fi_W_19 rfl rfl rfl (Nat.le_of_ble_eq_true rfl) rfl ?_
  refine n_aload d_W_init_31 0 rfl rfl ?_
  refine n_iconst d_W_init_32 (x := 0) (by decide) ?_
  refine n_put (q0 := 0) (ws' := [(h0, .inr (6, [.null, .ref q7, .ref q17, .ref q26, .int 0, .int 0])), (q7, .inl (v.2.1 4, 4, .inr (.inr (.inr (.inr (fun i => some (q7 + 1 + i))))))), (q7 + 1, .inl (v.2.1 1, 4, .inr (.inl (fun _ => 0)))), (q7 + 2, .inl (v.2.1 1, 4, .inr (.inl (fun _ => 0)))), (q7 + 3, .inl (v.2.1 1, 4, .inr (.inl (fun _ => 0)))), (q7 + 4, .inl (v.2.1 1, 4, .inr (.inl (fun _ => 0)))), (q17, .inl (v.2.1 4, 4, .inr (.inr (.inr (.inr (fun i => some (q17 + 1 + i))))))), (q17 + 1, .inl (v.2.1 1, 4, .inr (.inl (fun _ => 0)))), (q17 + 2, .inl (v.2.1 1, 4, .inr (.inl (fun _ => 0)))), (q17 + 3, .inl (v.2.1 1, 4, .inr (.inl (fun _ => 0)))), (q17 + 4, .inl (v.2.1 1, 4, .inr (.inl (fun _ => 0)))), (q26, .inl (v.2.1 1, 4, .inr (.inl (fun _ => 0))))]) d_W_init_33 fi_W_23 rfl rfl rfl (Nat.le_of_ble_eq_true rfl) rfl ?_
  refine n_aload d_W_init_36 0 rfl rfl ?_
  refine n_iconst d_W_init_37 (x := 0) (by decide) ?_
  refine n_put (q0 := 0) (ws' := [(h0, .inr (6, [.null, .ref q7, .ref q17, .ref q26, .int 0, .int 0])), (q7, .inl (v.2.1 4, 4, .inr (.inr (.inr (.inr (fun i => some (q7 + 1 + i))))))), (q7 + 1, .inl (v.2.1 1, 4, .inr (.inl (fun _ => 0)))), (q7 + 2, .inl (v.2.1 1, 4, .inr (.inl (fun _ => 0)))), (q7 + 3, .inl (v.2.1 1, 4, .inr (.inl (fun _ => 0)))), (q7 + 4, .inl (v.2.1 1, 4, .inr (.inl (fun _ => 0)))), (q17, .inl (v.2.1 4, 4, .inr (.inr (.inr (.inr (fun i => some (q17 + 1 + i))))))), (q17 + 1, .inl (v.2.1 1, 4, .inr (.inl (fun _ => 0)))), (q17 + 2, .inl (v.2.1 1, 4, .inr (.inl (fun _ => 0)))), (q17 + 3, .inl (v.2.1 1, 4, .inr (.inl (fun _ => 0)))), (q17 + 4, .inl (v.2.1 1, 4, .inr (.inl (fun _ => 0)))), (q26, .inl (v.2.1 1, 4, .inr (.inl (fun _ => 0))))]) d_W_init_38 fi_W_27 rfl rfl rfl (Nat.le_of_ble_eq_true rfl) rfl ?_
  refine n_aload d_W_init_41 0 rfl rfl ?_
  refine n_aload d_W_init_42 1 rfl rfl ?_
  refine n_put (q0 := 0) (ws' := [(h0, .inr (6, [.ref a1, .ref q7, .ref q17, .ref q26, .int 0, .int 0])), (q7, .inl (v.2.1 4, 4, .inr (.inr (.inr (.inr (fun i => some (q7 + 1 + i))))))), (q7 + 1, .inl (v.2.1 1, 4, .inr (.inl (fun _ => 0)))), (q7 + 2, .inl (v.2.1 1, 4, .inr (.inl (fun _ => 0)))), (q7 + 3, .inl (v.2.1 1, 4, .inr (.inl (fun _ => 0)))), (q7 + 4, .inl (v.2.1 1, 4, .inr (.inl (fun _ => 0)))), (q17, .inl (v.2.1 4, 4, .inr (.inr (.inr (.inr (fun i => some (q17 + 1 + i))))))), (q17 + 1, .inl (v.2.1 1, 4, .inr (.inl (fun _ => 0)))), (q17 + 2, .inl (v.2.1 1, 4, .inr (.inl (fun _ => 0)))), (q17 + 3, .inl (v.2.1 1, 4, .inr (.inl (fun _ => 0)))), (q17 + 4, .inl (v.2.1 1, 4, .inr (.inl (fun _ => 0)))), (q26, .inl (v.2.1 1, 4, .inr (.inl (fun _ => 0))))]) d_W_init_43 fi_W_31 rfl rfl rfl (Nat.le_of_ble_eq_true rfl) rfl ?_
  exact n_ret (fun k => match k with | 1 => q7 | 2 => q17 | 3 => q26 | _ => 0) d_W_init_46 rfl
theorem lo_O : Cond.methodLink "LineRules$Orphan" 3 objectInit ∈ gw := (gw_t1 (List.mem_of_getElem? (i := 237) rfl) rfl)
theorem fi_O_9 : gFi "LineRules$Orphan" 9 7 2 (.array .long) := ⟨"LineRules$Orphan", TX7, 10, tyX7, rfl, by decide, inX7, (gw_t2 (List.mem_of_getElem? (i := 0) rfl) rfl), rfl, tyX7_ok, nmX7, rfl, by decide +kernel⟩
theorem fi_O_15 : gFi "LineRules$Orphan" 15 7 3 (.array .int) := ⟨"LineRules$Orphan", TX7, 10, tyX7, rfl, by decide, inX7, (gw_t2 (List.mem_of_getElem? (i := 1) rfl) rfl), rfl, tyX7_ok, nmX7, rfl, by decide +kernel⟩
theorem fi_O_19 : gFi "LineRules$Orphan" 19 7 4 (.array .int) := ⟨"LineRules$Orphan", TX7, 10, tyX7, rfl, by decide, inX7, (gw_t2 (List.mem_of_getElem? (i := 2) rfl) rfl), rfl, tyX7_ok, nmX7, rfl, by decide +kernel⟩
theorem fi_O_22 : gFi "LineRules$Orphan" 22 7 5 (.array .long) := ⟨"LineRules$Orphan", TX7, 10, tyX7, rfl, by decide, inX7, (gw_t2 (List.mem_of_getElem? (i := 3) rfl) rfl), rfl, tyX7_ok, nmX7, rfl, by decide +kernel⟩
theorem fi_O_25 : gFi "LineRules$Orphan" 25 7 6 (.array .int) := ⟨"LineRules$Orphan", TX7, 10, tyX7, rfl, by decide, inX7, (gw_t2 (List.mem_of_getElem? (i := 4) rfl) rfl), rfl, tyX7_ok, nmX7, rfl, by decide +kernel⟩
theorem fi_O_28 : gFi "LineRules$Orphan" 28 7 7 .int := ⟨"LineRules$Orphan", TX7, 10, tyX7, rfl, by decide, inX7, (gw_t2 (List.mem_of_getElem? (i := 5) rfl) rfl), rfl, tyX7_ok, nmX7, rfl, by decide +kernel⟩
theorem fi_O_32 : gFi "LineRules$Orphan" 32 7 8 .boolean := ⟨"LineRules$Orphan", TX7, 10, tyX7, rfl, by decide, inX7, (gw_t2 (List.mem_of_getElem? (i := 6) rfl) rfl), rfl, tyX7_ok, nmX7, rfl, by decide +kernel⟩
theorem fi_O_36 : gFi "LineRules$Orphan" 36 7 9 .int := ⟨"LineRules$Orphan", TX7, 10, tyX7, rfl, by decide, inX7, (gw_t2 (List.mem_of_getElem? (i := 7) rfl) rfl), rfl, tyX7_ok, nmX7, rfl, by decide +kernel⟩
theorem fi_O_39 : gFi "LineRules$Orphan" 39 7 0 (.object "LineRules$Rule") := ⟨"LineRules$Orphan", TX7, 10, tyX7, rfl, by decide, inX7, (gw_t1 (List.mem_of_getElem? (i := 238) rfl) rfl), rfl, tyX7_ok, nmX7, rfl, by decide +kernel⟩
theorem fi_O_43 : gFi "LineRules$Orphan" 43 7 1 (.object "LineRules$Pairs") := ⟨"LineRules$Orphan", TX7, 10, tyX7, rfl, by decide, inX7, (gw_t1 (List.mem_of_getElem? (i := 239) rfl) rfl), rfl, tyX7_ok, nmX7, rfl, by decide +kernel⟩
def cw_O (v : gs_V) (h0 : Nat) (a1 a2 : Nat) (u : Nat → Nat) : va_W := [(h0, .inr (7, [.ref a1, .ref a2, .ref (u 1), .ref (u 2), .ref (u 3), .ref (u 4), .ref (u 5), .int 0, .int 0, .int 0])), (u 1, .inl (v.2.1 1, 500, .inr (.inl (fun _ => 0)))), (u 2, .inl (v.2.1 0, 500, .inl (fun _ => 0))), (u 3, .inl (v.2.1 0, 500, .inl (fun _ => 0))), (u 4, .inl (v.2.1 1, 4, .inr (.inl (fun _ => 0)))), (u 5, .inl (v.2.1 0, 500, .inl (fun _ => 0)))]
abbrev rm_O : Room := { frames := 1, cells := 5, slots := 2004, locals := 12 }
theorem d_O_init_0 : decode me_O_init.2.1 0 = .ok (.aload_n 0, 1) := by decide +kernel
theorem d_O_init_1 : decode me_O_init.2.1 1 = .ok (.invokespecial 3, 3) := by decide +kernel
theorem d_O_init_4 : decode me_O_init.2.1 4 = .ok (.aload_n 0, 1) := by decide +kernel
theorem d_O_init_5 : decode me_O_init.2.1 5 = .ok (.sipush 500, 3) := by decide +kernel
theorem d_O_init_8 : decode me_O_init.2.1 8 = .ok (.newarray .long, 2) := by decide +kernel
theorem d_O_init_10 : decode me_O_init.2.1 10 = .ok (.putfield 9, 3) := by decide +kernel
theorem d_O_init_13 : decode me_O_init.2.1 13 = .ok (.aload_n 0, 1) := by decide +kernel
theorem d_O_init_14 : decode me_O_init.2.1 14 = .ok (.sipush 500, 3) := by decide +kernel
theorem d_O_init_17 : decode me_O_init.2.1 17 = .ok (.newarray .int, 2) := by decide +kernel
theorem d_O_init_19 : decode me_O_init.2.1 19 = .ok (.putfield 15, 3) := by decide +kernel
theorem d_O_init_22 : decode me_O_init.2.1 22 = .ok (.aload_n 0, 1) := by decide +kernel
theorem d_O_init_23 : decode me_O_init.2.1 23 = .ok (.sipush 500, 3) := by decide +kernel
theorem d_O_init_26 : decode me_O_init.2.1 26 = .ok (.newarray .int, 2) := by decide +kernel
theorem d_O_init_28 : decode me_O_init.2.1 28 = .ok (.putfield 19, 3) := by decide +kernel
theorem d_O_init_31 : decode me_O_init.2.1 31 = .ok (.aload_n 0, 1) := by decide +kernel
theorem d_O_init_32 : decode me_O_init.2.1 32 = .ok (.iconst 4, 1) := by decide +kernel
theorem d_O_init_33 : decode me_O_init.2.1 33 = .ok (.newarray .long, 2) := by decide +kernel
theorem d_O_init_35 : decode me_O_init.2.1 35 = .ok (.putfield 22, 3) := by decide +kernel
theorem d_O_init_38 : decode me_O_init.2.1 38 = .ok (.aload_n 0, 1) := by decide +kernel
theorem d_O_init_39 : decode me_O_init.2.1 39 = .ok (.sipush 500, 3) := by decide +kernel
theorem d_O_init_42 : decode me_O_init.2.1 42 = .ok (.newarray .int, 2) := by decide +kernel
theorem d_O_init_44 : decode me_O_init.2.1 44 = .ok (.putfield 25, 3) := by decide +kernel
theorem d_O_init_47 : decode me_O_init.2.1 47 = .ok (.aload_n 0, 1) := by decide +kernel
theorem d_O_init_48 : decode me_O_init.2.1 48 = .ok (.iconst 0, 1) := by decide +kernel
theorem d_O_init_49 : decode me_O_init.2.1 49 = .ok (.putfield 28, 3) := by decide +kernel
theorem d_O_init_52 : decode me_O_init.2.1 52 = .ok (.aload_n 0, 1) := by decide +kernel
theorem d_O_init_53 : decode me_O_init.2.1 53 = .ok (.iconst 0, 1) := by decide +kernel
theorem d_O_init_54 : decode me_O_init.2.1 54 = .ok (.putfield 32, 3) := by decide +kernel
theorem d_O_init_57 : decode me_O_init.2.1 57 = .ok (.aload_n 0, 1) := by decide +kernel
theorem d_O_init_58 : decode me_O_init.2.1 58 = .ok (.iconst 0, 1) := by decide +kernel
theorem d_O_init_59 : decode me_O_init.2.1 59 = .ok (.putfield 36, 3) := by decide +kernel
theorem d_O_init_62 : decode me_O_init.2.1 62 = .ok (.aload_n 0, 1) := by decide +kernel
theorem d_O_init_63 : decode me_O_init.2.1 63 = .ok (.aload_n 1, 1) := by decide +kernel
theorem d_O_init_64 : decode me_O_init.2.1 64 = .ok (.putfield 39, 3) := by decide +kernel
theorem d_O_init_67 : decode me_O_init.2.1 67 = .ok (.aload_n 0, 1) := by decide +kernel
theorem d_O_init_68 : decode me_O_init.2.1 68 = .ok (.aload_n 2, 1) := by decide +kernel
theorem d_O_init_69 : decode me_O_init.2.1 69 = .ok (.putfield 43, 3) := by decide +kernel
theorem d_O_init_72 : decode me_O_init.2.1 72 = .ok (.return_, 1) := by decide +kernel
set_option maxRecDepth 100000 in
set_option maxHeartbeats 4000000 in
theorem N_O {l : Launch} {v : gs_V} {h0 a1 a2 : Nat} : gMn l v me_O_init rm_O 5 2004 [.ref h0, .ref a1, .ref a2] [(h0, .inr (7, [.null, .null, .null, .null, .null, .null, .null, .int 0, .int 0, .int 0]))] (cw_O v h0 a1 a2) := by
  refine gMn_of (by decide +kernel) rfl rfl (Nat.le_of_ble_eq_true rfl) ?_
  refine n_aload d_O_init_0 0 rfl rfl ?_
  refine n_obj d_O_init_1 lo_O (by decide) (by decide) ?_
  refine n_aload d_O_init_4 0 rfl rfl ?_
  refine n_sipush d_O_init_5 (x := 500) (by decide) ?_
  refine n_newa (t := 1) (N' := 500) (a0 := (500, .inr (.inl (fun _ => 0)))) d_O_init_8 gw_ac_long rfl (fun _ _ h => h) (fun _ => rfl) (by decide) (by decide) (by decide) (by decide) (by decide) (fun q8 => ?_)
  refine n_put (q0 := 0) (ws' := [(h0, .inr (7, [.null, .null, .ref q8, .null, .null, .null, .null, .int 0, .int 0, .int 0])), (q8, .inl (v.2.1 1, 500, .inr (.inl (fun _ => 0))))]) d_O_init_10 fi_O_9 rfl rfl rfl (Nat.le_of_ble_eq_true rfl) rfl ?_
  refine n_aload d_O_init_13 0 rfl rfl ?_
  refine n_sipush d_O_init_14 (x := 500) (by decide) ?_
  refine n_newa (t := 0) (N' := 500) (a0 := (500, .inl (fun _ => 0))) d_O_init_17 gw_ac_int rfl (fun _ _ h => h) (fun _ => rfl) (by decide) (by decide) (by decide) (by decide) (by decide) (fun q17 => ?_)
  refine n_put (q0 := 0) (ws' := [(h0, .inr (7, [.null, .null, .ref q8, .ref q17, .null, .null, .null, .int 0, .int 0, .int 0])), (q8, .inl (v.2.1 1, 500, .inr (.inl (fun _ => 0)))), (q17, .inl (v.2.1 0, 500, .inl (fun _ => 0)))]) d_O_init_19 fi_O_15 rfl rfl rfl (Nat.le_of_ble_eq_true rfl) rfl ?_
  refine n_aload d_O_init_22 0 rfl rfl ?_
  refine n_sipush d_O_init_23 (x := 500) (by decide) ?_
  refine n_newa (t := 0) (N' := 500) (a0 := (500, .inl (fun _ => 0))) d_O_init_26 gw_ac_int rfl (fun _ _ h => h) (fun _ => rfl) (by decide) (by decide) (by decide) (by decide) (by decide) (fun q26 => ?_)
  refine n_put (q0 := 0) (ws' := [(h0, .inr (7, [.null, .null, .ref q8, .ref q17, .ref q26, .null, .null, .int 0, .int 0, .int 0])), (q8, .inl (v.2.1 1, 500, .inr (.inl (fun _ => 0)))), (q17, .inl (v.2.1 0, 500, .inl (fun _ => 0))), (q26, .inl (v.2.1 0, 500, .inl (fun _ => 0)))]) d_O_init_28 fi_O_19 rfl rfl rfl (Nat.le_of_ble_eq_true rfl) rfl ?_
  refine n_aload d_O_init_31 0 rfl rfl ?_
  refine n_iconst d_O_init_32 (x := 4) (by decide) ?_
  refine n_newa (t := 1) (N' := 4) (a0 := (4, .inr (.inl (fun _ => 0)))) d_O_init_33 gw_ac_long rfl (fun _ _ h => h) (fun _ => rfl) (by decide) (by decide) (by decide) (by decide) (by decide) (fun q33 => ?_)
  refine n_put (q0 := 0) (ws' := [(h0, .inr (7, [.null, .null, .ref q8, .ref q17, .ref q26, .ref q33, .null, .int 0, .int 0, .int 0])), (q8, .inl (v.2.1 1, 500, .inr (.inl (fun _ => 0)))), (q17, .inl (v.2.1 0, 500, .inl (fun _ => 0))), (q26, .inl (v.2.1 0, 500, .inl (fun _ => 0))), (q33, .inl (v.2.1 1, 4, .inr (.inl (fun _ => 0))))]) d_O_init_35 fi_O_22 rfl rfl rfl (Nat.le_of_ble_eq_true rfl) rfl ?_
  refine n_aload d_O_init_38 0 rfl rfl ?_
  refine n_sipush d_O_init_39 (x := 500) (by decide) ?_
  refine n_newa (t := 0) (N' := 500) (a0 := (500, .inl (fun _ => 0))) d_O_init_42 gw_ac_int rfl (fun _ _ h => h) (fun _ => rfl) (by decide) (by decide) (by decide) (by decide) (by decide) (fun q42 => ?_)
  refine n_put (q0 := 0) (ws' := [(h0, .inr (7, [.null, .null, .ref q8, .ref q17, .ref q26, .ref q33, .ref q42, .int 0, .int 0, .int 0])), (q8, .inl (v.2.1 1, 500, .inr (.inl (fun _ => 0)))), (q17, .inl (v.2.1 0, 500, .inl (fun _ => 0))), (q26, .inl (v.2.1 0, 500, .inl (fun _ => 0))), (q33, .inl (v.2.1 1, 4, .inr (.inl (fun _ => 0)))), (q42, .inl (v.2.1 0, 500, .inl (fun _ => 0)))]) d_O_init_44 fi_O_25 rfl rfl rfl (Nat.le_of_ble_eq_true rfl) rfl ?_
  refine n_aload d_O_init_47 0 rfl rfl ?_
  refine n_iconst d_O_init_48 (x := 0) (by decide) ?_
  refine n_put (q0 := 0) (ws' := [(h0, .inr (7, [.null, .null, .ref q8, .ref q17, .ref q26, .ref q33, .ref q42, .int 0, .int 0, .int 0])), (q8, .inl (v.2.1 1, 500, .inr (.inl (fun _ => 0)))), (q17, .inl (v.2.1 0, 500, .inl (fun _ => 0))), (q26, .inl (v.2.1 0, 500, .inl (fun _ => 0))), (q33, .inl (v.2.1 1, 4, .inr (.inl (fun _ => 0)))), (q42, .inl (v.2.1 0, 500, .inl (fun _ => 0)))]) d_O_init_49 fi_O_28 rfl rfl rfl (Nat.le_of_ble_eq_true rfl) rfl ?_
  refine n_aload d_O_init_52 0 rfl rfl ?_
  refine n_iconst d_O_init_53 (x := 0) (by decide) ?_
  refine n_put (q0 := 0) (ws' := [(h0, .inr (7, [.null, .null, .ref q8, .ref q17, .ref q26, .ref q33, .ref q42, .int 0, .int 0, .int 0])), (q8, .inl (v.2.1 1, 500, .inr (.inl (fun _ => 0)))), (q17, .inl (v.2.1 0, 500, .inl (fun _ => 0))), (q26, .inl (v.2.1 0, 500, .inl (fun _ => 0))), (q33, .inl (v.2.1 1, 4, .inr (.inl (fun _ => 0)))), (q42, .inl (v.2.1 0, 500, .inl (fun _ => 0)))]) d_O_init_54 fi_O_32 rfl rfl rfl (Nat.le_of_ble_eq_true rfl) rfl ?_
  refine n_aload d_O_init_57 0 rfl rfl ?_
  refine n_iconst d_O_init_58 (x := 0) (by decide) ?_
  refine n_put (q0 := 0) (ws' := [(h0, .inr (7, [.null, .null, .ref q8, .ref q17, .ref q26, .ref q33, .ref q42, .int 0, .int 0, .int 0])), (q8, .inl (v.2.1 1, 500, .inr (.inl (fun _ => 0)))), (q17, .inl (v.2.1 0, 500, .inl (fun _ => 0))), (q26, .inl (v.2.1 0, 500, .inl (fun _ => 0))), (q33, .inl (v.2.1 1, 4, .inr (.inl (fun _ => 0)))), (q42, .inl (v.2.1 0, 500, .inl (fun _ => 0)))]) d_O_init_59 fi_O_36 rfl rfl rfl (Nat.le_of_ble_eq_true rfl) rfl ?_
  refine n_aload d_O_init_62 0 rfl rfl ?_
  refine n_aload d_O_init_63 1 rfl rfl ?_
  refine n_put (q0 := 0) (ws' := [(h0, .inr (7, [.ref a1, .null, .ref q8, .ref q17, .ref q26, .ref q33, .ref q42, .int 0, .int 0, .int 0])), (q8, .inl (v.2.1 1, 500, .inr (.inl (fun _ => 0)))), (q17, .inl (v.2.1 0, 500, .inl (fun _ => 0))), (q26, .inl (v.2.1 0, 500, .inl (fun _ => 0))), (q33, .inl (v.2.1 1, 4, .inr (.inl (fun _ => 0)))), (q42, .inl (v.2.1 0, 500, .inl (fun _ => 0)))]) d_O_init_64 fi_O_39 rfl rfl rfl (Nat.le_of_ble_eq_true rfl) rfl ?_
  refine n_aload d_O_init_67 0 rfl rfl ?_
  refine n_aload d_O_init_68 2 rfl rfl ?_
  refine n_put (q0 := 0) (ws' := [(h0, .inr (7, [.ref a1, .ref a2, .ref q8, .ref q17, .ref q26, .ref q33, .ref q42, .int 0, .int 0, .int 0])), (q8, .inl (v.2.1 1, 500, .inr (.inl (fun _ => 0)))), (q17, .inl (v.2.1 0, 500, .inl (fun _ => 0))), (q26, .inl (v.2.1 0, 500, .inl (fun _ => 0))), (q33, .inl (v.2.1 1, 4, .inr (.inl (fun _ => 0)))), (q42, .inl (v.2.1 0, 500, .inl (fun _ => 0)))]) d_O_init_69 fi_O_43 rfl rfl rfl (Nat.le_of_ble_eq_true rfl) rfl ?_
  exact n_ret (fun k => match k with | 1 => q8 | 2 => q17 | 3 => q26 | 4 => q33 | 5 => q42 | _ => 0) d_O_init_72 rfl
theorem lo_H : Cond.methodLink "LineRules$Past" 3 objectInit ∈ gw := (gw_t2 (List.mem_of_getElem? (i := 34) rfl) rfl)
theorem fi_H_9 : gFi "LineRules$Past" 9 8 2 (.array .long) := ⟨"LineRules$Past", TX8, 10, tyX8, rfl, by decide, inX8, (gw_t2 (List.mem_of_getElem? (i := 37) rfl) rfl), rfl, tyX8_ok, nmX8, rfl, by decide +kernel⟩
theorem fi_H_15 : gFi "LineRules$Past" 15 8 3 (.array .int) := ⟨"LineRules$Past", TX8, 10, tyX8, rfl, by decide, inX8, (gw_t2 (List.mem_of_getElem? (i := 38) rfl) rfl), rfl, tyX8_ok, nmX8, rfl, by decide +kernel⟩
theorem fi_H_19 : gFi "LineRules$Past" 19 8 4 (.array .long) := ⟨"LineRules$Past", TX8, 10, tyX8, rfl, by decide, inX8, (gw_t2 (List.mem_of_getElem? (i := 39) rfl) rfl), rfl, tyX8_ok, nmX8, rfl, by decide +kernel⟩
theorem fi_H_22 : gFi "LineRules$Past" 22 8 5 (.array .long) := ⟨"LineRules$Past", TX8, 10, tyX8, rfl, by decide, inX8, (gw_t2 (List.mem_of_getElem? (i := 40) rfl) rfl), rfl, tyX8_ok, nmX8, rfl, by decide +kernel⟩
theorem fi_H_25 : gFi "LineRules$Past" 25 8 6 .boolean := ⟨"LineRules$Past", TX8, 10, tyX8, rfl, by decide, inX8, (gw_t2 (List.mem_of_getElem? (i := 41) rfl) rfl), rfl, tyX8_ok, nmX8, rfl, by decide +kernel⟩
theorem fi_H_29 : gFi "LineRules$Past" 29 8 7 .boolean := ⟨"LineRules$Past", TX8, 10, tyX8, rfl, by decide, inX8, (gw_t2 (List.mem_of_getElem? (i := 42) rfl) rfl), rfl, tyX8_ok, nmX8, rfl, by decide +kernel⟩
theorem fi_H_32 : gFi "LineRules$Past" 32 8 8 .boolean := ⟨"LineRules$Past", TX8, 10, tyX8, rfl, by decide, inX8, (gw_t2 (List.mem_of_getElem? (i := 43) rfl) rfl), rfl, tyX8_ok, nmX8, rfl, by decide +kernel⟩
theorem fi_H_35 : gFi "LineRules$Past" 35 8 9 .long := ⟨"LineRules$Past", TX8, 10, tyX8, rfl, by decide, inX8, (gw_t2 (List.mem_of_getElem? (i := 44) rfl) rfl), rfl, tyX8_ok, nmX8, rfl, by decide +kernel⟩
theorem fi_H_39 : gFi "LineRules$Past" 39 8 0 (.object "LineRules$Rule") := ⟨"LineRules$Past", TX8, 10, tyX8, rfl, by decide, inX8, (gw_t2 (List.mem_of_getElem? (i := 35) rfl) rfl), rfl, tyX8_ok, nmX8, rfl, by decide +kernel⟩
theorem fi_H_43 : gFi "LineRules$Past" 43 8 1 (.object "LineRules$Ring") := ⟨"LineRules$Past", TX8, 10, tyX8, rfl, by decide, inX8, (gw_t2 (List.mem_of_getElem? (i := 36) rfl) rfl), rfl, tyX8_ok, nmX8, rfl, by decide +kernel⟩
def cw_H (v : gs_V) (h0 : Nat) (a1 a2 : Nat) (u : Nat → Nat) : va_W := [(h0, .inr (8, [.ref a1, .ref a2, .ref (u 1), .ref (u 2), .ref (u 3), .ref (u 4), .int 0, .int 0, .int 0, .long 0])), (u 1, .inl (v.2.1 1, 65, .inr (.inl (fun _ => 0)))), (u 2, .inl (v.2.1 0, 64, .inl (fun _ => 0))), (u 3, .inl (v.2.1 1, 64, .inr (.inl (fun _ => 0)))), (u 4, .inl (v.2.1 1, 64, .inr (.inl (fun _ => 0))))]
abbrev rm_H : Room := { frames := 1, cells := 4, slots := 257, locals := 12 }
theorem d_H_init_0 : decode me_H_init.2.1 0 = .ok (.aload_n 0, 1) := by decide +kernel
theorem d_H_init_1 : decode me_H_init.2.1 1 = .ok (.invokespecial 3, 3) := by decide +kernel
theorem d_H_init_4 : decode me_H_init.2.1 4 = .ok (.aload_n 0, 1) := by decide +kernel
theorem d_H_init_5 : decode me_H_init.2.1 5 = .ok (.bipush 65, 2) := by decide +kernel
theorem d_H_init_7 : decode me_H_init.2.1 7 = .ok (.newarray .long, 2) := by decide +kernel
theorem d_H_init_9 : decode me_H_init.2.1 9 = .ok (.putfield 9, 3) := by decide +kernel
theorem d_H_init_12 : decode me_H_init.2.1 12 = .ok (.aload_n 0, 1) := by decide +kernel
theorem d_H_init_13 : decode me_H_init.2.1 13 = .ok (.bipush 64, 2) := by decide +kernel
theorem d_H_init_15 : decode me_H_init.2.1 15 = .ok (.newarray .int, 2) := by decide +kernel
theorem d_H_init_17 : decode me_H_init.2.1 17 = .ok (.putfield 15, 3) := by decide +kernel
theorem d_H_init_20 : decode me_H_init.2.1 20 = .ok (.aload_n 0, 1) := by decide +kernel
theorem d_H_init_21 : decode me_H_init.2.1 21 = .ok (.bipush 64, 2) := by decide +kernel
theorem d_H_init_23 : decode me_H_init.2.1 23 = .ok (.newarray .long, 2) := by decide +kernel
theorem d_H_init_25 : decode me_H_init.2.1 25 = .ok (.putfield 19, 3) := by decide +kernel
theorem d_H_init_28 : decode me_H_init.2.1 28 = .ok (.aload_n 0, 1) := by decide +kernel
theorem d_H_init_29 : decode me_H_init.2.1 29 = .ok (.bipush 64, 2) := by decide +kernel
theorem d_H_init_31 : decode me_H_init.2.1 31 = .ok (.newarray .long, 2) := by decide +kernel
theorem d_H_init_33 : decode me_H_init.2.1 33 = .ok (.putfield 22, 3) := by decide +kernel
theorem d_H_init_36 : decode me_H_init.2.1 36 = .ok (.aload_n 0, 1) := by decide +kernel
theorem d_H_init_37 : decode me_H_init.2.1 37 = .ok (.iconst 0, 1) := by decide +kernel
theorem d_H_init_38 : decode me_H_init.2.1 38 = .ok (.putfield 25, 3) := by decide +kernel
theorem d_H_init_41 : decode me_H_init.2.1 41 = .ok (.aload_n 0, 1) := by decide +kernel
theorem d_H_init_42 : decode me_H_init.2.1 42 = .ok (.iconst 0, 1) := by decide +kernel
theorem d_H_init_43 : decode me_H_init.2.1 43 = .ok (.putfield 29, 3) := by decide +kernel
theorem d_H_init_46 : decode me_H_init.2.1 46 = .ok (.aload_n 0, 1) := by decide +kernel
theorem d_H_init_47 : decode me_H_init.2.1 47 = .ok (.iconst 0, 1) := by decide +kernel
theorem d_H_init_48 : decode me_H_init.2.1 48 = .ok (.putfield 32, 3) := by decide +kernel
theorem d_H_init_51 : decode me_H_init.2.1 51 = .ok (.aload_n 0, 1) := by decide +kernel
theorem d_H_init_52 : decode me_H_init.2.1 52 = .ok (.lconst 0, 1) := by decide +kernel
theorem d_H_init_53 : decode me_H_init.2.1 53 = .ok (.putfield 35, 3) := by decide +kernel
theorem d_H_init_56 : decode me_H_init.2.1 56 = .ok (.aload_n 0, 1) := by decide +kernel
theorem d_H_init_57 : decode me_H_init.2.1 57 = .ok (.aload_n 1, 1) := by decide +kernel
theorem d_H_init_58 : decode me_H_init.2.1 58 = .ok (.putfield 39, 3) := by decide +kernel
theorem d_H_init_61 : decode me_H_init.2.1 61 = .ok (.aload_n 0, 1) := by decide +kernel
theorem d_H_init_62 : decode me_H_init.2.1 62 = .ok (.aload_n 2, 1) := by decide +kernel
theorem d_H_init_63 : decode me_H_init.2.1 63 = .ok (.putfield 43, 3) := by decide +kernel
theorem d_H_init_66 : decode me_H_init.2.1 66 = .ok (.return_, 1) := by decide +kernel
set_option maxRecDepth 100000 in
set_option maxHeartbeats 4000000 in
theorem N_H {l : Launch} {v : gs_V} {h0 a1 a2 : Nat} : gMn l v me_H_init rm_H 4 257 [.ref h0, .ref a1, .ref a2] [(h0, .inr (8, [.null, .null, .null, .null, .null, .null, .int 0, .int 0, .int 0, .long 0]))] (cw_H v h0 a1 a2) := by
  refine gMn_of (by decide +kernel) rfl rfl (Nat.le_of_ble_eq_true rfl) ?_
  refine n_aload d_H_init_0 0 rfl rfl ?_
  refine n_obj d_H_init_1 lo_H (by decide) (by decide) ?_
  refine n_aload d_H_init_4 0 rfl rfl ?_
  refine n_bipush d_H_init_5 (x := 65) (by decide) ?_
  refine n_newa (t := 1) (N' := 65) (a0 := (65, .inr (.inl (fun _ => 0)))) d_H_init_7 gw_ac_long rfl (fun _ _ h => h) (fun _ => rfl) (by decide) (by decide) (by decide) (by decide) (by decide) (fun q7 => ?_)
  refine n_put (q0 := 0) (ws' := [(h0, .inr (8, [.null, .null, .ref q7, .null, .null, .null, .int 0, .int 0, .int 0, .long 0])), (q7, .inl (v.2.1 1, 65, .inr (.inl (fun _ => 0))))]) d_H_init_9 fi_H_9 rfl rfl rfl (Nat.le_of_ble_eq_true rfl) rfl ?_
  refine n_aload d_H_init_12 0 rfl rfl ?_
  refine n_bipush d_H_init_13 (x := 64) (by decide) ?_
  refine n_newa (t := 0) (N' := 64) (a0 := (64, .inl (fun _ => 0))) d_H_init_15 gw_ac_int rfl (fun _ _ h => h) (fun _ => rfl) (by decide) (by decide) (by decide) (by decide) (by decide) (fun q15 => ?_)
  refine n_put (q0 := 0) (ws' := [(h0, .inr (8, [.null, .null, .ref q7, .ref q15, .null, .null, .int 0, .int 0, .int 0, .long 0])), (q7, .inl (v.2.1 1, 65, .inr (.inl (fun _ => 0)))), (q15, .inl (v.2.1 0, 64, .inl (fun _ => 0)))]) d_H_init_17 fi_H_15 rfl rfl rfl (Nat.le_of_ble_eq_true rfl) rfl ?_
  refine n_aload d_H_init_20 0 rfl rfl ?_
  refine n_bipush d_H_init_21 (x := 64) (by decide) ?_
  refine n_newa (t := 1) (N' := 64) (a0 := (64, .inr (.inl (fun _ => 0)))) d_H_init_23 gw_ac_long rfl (fun _ _ h => h) (fun _ => rfl) (by decide) (by decide) (by decide) (by decide) (by decide) (fun q23 => ?_)
  refine n_put (q0 := 0) (ws' := [(h0, .inr (8, [.null, .null, .ref q7, .ref q15, .ref q23, .null, .int 0, .int 0, .int 0, .long 0])), (q7, .inl (v.2.1 1, 65, .inr (.inl (fun _ => 0)))), (q15, .inl (v.2.1 0, 64, .inl (fun _ => 0))), (q23, .inl (v.2.1 1, 64, .inr (.inl (fun _ => 0))))]) d_H_init_25 fi_H_19 rfl rfl rfl (Nat.le_of_ble_eq_true rfl) rfl ?_
  refine n_aload d_H_init_28 0 rfl rfl ?_
  refine n_bipush d_H_init_29 (x := 64) (by decide) ?_
  refine n_newa (t := 1) (N' := 64) (a0 := (64, .inr (.inl (fun _ => 0)))) d_H_init_31 gw_ac_long rfl (fun _ _ h => h) (fun _ => rfl) (by decide) (by decide) (by decide) (by decide) (by decide) (fun q31 => ?_)
  refine n_put (q0 := 0) (ws' := [(h0, .inr (8, [.null, .null, .ref q7, .ref q15, .ref q23, .ref q31, .int 0, .int 0, .int 0, .long 0])), (q7, .inl (v.2.1 1, 65, .inr (.inl (fun _ => 0)))), (q15, .inl (v.2.1 0, 64, .inl (fun _ => 0))), (q23, .inl (v.2.1 1, 64, .inr (.inl (fun _ => 0)))), (q31, .inl (v.2.1 1, 64, .inr (.inl (fun _ => 0))))]) d_H_init_33 fi_H_22 rfl rfl rfl (Nat.le_of_ble_eq_true rfl) rfl ?_
  refine n_aload d_H_init_36 0 rfl rfl ?_
  refine n_iconst d_H_init_37 (x := 0) (by decide) ?_
  refine n_put (q0 := 0) (ws' := [(h0, .inr (8, [.null, .null, .ref q7, .ref q15, .ref q23, .ref q31, .int 0, .int 0, .int 0, .long 0])), (q7, .inl (v.2.1 1, 65, .inr (.inl (fun _ => 0)))), (q15, .inl (v.2.1 0, 64, .inl (fun _ => 0))), (q23, .inl (v.2.1 1, 64, .inr (.inl (fun _ => 0)))), (q31, .inl (v.2.1 1, 64, .inr (.inl (fun _ => 0))))]) d_H_init_38 fi_H_25 rfl rfl rfl (Nat.le_of_ble_eq_true rfl) rfl ?_
  refine n_aload d_H_init_41 0 rfl rfl ?_
  refine n_iconst d_H_init_42 (x := 0) (by decide) ?_
  refine n_put (q0 := 0) (ws' := [(h0, .inr (8, [.null, .null, .ref q7, .ref q15, .ref q23, .ref q31, .int 0, .int 0, .int 0, .long 0])), (q7, .inl (v.2.1 1, 65, .inr (.inl (fun _ => 0)))), (q15, .inl (v.2.1 0, 64, .inl (fun _ => 0))), (q23, .inl (v.2.1 1, 64, .inr (.inl (fun _ => 0)))), (q31, .inl (v.2.1 1, 64, .inr (.inl (fun _ => 0))))]) d_H_init_43 fi_H_29 rfl rfl rfl (Nat.le_of_ble_eq_true rfl) rfl ?_
  refine n_aload d_H_init_46 0 rfl rfl ?_
  refine n_iconst d_H_init_47 (x := 0) (by decide) ?_
  refine n_put (q0 := 0) (ws' := [(h0, .inr (8, [.null, .null, .ref q7, .ref q15, .ref q23, .ref q31, .int 0, .int 0, .int 0, .long 0])), (q7, .inl (v.2.1 1, 65, .inr (.inl (fun _ => 0)))), (q15, .inl (v.2.1 0, 64, .inl (fun _ => 0))), (q23, .inl (v.2.1 1, 64, .inr (.inl (fun _ => 0)))), (q31, .inl (v.2.1 1, 64, .inr (.inl (fun _ => 0))))]) d_H_init_48 fi_H_32 rfl rfl rfl (Nat.le_of_ble_eq_true rfl) rfl ?_
  refine n_aload d_H_init_51 0 rfl rfl ?_
  refine n_lconst d_H_init_52 (x := 0) (by decide) ?_
  refine n_put (q0 := 0) (ws' := [(h0, .inr (8, [.null, .null, .ref q7, .ref q15, .ref q23, .ref q31, .int 0, .int 0, .int 0, .long 0])), (q7, .inl (v.2.1 1, 65, .inr (.inl (fun _ => 0)))), (q15, .inl (v.2.1 0, 64, .inl (fun _ => 0))), (q23, .inl (v.2.1 1, 64, .inr (.inl (fun _ => 0)))), (q31, .inl (v.2.1 1, 64, .inr (.inl (fun _ => 0))))]) d_H_init_53 fi_H_35 rfl rfl rfl (Nat.le_of_ble_eq_true rfl) rfl ?_
  refine n_aload d_H_init_56 0 rfl rfl ?_
  refine n_aload d_H_init_57 1 rfl rfl ?_
  refine n_put (q0 := 0) (ws' := [(h0, .inr (8, [.ref a1, .null, .ref q7, .ref q15, .ref q23, .ref q31, .int 0, .int 0, .int 0, .long 0])), (q7, .inl (v.2.1 1, 65, .inr (.inl (fun _ => 0)))), (q15, .inl (v.2.1 0, 64, .inl (fun _ => 0))), (q23, .inl (v.2.1 1, 64, .inr (.inl (fun _ => 0)))), (q31, .inl (v.2.1 1, 64, .inr (.inl (fun _ => 0))))]) d_H_init_58 fi_H_39 rfl rfl rfl (Nat.le_of_ble_eq_true rfl) rfl ?_
  refine n_aload d_H_init_61 0 rfl rfl ?_
  refine n_aload d_H_init_62 2 rfl rfl ?_
  refine n_put (q0 := 0) (ws' := [(h0, .inr (8, [.ref a1, .ref a2, .ref q7, .ref q15, .ref q23, .ref q31, .int 0, .int 0, .int 0, .long 0])), (q7, .inl (v.2.1 1, 65, .inr (.inl (fun _ => 0)))), (q15, .inl (v.2.1 0, 64, .inl (fun _ => 0))), (q23, .inl (v.2.1 1, 64, .inr (.inl (fun _ => 0)))), (q31, .inl (v.2.1 1, 64, .inr (.inl (fun _ => 0))))]) d_H_init_63 fi_H_43 rfl rfl rfl (Nat.le_of_ble_eq_true rfl) rfl ?_
  exact n_ret (fun k => match k with | 1 => q7 | 2 => q15 | 3 => q23 | 4 => q31 | _ => 0) d_H_init_66 rfl
theorem lo_M : Cond.methodLink "LineRulesModel" 1 objectInit ∈ gw := (gw_t4 (List.mem_of_getElem? (i := 61) rfl) rfl)
theorem fi_M_7 : gFi "LineRulesModel" 7 9 1 (.array .int) := ⟨"LineRulesModel", TX9, 54, tyX9, rfl, by decide, inX9, (gw_t4 (List.mem_of_getElem? (i := 63) rfl) rfl), rfl, tyX9_ok, nmX9, rfl, by decide +kernel⟩
theorem fi_M_13 : gFi "LineRulesModel" 13 9 6 (.array .int) := ⟨"LineRulesModel", TX9, 54, tyX9, rfl, by decide, inX9, (gw_t4 (List.mem_of_getElem? (i := 68) rfl) rfl), rfl, tyX9_ok, nmX9, rfl, by decide +kernel⟩
theorem fi_M_16 : gFi "LineRulesModel" 16 9 7 .int := ⟨"LineRulesModel", TX9, 54, tyX9, rfl, by decide, inX9, (gw_t4 (List.mem_of_getElem? (i := 69) rfl) rfl), rfl, tyX9_ok, nmX9, rfl, by decide +kernel⟩
theorem fi_M_20 : gFi "LineRulesModel" 20 9 8 (.array .int) := ⟨"LineRulesModel", TX9, 54, tyX9, rfl, by decide, inX9, (gw_t4 (List.mem_of_getElem? (i := 70) rfl) rfl), rfl, tyX9_ok, nmX9, rfl, by decide +kernel⟩
theorem fi_M_23 : gFi "LineRulesModel" 23 9 9 (.array .int) := ⟨"LineRulesModel", TX9, 54, tyX9, rfl, by decide, inX9, (gw_t4 (List.mem_of_getElem? (i := 71) rfl) rfl), rfl, tyX9_ok, nmX9, rfl, by decide +kernel⟩
theorem fi_M_26 : gFi "LineRulesModel" 26 9 14 (.array .int) := ⟨"LineRulesModel", TX9, 54, tyX9, rfl, by decide, inX9, (gw_t4 (List.mem_of_getElem? (i := 76) rfl) rfl), rfl, tyX9_ok, nmX9, rfl, by decide +kernel⟩
theorem fi_M_29 : gFi "LineRulesModel" 29 9 15 (.array .int) := ⟨"LineRulesModel", TX9, 54, tyX9, rfl, by decide, inX9, (gw_t4 (List.mem_of_getElem? (i := 77) rfl) rfl), rfl, tyX9_ok, nmX9, rfl, by decide +kernel⟩
theorem fi_M_32 : gFi "LineRulesModel" 32 9 16 (.array .int) := ⟨"LineRulesModel", TX9, 54, tyX9, rfl, by decide, inX9, (gw_t4 (List.mem_of_getElem? (i := 78) rfl) rfl), rfl, tyX9_ok, nmX9, rfl, by decide +kernel⟩
theorem fi_M_35 : gFi "LineRulesModel" 35 9 17 (.array .int) := ⟨"LineRulesModel", TX9, 54, tyX9, rfl, by decide, inX9, (gw_t4 (List.mem_of_getElem? (i := 79) rfl) rfl), rfl, tyX9_ok, nmX9, rfl, by decide +kernel⟩
theorem fi_M_38 : gFi "LineRulesModel" 38 9 18 (.array .int) := ⟨"LineRulesModel", TX9, 54, tyX9, rfl, by decide, inX9, (gw_t4 (List.mem_of_getElem? (i := 80) rfl) rfl), rfl, tyX9_ok, nmX9, rfl, by decide +kernel⟩
theorem fi_M_41 : gFi "LineRulesModel" 41 9 19 (.array .boolean) := ⟨"LineRulesModel", TX9, 54, tyX9, rfl, by decide, inX9, (gw_t4 (List.mem_of_getElem? (i := 81) rfl) rfl), rfl, tyX9_ok, nmX9, rfl, by decide +kernel⟩
theorem fi_M_45 : gFi "LineRulesModel" 45 9 20 (.array .int) := ⟨"LineRulesModel", TX9, 54, tyX9, rfl, by decide, inX9, (gw_t4 (List.mem_of_getElem? (i := 82) rfl) rfl), rfl, tyX9_ok, nmX9, rfl, by decide +kernel⟩
theorem fi_M_48 : gFi "LineRulesModel" 48 9 21 (.array .int) := ⟨"LineRulesModel", TX9, 54, tyX9, rfl, by decide, inX9, (gw_t4 (List.mem_of_getElem? (i := 83) rfl) rfl), rfl, tyX9_ok, nmX9, rfl, by decide +kernel⟩
theorem fi_M_51 : gFi "LineRulesModel" 51 9 22 (.array .int) := ⟨"LineRulesModel", TX9, 54, tyX9, rfl, by decide, inX9, (gw_t4 (List.mem_of_getElem? (i := 84) rfl) rfl), rfl, tyX9_ok, nmX9, rfl, by decide +kernel⟩
theorem fi_M_54 : gFi "LineRulesModel" 54 9 23 (.array .int) := ⟨"LineRulesModel", TX9, 54, tyX9, rfl, by decide, inX9, (gw_t4 (List.mem_of_getElem? (i := 85) rfl) rfl), rfl, tyX9_ok, nmX9, rfl, by decide +kernel⟩
theorem fi_M_57 : gFi "LineRulesModel" 57 9 24 (.array .int) := ⟨"LineRulesModel", TX9, 54, tyX9, rfl, by decide, inX9, (gw_t4 (List.mem_of_getElem? (i := 86) rfl) rfl), rfl, tyX9_ok, nmX9, rfl, by decide +kernel⟩
theorem fi_M_60 : gFi "LineRulesModel" 60 9 25 (.array .boolean) := ⟨"LineRulesModel", TX9, 54, tyX9, rfl, by decide, inX9, (gw_t4 (List.mem_of_getElem? (i := 87) rfl) rfl), rfl, tyX9_ok, nmX9, rfl, by decide +kernel⟩
theorem fi_M_63 : gFi "LineRulesModel" 63 9 26 (.array .int) := ⟨"LineRulesModel", TX9, 54, tyX9, rfl, by decide, inX9, (gw_t4 (List.mem_of_getElem? (i := 88) rfl) rfl), rfl, tyX9_ok, nmX9, rfl, by decide +kernel⟩
theorem fi_M_66 : gFi "LineRulesModel" 66 9 27 (.array .boolean) := ⟨"LineRulesModel", TX9, 54, tyX9, rfl, by decide, inX9, (gw_t4 (List.mem_of_getElem? (i := 89) rfl) rfl), rfl, tyX9_ok, nmX9, rfl, by decide +kernel⟩
theorem fi_M_69 : gFi "LineRulesModel" 69 9 30 (.array .boolean) := ⟨"LineRulesModel", TX9, 54, tyX9, rfl, by decide, inX9, (gw_t4 (List.mem_of_getElem? (i := 92) rfl) rfl), rfl, tyX9_ok, nmX9, rfl, by decide +kernel⟩
theorem fi_M_72 : gFi "LineRulesModel" 72 9 34 (.array .int) := ⟨"LineRulesModel", TX9, 54, tyX9, rfl, by decide, inX9, (gw_t4 (List.mem_of_getElem? (i := 96) rfl) rfl), rfl, tyX9_ok, nmX9, rfl, by decide +kernel⟩
theorem fi_M_75 : gFi "LineRulesModel" 75 9 37 (.array .int) := ⟨"LineRulesModel", TX9, 54, tyX9, rfl, by decide, inX9, (gw_t4 (List.mem_of_getElem? (i := 99) rfl) rfl), rfl, tyX9_ok, nmX9, rfl, by decide +kernel⟩
theorem fi_M_78 : gFi "LineRulesModel" 78 9 38 (.array .boolean) := ⟨"LineRulesModel", TX9, 54, tyX9, rfl, by decide, inX9, (gw_t4 (List.mem_of_getElem? (i := 100) rfl) rfl), rfl, tyX9_ok, nmX9, rfl, by decide +kernel⟩
theorem fi_M_81 : gFi "LineRulesModel" 81 9 39 (.array .long) := ⟨"LineRulesModel", TX9, 54, tyX9, rfl, by decide, inX9, (gw_t4 (List.mem_of_getElem? (i := 101) rfl) rfl), rfl, tyX9_ok, nmX9, rfl, by decide +kernel⟩
theorem fi_M_85 : gFi "LineRulesModel" 85 9 40 (.array .long) := ⟨"LineRulesModel", TX9, 54, tyX9, rfl, by decide, inX9, (gw_t4 (List.mem_of_getElem? (i := 102) rfl) rfl), rfl, tyX9_ok, nmX9, rfl, by decide +kernel⟩
theorem fi_M_88 : gFi "LineRulesModel" 88 9 43 (.array .int) := ⟨"LineRulesModel", TX9, 54, tyX9, rfl, by decide, inX9, (gw_t4 (List.mem_of_getElem? (i := 105) rfl) rfl), rfl, tyX9_ok, nmX9, rfl, by decide +kernel⟩
theorem fi_M_91 : gFi "LineRulesModel" 91 9 44 (.array .long) := ⟨"LineRulesModel", TX9, 54, tyX9, rfl, by decide, inX9, (gw_t4 (List.mem_of_getElem? (i := 106) rfl) rfl), rfl, tyX9_ok, nmX9, rfl, by decide +kernel⟩
theorem fi_M_94 : gFi "LineRulesModel" 94 9 45 (.array .int) := ⟨"LineRulesModel", TX9, 54, tyX9, rfl, by decide, inX9, (gw_t4 (List.mem_of_getElem? (i := 107) rfl) rfl), rfl, tyX9_ok, nmX9, rfl, by decide +kernel⟩
theorem fi_M_97 : gFi "LineRulesModel" 97 9 46 (.array .int) := ⟨"LineRulesModel", TX9, 54, tyX9, rfl, by decide, inX9, (gw_t4 (List.mem_of_getElem? (i := 108) rfl) rfl), rfl, tyX9_ok, nmX9, rfl, by decide +kernel⟩
theorem fi_M_100 : gFi "LineRulesModel" 100 9 50 (.array .int) := ⟨"LineRulesModel", TX9, 54, tyX9, rfl, by decide, inX9, (gw_t4 (List.mem_of_getElem? (i := 112) rfl) rfl), rfl, tyX9_ok, nmX9, rfl, by decide +kernel⟩
theorem fi_M_103 : gFi "LineRulesModel" 103 9 51 (.array .long) := ⟨"LineRulesModel", TX9, 54, tyX9, rfl, by decide, inX9, (gw_t4 (List.mem_of_getElem? (i := 113) rfl) rfl), rfl, tyX9_ok, nmX9, rfl, by decide +kernel⟩
theorem fi_M_106 : gFi "LineRulesModel" 106 9 52 (.array .long) := ⟨"LineRulesModel", TX9, 54, tyX9, rfl, by decide, inX9, (gw_t4 (List.mem_of_getElem? (i := 114) rfl) rfl), rfl, tyX9_ok, nmX9, rfl, by decide +kernel⟩
theorem fi_M_109 : gFi "LineRulesModel" 109 9 53 (.array .long) := ⟨"LineRulesModel", TX9, 54, tyX9, rfl, by decide, inX9, (gw_t4 (List.mem_of_getElem? (i := 115) rfl) rfl), rfl, tyX9_ok, nmX9, rfl, by decide +kernel⟩
abbrev rm_M : Room := { frames := 1, cells := 32, slots := 7965, locals := 12 }
theorem d_M_init_0 : decode me_M_init.2.1 0 = .ok (.aload_n 0, 1) := by decide +kernel
theorem d_M_init_1 : decode me_M_init.2.1 1 = .ok (.invokespecial 1, 3) := by decide +kernel
theorem d_M_init_4 : decode me_M_init.2.1 4 = .ok (.aload_n 0, 1) := by decide +kernel
theorem d_M_init_5 : decode me_M_init.2.1 5 = .ok (.bipush 64, 2) := by decide +kernel
theorem d_M_init_7 : decode me_M_init.2.1 7 = .ok (.newarray .int, 2) := by decide +kernel
theorem d_M_init_9 : decode me_M_init.2.1 9 = .ok (.putfield 7, 3) := by decide +kernel
theorem d_M_init_12 : decode me_M_init.2.1 12 = .ok (.aload_n 0, 1) := by decide +kernel
theorem d_M_init_13 : decode me_M_init.2.1 13 = .ok (.sipush 256, 3) := by decide +kernel
theorem d_M_init_16 : decode me_M_init.2.1 16 = .ok (.newarray .int, 2) := by decide +kernel
theorem d_M_init_18 : decode me_M_init.2.1 18 = .ok (.putfield 13, 3) := by decide +kernel
theorem d_M_init_21 : decode me_M_init.2.1 21 = .ok (.aload_n 0, 1) := by decide +kernel
theorem d_M_init_22 : decode me_M_init.2.1 22 = .ok (.iconst 1, 1) := by decide +kernel
theorem d_M_init_23 : decode me_M_init.2.1 23 = .ok (.putfield 16, 3) := by decide +kernel
theorem d_M_init_26 : decode me_M_init.2.1 26 = .ok (.aload_n 0, 1) := by decide +kernel
theorem d_M_init_27 : decode me_M_init.2.1 27 = .ok (.bipush 64, 2) := by decide +kernel
theorem d_M_init_29 : decode me_M_init.2.1 29 = .ok (.newarray .int, 2) := by decide +kernel
theorem d_M_init_31 : decode me_M_init.2.1 31 = .ok (.putfield 20, 3) := by decide +kernel
theorem d_M_init_34 : decode me_M_init.2.1 34 = .ok (.aload_n 0, 1) := by decide +kernel
theorem d_M_init_35 : decode me_M_init.2.1 35 = .ok (.bipush 64, 2) := by decide +kernel
theorem d_M_init_37 : decode me_M_init.2.1 37 = .ok (.newarray .int, 2) := by decide +kernel
theorem d_M_init_39 : decode me_M_init.2.1 39 = .ok (.putfield 23, 3) := by decide +kernel
theorem d_M_init_42 : decode me_M_init.2.1 42 = .ok (.aload_n 0, 1) := by decide +kernel
theorem d_M_init_43 : decode me_M_init.2.1 43 = .ok (.bipush 6, 2) := by decide +kernel
theorem d_M_init_45 : decode me_M_init.2.1 45 = .ok (.newarray .int, 2) := by decide +kernel
theorem d_M_init_47 : decode me_M_init.2.1 47 = .ok (.putfield 26, 3) := by decide +kernel
theorem d_M_init_50 : decode me_M_init.2.1 50 = .ok (.aload_n 0, 1) := by decide +kernel
theorem d_M_init_51 : decode me_M_init.2.1 51 = .ok (.bipush 6, 2) := by decide +kernel
theorem d_M_init_53 : decode me_M_init.2.1 53 = .ok (.newarray .int, 2) := by decide +kernel
theorem d_M_init_55 : decode me_M_init.2.1 55 = .ok (.putfield 29, 3) := by decide +kernel
theorem d_M_init_58 : decode me_M_init.2.1 58 = .ok (.aload_n 0, 1) := by decide +kernel
theorem d_M_init_59 : decode me_M_init.2.1 59 = .ok (.bipush 6, 2) := by decide +kernel
theorem d_M_init_61 : decode me_M_init.2.1 61 = .ok (.newarray .int, 2) := by decide +kernel
theorem d_M_init_63 : decode me_M_init.2.1 63 = .ok (.putfield 32, 3) := by decide +kernel
theorem d_M_init_66 : decode me_M_init.2.1 66 = .ok (.aload_n 0, 1) := by decide +kernel
theorem d_M_init_67 : decode me_M_init.2.1 67 = .ok (.bipush 6, 2) := by decide +kernel
theorem d_M_init_69 : decode me_M_init.2.1 69 = .ok (.newarray .int, 2) := by decide +kernel
theorem d_M_init_71 : decode me_M_init.2.1 71 = .ok (.putfield 35, 3) := by decide +kernel
theorem d_M_init_74 : decode me_M_init.2.1 74 = .ok (.aload_n 0, 1) := by decide +kernel
theorem d_M_init_75 : decode me_M_init.2.1 75 = .ok (.bipush 6, 2) := by decide +kernel
theorem d_M_init_77 : decode me_M_init.2.1 77 = .ok (.newarray .int, 2) := by decide +kernel
theorem d_M_init_79 : decode me_M_init.2.1 79 = .ok (.putfield 38, 3) := by decide +kernel
theorem d_M_init_82 : decode me_M_init.2.1 82 = .ok (.aload_n 0, 1) := by decide +kernel
theorem d_M_init_83 : decode me_M_init.2.1 83 = .ok (.bipush 6, 2) := by decide +kernel
theorem d_M_init_85 : decode me_M_init.2.1 85 = .ok (.newarray .boolean, 2) := by decide +kernel
theorem d_M_init_87 : decode me_M_init.2.1 87 = .ok (.putfield 41, 3) := by decide +kernel
theorem d_M_init_90 : decode me_M_init.2.1 90 = .ok (.aload_n 0, 1) := by decide +kernel
theorem d_M_init_91 : decode me_M_init.2.1 91 = .ok (.bipush 6, 2) := by decide +kernel
theorem d_M_init_93 : decode me_M_init.2.1 93 = .ok (.newarray .int, 2) := by decide +kernel
theorem d_M_init_95 : decode me_M_init.2.1 95 = .ok (.putfield 45, 3) := by decide +kernel
theorem d_M_init_98 : decode me_M_init.2.1 98 = .ok (.aload_n 0, 1) := by decide +kernel
theorem d_M_init_99 : decode me_M_init.2.1 99 = .ok (.bipush 6, 2) := by decide +kernel
theorem d_M_init_101 : decode me_M_init.2.1 101 = .ok (.newarray .int, 2) := by decide +kernel
theorem d_M_init_103 : decode me_M_init.2.1 103 = .ok (.putfield 48, 3) := by decide +kernel
theorem d_M_init_106 : decode me_M_init.2.1 106 = .ok (.aload_n 0, 1) := by decide +kernel
theorem d_M_init_107 : decode me_M_init.2.1 107 = .ok (.bipush 6, 2) := by decide +kernel
theorem d_M_init_109 : decode me_M_init.2.1 109 = .ok (.newarray .int, 2) := by decide +kernel
theorem d_M_init_111 : decode me_M_init.2.1 111 = .ok (.putfield 51, 3) := by decide +kernel
theorem d_M_init_114 : decode me_M_init.2.1 114 = .ok (.aload_n 0, 1) := by decide +kernel
theorem d_M_init_115 : decode me_M_init.2.1 115 = .ok (.bipush 6, 2) := by decide +kernel
theorem d_M_init_117 : decode me_M_init.2.1 117 = .ok (.newarray .int, 2) := by decide +kernel
theorem d_M_init_119 : decode me_M_init.2.1 119 = .ok (.putfield 54, 3) := by decide +kernel
theorem d_M_init_122 : decode me_M_init.2.1 122 = .ok (.aload_n 0, 1) := by decide +kernel
theorem d_M_init_123 : decode me_M_init.2.1 123 = .ok (.bipush 6, 2) := by decide +kernel
theorem d_M_init_125 : decode me_M_init.2.1 125 = .ok (.newarray .int, 2) := by decide +kernel
theorem d_M_init_127 : decode me_M_init.2.1 127 = .ok (.putfield 57, 3) := by decide +kernel
theorem d_M_init_130 : decode me_M_init.2.1 130 = .ok (.aload_n 0, 1) := by decide +kernel
theorem d_M_init_131 : decode me_M_init.2.1 131 = .ok (.bipush 6, 2) := by decide +kernel
theorem d_M_init_133 : decode me_M_init.2.1 133 = .ok (.newarray .boolean, 2) := by decide +kernel
theorem d_M_init_135 : decode me_M_init.2.1 135 = .ok (.putfield 60, 3) := by decide +kernel
theorem d_M_init_138 : decode me_M_init.2.1 138 = .ok (.aload_n 0, 1) := by decide +kernel
theorem d_M_init_139 : decode me_M_init.2.1 139 = .ok (.bipush 6, 2) := by decide +kernel
theorem d_M_init_141 : decode me_M_init.2.1 141 = .ok (.newarray .int, 2) := by decide +kernel
theorem d_M_init_143 : decode me_M_init.2.1 143 = .ok (.putfield 63, 3) := by decide +kernel
theorem d_M_init_146 : decode me_M_init.2.1 146 = .ok (.aload_n 0, 1) := by decide +kernel
theorem d_M_init_147 : decode me_M_init.2.1 147 = .ok (.bipush 6, 2) := by decide +kernel
theorem d_M_init_149 : decode me_M_init.2.1 149 = .ok (.newarray .boolean, 2) := by decide +kernel
theorem d_M_init_151 : decode me_M_init.2.1 151 = .ok (.putfield 66, 3) := by decide +kernel
theorem d_M_init_154 : decode me_M_init.2.1 154 = .ok (.aload_n 0, 1) := by decide +kernel
theorem d_M_init_155 : decode me_M_init.2.1 155 = .ok (.sipush 4096, 3) := by decide +kernel
theorem d_M_init_158 : decode me_M_init.2.1 158 = .ok (.newarray .boolean, 2) := by decide +kernel
theorem d_M_init_160 : decode me_M_init.2.1 160 = .ok (.putfield 69, 3) := by decide +kernel
theorem d_M_init_163 : decode me_M_init.2.1 163 = .ok (.aload_n 0, 1) := by decide +kernel
theorem d_M_init_164 : decode me_M_init.2.1 164 = .ok (.sipush 1024, 3) := by decide +kernel
theorem d_M_init_167 : decode me_M_init.2.1 167 = .ok (.newarray .int, 2) := by decide +kernel
theorem d_M_init_169 : decode me_M_init.2.1 169 = .ok (.putfield 72, 3) := by decide +kernel
theorem d_M_init_172 : decode me_M_init.2.1 172 = .ok (.aload_n 0, 1) := by decide +kernel
theorem d_M_init_173 : decode me_M_init.2.1 173 = .ok (.bipush 16, 2) := by decide +kernel
theorem d_M_init_175 : decode me_M_init.2.1 175 = .ok (.newarray .int, 2) := by decide +kernel
theorem d_M_init_177 : decode me_M_init.2.1 177 = .ok (.putfield 75, 3) := by decide +kernel
theorem d_M_init_180 : decode me_M_init.2.1 180 = .ok (.aload_n 0, 1) := by decide +kernel
theorem d_M_init_181 : decode me_M_init.2.1 181 = .ok (.iconst 4, 1) := by decide +kernel
theorem d_M_init_182 : decode me_M_init.2.1 182 = .ok (.newarray .boolean, 2) := by decide +kernel
theorem d_M_init_184 : decode me_M_init.2.1 184 = .ok (.putfield 78, 3) := by decide +kernel
theorem d_M_init_187 : decode me_M_init.2.1 187 = .ok (.aload_n 0, 1) := by decide +kernel
theorem d_M_init_188 : decode me_M_init.2.1 188 = .ok (.bipush 16, 2) := by decide +kernel
theorem d_M_init_190 : decode me_M_init.2.1 190 = .ok (.newarray .long, 2) := by decide +kernel
theorem d_M_init_192 : decode me_M_init.2.1 192 = .ok (.putfield 81, 3) := by decide +kernel
theorem d_M_init_195 : decode me_M_init.2.1 195 = .ok (.aload_n 0, 1) := by decide +kernel
theorem d_M_init_196 : decode me_M_init.2.1 196 = .ok (.iconst 4, 1) := by decide +kernel
theorem d_M_init_197 : decode me_M_init.2.1 197 = .ok (.newarray .long, 2) := by decide +kernel
theorem d_M_init_199 : decode me_M_init.2.1 199 = .ok (.putfield 85, 3) := by decide +kernel
theorem d_M_init_202 : decode me_M_init.2.1 202 = .ok (.aload_n 0, 1) := by decide +kernel
theorem d_M_init_203 : decode me_M_init.2.1 203 = .ok (.sipush 512, 3) := by decide +kernel
theorem d_M_init_206 : decode me_M_init.2.1 206 = .ok (.newarray .int, 2) := by decide +kernel
theorem d_M_init_208 : decode me_M_init.2.1 208 = .ok (.putfield 88, 3) := by decide +kernel
theorem d_M_init_211 : decode me_M_init.2.1 211 = .ok (.aload_n 0, 1) := by decide +kernel
theorem d_M_init_212 : decode me_M_init.2.1 212 = .ok (.sipush 500, 3) := by decide +kernel
theorem d_M_init_215 : decode me_M_init.2.1 215 = .ok (.newarray .long, 2) := by decide +kernel
theorem d_M_init_217 : decode me_M_init.2.1 217 = .ok (.putfield 91, 3) := by decide +kernel
theorem d_M_init_220 : decode me_M_init.2.1 220 = .ok (.aload_n 0, 1) := by decide +kernel
theorem d_M_init_221 : decode me_M_init.2.1 221 = .ok (.sipush 500, 3) := by decide +kernel
theorem d_M_init_224 : decode me_M_init.2.1 224 = .ok (.newarray .int, 2) := by decide +kernel
theorem d_M_init_226 : decode me_M_init.2.1 226 = .ok (.putfield 94, 3) := by decide +kernel
theorem d_M_init_229 : decode me_M_init.2.1 229 = .ok (.aload_n 0, 1) := by decide +kernel
theorem d_M_init_230 : decode me_M_init.2.1 230 = .ok (.sipush 500, 3) := by decide +kernel
theorem d_M_init_233 : decode me_M_init.2.1 233 = .ok (.newarray .int, 2) := by decide +kernel
theorem d_M_init_235 : decode me_M_init.2.1 235 = .ok (.putfield 97, 3) := by decide +kernel
theorem d_M_init_238 : decode me_M_init.2.1 238 = .ok (.aload_n 0, 1) := by decide +kernel
theorem d_M_init_239 : decode me_M_init.2.1 239 = .ok (.bipush 68, 2) := by decide +kernel
theorem d_M_init_241 : decode me_M_init.2.1 241 = .ok (.newarray .int, 2) := by decide +kernel
theorem d_M_init_243 : decode me_M_init.2.1 243 = .ok (.putfield 100, 3) := by decide +kernel
theorem d_M_init_246 : decode me_M_init.2.1 246 = .ok (.aload_n 0, 1) := by decide +kernel
theorem d_M_init_247 : decode me_M_init.2.1 247 = .ok (.bipush 64, 2) := by decide +kernel
theorem d_M_init_249 : decode me_M_init.2.1 249 = .ok (.newarray .long, 2) := by decide +kernel
theorem d_M_init_251 : decode me_M_init.2.1 251 = .ok (.putfield 103, 3) := by decide +kernel
theorem d_M_init_254 : decode me_M_init.2.1 254 = .ok (.aload_n 0, 1) := by decide +kernel
theorem d_M_init_255 : decode me_M_init.2.1 255 = .ok (.bipush 64, 2) := by decide +kernel
theorem d_M_init_257 : decode me_M_init.2.1 257 = .ok (.newarray .long, 2) := by decide +kernel
theorem d_M_init_259 : decode me_M_init.2.1 259 = .ok (.putfield 106, 3) := by decide +kernel
theorem d_M_init_262 : decode me_M_init.2.1 262 = .ok (.aload_n 0, 1) := by decide +kernel
theorem d_M_init_263 : decode me_M_init.2.1 263 = .ok (.bipush 65, 2) := by decide +kernel
theorem d_M_init_265 : decode me_M_init.2.1 265 = .ok (.newarray .long, 2) := by decide +kernel
theorem d_M_init_267 : decode me_M_init.2.1 267 = .ok (.putfield 109, 3) := by decide +kernel
theorem d_M_init_270 : decode me_M_init.2.1 270 = .ok (.return_, 1) := by decide +kernel
set_option maxRecDepth 100000 in
set_option maxHeartbeats 4000000 in
def gs_ad (h0 : Nat) (u : Nat → Nat) : Nat → Nat := fun k => if k = 0 then h0 else u k
def sgM : gs_S := (fun k => if k = 0 then (fun j => if j = 7 then 1 else 0) else fun _ => 0, fun _ => fun _ => 0, fun _ => fun _ => 0)
set_option maxRecDepth 100000 in
set_option maxHeartbeats 4000000 in
theorem N_M {l : Launch} {v : gs_V} {h0 : Nat} : gMn l v me_M_init rm_M 32 7965 [.ref h0] [(h0, .inr (9, [.int 0, .null, .int 0, .int 0, .int 0, .int 0, .null, .int 0, .null, .null, .int 0, .int 0, .int 0, .int 0, .null, .null, .null, .null, .null, .null, .null, .null, .null, .null, .null, .null, .null, .null, .int 0, .int 0, .null, .int 0, .int 0, .int 0, .null, .int 0, .int 0, .null, .null, .null, .null, .int 0, .int 0, .null, .null, .null, .null, .int 0, .int 0, .long 0, .null, .null, .null, .null]))] (fun u => gs_w (v.1, v.2.1, gs_ad h0 u) lyM 33 sgM) := by
  refine gMn_of (by decide +kernel) rfl rfl (Nat.le_of_ble_eq_true rfl) ?_
  refine n_aload d_M_init_0 0 rfl rfl ?_
  refine n_obj d_M_init_1 lo_M (by decide) (by decide) ?_
  refine n_aload d_M_init_4 0 rfl rfl ?_
  refine n_bipush d_M_init_5 (x := 64) (by decide) ?_
  refine n_newa (t := 0) (N' := 64) (a0 := (64, .inl (fun _ => 0))) d_M_init_7 gw_ac_int rfl (fun _ _ h => h) (fun _ => rfl) (by decide) (by decide) (by decide) (by decide) (by decide) (fun q7 => ?_)
  refine n_put (q0 := 0) (ws' := [(h0, .inr (9, [.int 0, .ref q7, .int 0, .int 0, .int 0, .int 0, .null, .int 0, .null, .null, .int 0, .int 0, .int 0, .int 0, .null, .null, .null, .null, .null, .null, .null, .null, .null, .null, .null, .null, .null, .null, .int 0, .int 0, .null, .int 0, .int 0, .int 0, .null, .int 0, .int 0, .null, .null, .null, .null, .int 0, .int 0, .null, .null, .null, .null, .int 0, .int 0, .long 0, .null, .null, .null, .null])), (q7, .inl (v.2.1 0, 64, .inl (fun _ => 0)))]) d_M_init_9 fi_M_7 rfl rfl rfl (Nat.le_of_ble_eq_true rfl) rfl ?_
  refine n_aload d_M_init_12 0 rfl rfl ?_
  refine n_sipush d_M_init_13 (x := 256) (by decide) ?_
  refine n_newa (t := 0) (N' := 256) (a0 := (256, .inl (fun _ => 0))) d_M_init_16 gw_ac_int rfl (fun _ _ h => h) (fun _ => rfl) (by decide) (by decide) (by decide) (by decide) (by decide) (fun q16 => ?_)
  refine n_put (q0 := 0) (ws' := [(h0, .inr (9, [.int 0, .ref q7, .int 0, .int 0, .int 0, .int 0, .ref q16, .int 0, .null, .null, .int 0, .int 0, .int 0, .int 0, .null, .null, .null, .null, .null, .null, .null, .null, .null, .null, .null, .null, .null, .null, .int 0, .int 0, .null, .int 0, .int 0, .int 0, .null, .int 0, .int 0, .null, .null, .null, .null, .int 0, .int 0, .null, .null, .null, .null, .int 0, .int 0, .long 0, .null, .null, .null, .null])), (q7, .inl (v.2.1 0, 64, .inl (fun _ => 0))), (q16, .inl (v.2.1 0, 256, .inl (fun _ => 0)))]) d_M_init_18 fi_M_13 rfl rfl rfl (Nat.le_of_ble_eq_true rfl) rfl ?_
  refine n_aload d_M_init_21 0 rfl rfl ?_
  refine n_iconst d_M_init_22 (x := 1) (by decide) ?_
  refine n_put (q0 := 0) (ws' := [(h0, .inr (9, [.int 0, .ref q7, .int 0, .int 0, .int 0, .int 0, .ref q16, .int 1, .null, .null, .int 0, .int 0, .int 0, .int 0, .null, .null, .null, .null, .null, .null, .null, .null, .null, .null, .null, .null, .null, .null, .int 0, .int 0, .null, .int 0, .int 0, .int 0, .null, .int 0, .int 0, .null, .null, .null, .null, .int 0, .int 0, .null, .null, .null, .null, .int 0, .int 0, .long 0, .null, .null, .null, .null])), (q7, .inl (v.2.1 0, 64, .inl (fun _ => 0))), (q16, .inl (v.2.1 0, 256, .inl (fun _ => 0)))]) d_M_init_23 fi_M_16 rfl rfl rfl (Nat.le_of_ble_eq_true rfl) rfl ?_
  refine n_aload d_M_init_26 0 rfl rfl ?_
  refine n_bipush d_M_init_27 (x := 64) (by decide) ?_
  refine n_newa (t := 0) (N' := 64) (a0 := (64, .inl (fun _ => 0))) d_M_init_29 gw_ac_int rfl (fun _ _ h => h) (fun _ => rfl) (by decide) (by decide) (by decide) (by decide) (by decide) (fun q29 => ?_)
  refine n_put (q0 := 0) (ws' := [(h0, .inr (9, [.int 0, .ref q7, .int 0, .int 0, .int 0, .int 0, .ref q16, .int 1, .ref q29, .null, .int 0, .int 0, .int 0, .int 0, .null, .null, .null, .null, .null, .null, .null, .null, .null, .null, .null, .null, .null, .null, .int 0, .int 0, .null, .int 0, .int 0, .int 0, .null, .int 0, .int 0, .null, .null, .null, .null, .int 0, .int 0, .null, .null, .null, .null, .int 0, .int 0, .long 0, .null, .null, .null, .null])), (q7, .inl (v.2.1 0, 64, .inl (fun _ => 0))), (q16, .inl (v.2.1 0, 256, .inl (fun _ => 0))), (q29, .inl (v.2.1 0, 64, .inl (fun _ => 0)))]) d_M_init_31 fi_M_20 rfl rfl rfl (Nat.le_of_ble_eq_true rfl) rfl ?_
  refine n_aload d_M_init_34 0 rfl rfl ?_
  refine n_bipush d_M_init_35 (x := 64) (by decide) ?_
  refine n_newa (t := 0) (N' := 64) (a0 := (64, .inl (fun _ => 0))) d_M_init_37 gw_ac_int rfl (fun _ _ h => h) (fun _ => rfl) (by decide) (by decide) (by decide) (by decide) (by decide) (fun q37 => ?_)
  refine n_put (q0 := 0) (ws' := [(h0, .inr (9, [.int 0, .ref q7, .int 0, .int 0, .int 0, .int 0, .ref q16, .int 1, .ref q29, .ref q37, .int 0, .int 0, .int 0, .int 0, .null, .null, .null, .null, .null, .null, .null, .null, .null, .null, .null, .null, .null, .null, .int 0, .int 0, .null, .int 0, .int 0, .int 0, .null, .int 0, .int 0, .null, .null, .null, .null, .int 0, .int 0, .null, .null, .null, .null, .int 0, .int 0, .long 0, .null, .null, .null, .null])), (q7, .inl (v.2.1 0, 64, .inl (fun _ => 0))), (q16, .inl (v.2.1 0, 256, .inl (fun _ => 0))), (q29, .inl (v.2.1 0, 64, .inl (fun _ => 0))), (q37, .inl (v.2.1 0, 64, .inl (fun _ => 0)))]) d_M_init_39 fi_M_23 rfl rfl rfl (Nat.le_of_ble_eq_true rfl) rfl ?_
  refine n_aload d_M_init_42 0 rfl rfl ?_
  refine n_bipush d_M_init_43 (x := 6) (by decide) ?_
  refine n_newa (t := 0) (N' := 6) (a0 := (6, .inl (fun _ => 0))) d_M_init_45 gw_ac_int rfl (fun _ _ h => h) (fun _ => rfl) (by decide) (by decide) (by decide) (by decide) (by decide) (fun q45 => ?_)
  refine n_put (q0 := 0) (ws' := [(h0, .inr (9, [.int 0, .ref q7, .int 0, .int 0, .int 0, .int 0, .ref q16, .int 1, .ref q29, .ref q37, .int 0, .int 0, .int 0, .int 0, .ref q45, .null, .null, .null, .null, .null, .null, .null, .null, .null, .null, .null, .null, .null, .int 0, .int 0, .null, .int 0, .int 0, .int 0, .null, .int 0, .int 0, .null, .null, .null, .null, .int 0, .int 0, .null, .null, .null, .null, .int 0, .int 0, .long 0, .null, .null, .null, .null])), (q7, .inl (v.2.1 0, 64, .inl (fun _ => 0))), (q16, .inl (v.2.1 0, 256, .inl (fun _ => 0))), (q29, .inl (v.2.1 0, 64, .inl (fun _ => 0))), (q37, .inl (v.2.1 0, 64, .inl (fun _ => 0))), (q45, .inl (v.2.1 0, 6, .inl (fun _ => 0)))]) d_M_init_47 fi_M_26 rfl rfl rfl (Nat.le_of_ble_eq_true rfl) rfl ?_
  refine n_aload d_M_init_50 0 rfl rfl ?_
  refine n_bipush d_M_init_51 (x := 6) (by decide) ?_
  refine n_newa (t := 0) (N' := 6) (a0 := (6, .inl (fun _ => 0))) d_M_init_53 gw_ac_int rfl (fun _ _ h => h) (fun _ => rfl) (by decide) (by decide) (by decide) (by decide) (by decide) (fun q53 => ?_)
  refine n_put (q0 := 0) (ws' := [(h0, .inr (9, [.int 0, .ref q7, .int 0, .int 0, .int 0, .int 0, .ref q16, .int 1, .ref q29, .ref q37, .int 0, .int 0, .int 0, .int 0, .ref q45, .ref q53, .null, .null, .null, .null, .null, .null, .null, .null, .null, .null, .null, .null, .int 0, .int 0, .null, .int 0, .int 0, .int 0, .null, .int 0, .int 0, .null, .null, .null, .null, .int 0, .int 0, .null, .null, .null, .null, .int 0, .int 0, .long 0, .null, .null, .null, .null])), (q7, .inl (v.2.1 0, 64, .inl (fun _ => 0))), (q16, .inl (v.2.1 0, 256, .inl (fun _ => 0))), (q29, .inl (v.2.1 0, 64, .inl (fun _ => 0))), (q37, .inl (v.2.1 0, 64, .inl (fun _ => 0))), (q45, .inl (v.2.1 0, 6, .inl (fun _ => 0))), (q53, .inl (v.2.1 0, 6, .inl (fun _ => 0)))]) d_M_init_55 fi_M_29 rfl rfl rfl (Nat.le_of_ble_eq_true rfl) rfl ?_
  refine n_aload d_M_init_58 0 rfl rfl ?_
  refine n_bipush d_M_init_59 (x := 6) (by decide) ?_
  refine n_newa (t := 0) (N' := 6) (a0 := (6, .inl (fun _ => 0))) d_M_init_61 gw_ac_int rfl (fun _ _ h => h) (fun _ => rfl) (by decide) (by decide) (by decide) (by decide) (by decide) (fun q61 => ?_)
  refine n_put (q0 := 0) (ws' := [(h0, .inr (9, [.int 0, .ref q7, .int 0, .int 0, .int 0, .int 0, .ref q16, .int 1, .ref q29, .ref q37, .int 0, .int 0, .int 0, .int 0, .ref q45, .ref q53, .ref q61, .null, .null, .null, .null, .null, .null, .null, .null, .null, .null, .null, .int 0, .int 0, .null, .int 0, .int 0, .int 0, .null, .int 0, .int 0, .null, .null, .null, .null, .int 0, .int 0, .null, .null, .null, .null, .int 0, .int 0, .long 0, .null, .null, .null, .null])), (q7, .inl (v.2.1 0, 64, .inl (fun _ => 0))), (q16, .inl (v.2.1 0, 256, .inl (fun _ => 0))), (q29, .inl (v.2.1 0, 64, .inl (fun _ => 0))), (q37, .inl (v.2.1 0, 64, .inl (fun _ => 0))), (q45, .inl (v.2.1 0, 6, .inl (fun _ => 0))), (q53, .inl (v.2.1 0, 6, .inl (fun _ => 0))), (q61, .inl (v.2.1 0, 6, .inl (fun _ => 0)))]) d_M_init_63 fi_M_32 rfl rfl rfl (Nat.le_of_ble_eq_true rfl) rfl ?_
  refine n_aload d_M_init_66 0 rfl rfl ?_
  refine n_bipush d_M_init_67 (x := 6) (by decide) ?_
  refine n_newa (t := 0) (N' := 6) (a0 := (6, .inl (fun _ => 0))) d_M_init_69 gw_ac_int rfl (fun _ _ h => h) (fun _ => rfl) (by decide) (by decide) (by decide) (by decide) (by decide) (fun q69 => ?_)
  refine n_put (q0 := 0) (ws' := [(h0, .inr (9, [.int 0, .ref q7, .int 0, .int 0, .int 0, .int 0, .ref q16, .int 1, .ref q29, .ref q37, .int 0, .int 0, .int 0, .int 0, .ref q45, .ref q53, .ref q61, .ref q69, .null, .null, .null, .null, .null, .null, .null, .null, .null, .null, .int 0, .int 0, .null, .int 0, .int 0, .int 0, .null, .int 0, .int 0, .null, .null, .null, .null, .int 0, .int 0, .null, .null, .null, .null, .int 0, .int 0, .long 0, .null, .null, .null, .null])), (q7, .inl (v.2.1 0, 64, .inl (fun _ => 0))), (q16, .inl (v.2.1 0, 256, .inl (fun _ => 0))), (q29, .inl (v.2.1 0, 64, .inl (fun _ => 0))), (q37, .inl (v.2.1 0, 64, .inl (fun _ => 0))), (q45, .inl (v.2.1 0, 6, .inl (fun _ => 0))), (q53, .inl (v.2.1 0, 6, .inl (fun _ => 0))), (q61, .inl (v.2.1 0, 6, .inl (fun _ => 0))), (q69, .inl (v.2.1 0, 6, .inl (fun _ => 0)))]) d_M_init_71 fi_M_35 rfl rfl rfl (Nat.le_of_ble_eq_true rfl) rfl ?_
  refine n_aload d_M_init_74 0 rfl rfl ?_
  refine n_bipush d_M_init_75 (x := 6) (by decide) ?_
  refine n_newa (t := 0) (N' := 6) (a0 := (6, .inl (fun _ => 0))) d_M_init_77 gw_ac_int rfl (fun _ _ h => h) (fun _ => rfl) (by decide) (by decide) (by decide) (by decide) (by decide) (fun q77 => ?_)
  refine n_put (q0 := 0) (ws' := [(h0, .inr (9, [.int 0, .ref q7, .int 0, .int 0, .int 0, .int 0, .ref q16, .int 1, .ref q29, .ref q37, .int 0, .int 0, .int 0, .int 0, .ref q45, .ref q53, .ref q61, .ref q69, .ref q77, .null, .null, .null, .null, .null, .null, .null, .null, .null, .int 0, .int 0, .null, .int 0, .int 0, .int 0, .null, .int 0, .int 0, .null, .null, .null, .null, .int 0, .int 0, .null, .null, .null, .null, .int 0, .int 0, .long 0, .null, .null, .null, .null])), (q7, .inl (v.2.1 0, 64, .inl (fun _ => 0))), (q16, .inl (v.2.1 0, 256, .inl (fun _ => 0))), (q29, .inl (v.2.1 0, 64, .inl (fun _ => 0))), (q37, .inl (v.2.1 0, 64, .inl (fun _ => 0))), (q45, .inl (v.2.1 0, 6, .inl (fun _ => 0))), (q53, .inl (v.2.1 0, 6, .inl (fun _ => 0))), (q61, .inl (v.2.1 0, 6, .inl (fun _ => 0))), (q69, .inl (v.2.1 0, 6, .inl (fun _ => 0))), (q77, .inl (v.2.1 0, 6, .inl (fun _ => 0)))]) d_M_init_79 fi_M_38 rfl rfl rfl (Nat.le_of_ble_eq_true rfl) rfl ?_
  refine n_aload d_M_init_82 0 rfl rfl ?_
  refine n_bipush d_M_init_83 (x := 6) (by decide) ?_
  refine n_newa (t := 2) (N' := 6) (a0 := (6, .inl (fun _ => 0))) d_M_init_85 gw_ac_boolean rfl (fun _ _ h => h) (fun _ => rfl) (by decide) (by decide) (by decide) (by decide) (by decide) (fun q85 => ?_)
  refine n_put (q0 := 0) (ws' := [(h0, .inr (9, [.int 0, .ref q7, .int 0, .int 0, .int 0, .int 0, .ref q16, .int 1, .ref q29, .ref q37, .int 0, .int 0, .int 0, .int 0, .ref q45, .ref q53, .ref q61, .ref q69, .ref q77, .ref q85, .null, .null, .null, .null, .null, .null, .null, .null, .int 0, .int 0, .null, .int 0, .int 0, .int 0, .null, .int 0, .int 0, .null, .null, .null, .null, .int 0, .int 0, .null, .null, .null, .null, .int 0, .int 0, .long 0, .null, .null, .null, .null])), (q7, .inl (v.2.1 0, 64, .inl (fun _ => 0))), (q16, .inl (v.2.1 0, 256, .inl (fun _ => 0))), (q29, .inl (v.2.1 0, 64, .inl (fun _ => 0))), (q37, .inl (v.2.1 0, 64, .inl (fun _ => 0))), (q45, .inl (v.2.1 0, 6, .inl (fun _ => 0))), (q53, .inl (v.2.1 0, 6, .inl (fun _ => 0))), (q61, .inl (v.2.1 0, 6, .inl (fun _ => 0))), (q69, .inl (v.2.1 0, 6, .inl (fun _ => 0))), (q77, .inl (v.2.1 0, 6, .inl (fun _ => 0))), (q85, .inl (v.2.1 2, 6, .inl (fun _ => 0)))]) d_M_init_87 fi_M_41 rfl rfl rfl (Nat.le_of_ble_eq_true rfl) rfl ?_
  refine n_aload d_M_init_90 0 rfl rfl ?_
  refine n_bipush d_M_init_91 (x := 6) (by decide) ?_
  refine n_newa (t := 0) (N' := 6) (a0 := (6, .inl (fun _ => 0))) d_M_init_93 gw_ac_int rfl (fun _ _ h => h) (fun _ => rfl) (by decide) (by decide) (by decide) (by decide) (by decide) (fun q93 => ?_)
  refine n_put (q0 := 0) (ws' := [(h0, .inr (9, [.int 0, .ref q7, .int 0, .int 0, .int 0, .int 0, .ref q16, .int 1, .ref q29, .ref q37, .int 0, .int 0, .int 0, .int 0, .ref q45, .ref q53, .ref q61, .ref q69, .ref q77, .ref q85, .ref q93, .null, .null, .null, .null, .null, .null, .null, .int 0, .int 0, .null, .int 0, .int 0, .int 0, .null, .int 0, .int 0, .null, .null, .null, .null, .int 0, .int 0, .null, .null, .null, .null, .int 0, .int 0, .long 0, .null, .null, .null, .null])), (q7, .inl (v.2.1 0, 64, .inl (fun _ => 0))), (q16, .inl (v.2.1 0, 256, .inl (fun _ => 0))), (q29, .inl (v.2.1 0, 64, .inl (fun _ => 0))), (q37, .inl (v.2.1 0, 64, .inl (fun _ => 0))), (q45, .inl (v.2.1 0, 6, .inl (fun _ => 0))), (q53, .inl (v.2.1 0, 6, .inl (fun _ => 0))), (q61, .inl (v.2.1 0, 6, .inl (fun _ => 0))), (q69, .inl (v.2.1 0, 6, .inl (fun _ => 0))), (q77, .inl (v.2.1 0, 6, .inl (fun _ => 0))), (q85, .inl (v.2.1 2, 6, .inl (fun _ => 0))), (q93, .inl (v.2.1 0, 6, .inl (fun _ => 0)))]) d_M_init_95 fi_M_45 rfl rfl rfl (Nat.le_of_ble_eq_true rfl) rfl ?_
  refine n_aload d_M_init_98 0 rfl rfl ?_
  refine n_bipush d_M_init_99 (x := 6) (by decide) ?_
  refine n_newa (t := 0) (N' := 6) (a0 := (6, .inl (fun _ => 0))) d_M_init_101 gw_ac_int rfl (fun _ _ h => h) (fun _ => rfl) (by decide) (by decide) (by decide) (by decide) (by decide) (fun q101 => ?_)
  refine n_put (q0 := 0) (ws' := [(h0, .inr (9, [.int 0, .ref q7, .int 0, .int 0, .int 0, .int 0, .ref q16, .int 1, .ref q29, .ref q37, .int 0, .int 0, .int 0, .int 0, .ref q45, .ref q53, .ref q61, .ref q69, .ref q77, .ref q85, .ref q93, .ref q101, .null, .null, .null, .null, .null, .null, .int 0, .int 0, .null, .int 0, .int 0, .int 0, .null, .int 0, .int 0, .null, .null, .null, .null, .int 0, .int 0, .null, .null, .null, .null, .int 0, .int 0, .long 0, .null, .null, .null, .null])), (q7, .inl (v.2.1 0, 64, .inl (fun _ => 0))), (q16, .inl (v.2.1 0, 256, .inl (fun _ => 0))), (q29, .inl (v.2.1 0, 64, .inl (fun _ => 0))), (q37, .inl (v.2.1 0, 64, .inl (fun _ => 0))), (q45, .inl (v.2.1 0, 6, .inl (fun _ => 0))), (q53, .inl (v.2.1 0, 6, .inl (fun _ => 0))), (q61, .inl (v.2.1 0, 6, .inl (fun _ => 0))), (q69, .inl (v.2.1 0, 6, .inl (fun _ => 0))), (q77, .inl (v.2.1 0, 6, .inl (fun _ => 0))), (q85, .inl (v.2.1 2, 6, .inl (fun _ => 0))), (q93, .inl (v.2.1 0, 6, .inl (fun _ => 0))), (q101, .inl (v.2.1 0, 6, .inl (fun _ => 0)))]) d_M_init_103 fi_M_48 rfl rfl rfl (Nat.le_of_ble_eq_true rfl) rfl ?_
  refine n_aload d_M_init_106 0 rfl rfl ?_
  refine n_bipush d_M_init_107 (x := 6) (by decide) ?_
  refine n_newa (t := 0) (N' := 6) (a0 := (6, .inl (fun _ => 0))) d_M_init_109 gw_ac_int rfl (fun _ _ h => h) (fun _ => rfl) (by decide) (by decide) (by decide) (by decide) (by decide) (fun q109 => ?_)
  refine n_put (q0 := 0) (ws' := [(h0, .inr (9, [.int 0, .ref q7, .int 0, .int 0, .int 0, .int 0, .ref q16, .int 1, .ref q29, .ref q37, .int 0, .int 0, .int 0, .int 0, .ref q45, .ref q53, .ref q61, .ref q69, .ref q77, .ref q85, .ref q93, .ref q101, .ref q109, .null, .null, .null, .null, .null, .int 0, .int 0, .null, .int 0, .int 0, .int 0, .null, .int 0, .int 0, .null, .null, .null, .null, .int 0, .int 0, .null, .null, .null, .null, .int 0, .int 0, .long 0, .null, .null, .null, .null])), (q7, .inl (v.2.1 0, 64, .inl (fun _ => 0))), (q16, .inl (v.2.1 0, 256, .inl (fun _ => 0))), (q29, .inl (v.2.1 0, 64, .inl (fun _ => 0))), (q37, .inl (v.2.1 0, 64, .inl (fun _ => 0))), (q45, .inl (v.2.1 0, 6, .inl (fun _ => 0))), (q53, .inl (v.2.1 0, 6, .inl (fun _ => 0))), (q61, .inl (v.2.1 0, 6, .inl (fun _ => 0))), (q69, .inl (v.2.1 0, 6, .inl (fun _ => 0))), (q77, .inl (v.2.1 0, 6, .inl (fun _ => 0))), (q85, .inl (v.2.1 2, 6, .inl (fun _ => 0))), (q93, .inl (v.2.1 0, 6, .inl (fun _ => 0))), (q101, .inl (v.2.1 0, 6, .inl (fun _ => 0))), (q109, .inl (v.2.1 0, 6, .inl (fun _ => 0)))]) d_M_init_111 fi_M_51 rfl rfl rfl (Nat.le_of_ble_eq_true rfl) rfl ?_
  refine n_aload d_M_init_114 0 rfl rfl ?_
  refine n_bipush d_M_init_115 (x := 6) (by decide) ?_
  refine n_newa (t := 0) (N' := 6) (a0 := (6, .inl (fun _ => 0))) d_M_init_117 gw_ac_int rfl (fun _ _ h => h) (fun _ => rfl) (by decide) (by decide) (by decide) (by decide) (by decide) (fun q117 => ?_)
  refine n_put (q0 := 0) (ws' := [(h0, .inr (9, [.int 0, .ref q7, .int 0, .int 0, .int 0, .int 0, .ref q16, .int 1, .ref q29, .ref q37, .int 0, .int 0, .int 0, .int 0, .ref q45, .ref q53, .ref q61, .ref q69, .ref q77, .ref q85, .ref q93, .ref q101, .ref q109, .ref q117, .null, .null, .null, .null, .int 0, .int 0, .null, .int 0, .int 0, .int 0, .null, .int 0, .int 0, .null, .null, .null, .null, .int 0, .int 0, .null, .null, .null, .null, .int 0, .int 0, .long 0, .null, .null, .null, .null])), (q7, .inl (v.2.1 0, 64, .inl (fun _ => 0))), (q16, .inl (v.2.1 0, 256, .inl (fun _ => 0))), (q29, .inl (v.2.1 0, 64, .inl (fun _ => 0))), (q37, .inl (v.2.1 0, 64, .inl (fun _ => 0))), (q45, .inl (v.2.1 0, 6, .inl (fun _ => 0))), (q53, .inl (v.2.1 0, 6, .inl (fun _ => 0))), (q61, .inl (v.2.1 0, 6, .inl (fun _ => 0))), (q69, .inl (v.2.1 0, 6, .inl (fun _ => 0))), (q77, .inl (v.2.1 0, 6, .inl (fun _ => 0))), (q85, .inl (v.2.1 2, 6, .inl (fun _ => 0))), (q93, .inl (v.2.1 0, 6, .inl (fun _ => 0))), (q101, .inl (v.2.1 0, 6, .inl (fun _ => 0))), (q109, .inl (v.2.1 0, 6, .inl (fun _ => 0))), (q117, .inl (v.2.1 0, 6, .inl (fun _ => 0)))]) d_M_init_119 fi_M_54 rfl rfl rfl (Nat.le_of_ble_eq_true rfl) rfl ?_
  refine n_aload d_M_init_122 0 rfl rfl ?_
  refine n_bipush d_M_init_123 (x := 6) (by decide) ?_
  refine n_newa (t := 0) (N' := 6) (a0 := (6, .inl (fun _ => 0))) d_M_init_125 gw_ac_int rfl (fun _ _ h => h) (fun _ => rfl) (by decide) (by decide) (by decide) (by decide) (by decide) (fun q125 => ?_)
  refine n_put (q0 := 0) (ws' := [(h0, .inr (9, [.int 0, .ref q7, .int 0, .int 0, .int 0, .int 0, .ref q16, .int 1, .ref q29, .ref q37, .int 0, .int 0, .int 0, .int 0, .ref q45, .ref q53, .ref q61, .ref q69, .ref q77, .ref q85, .ref q93, .ref q101, .ref q109, .ref q117, .ref q125, .null, .null, .null, .int 0, .int 0, .null, .int 0, .int 0, .int 0, .null, .int 0, .int 0, .null, .null, .null, .null, .int 0, .int 0, .null, .null, .null, .null, .int 0, .int 0, .long 0, .null, .null, .null, .null])), (q7, .inl (v.2.1 0, 64, .inl (fun _ => 0))), (q16, .inl (v.2.1 0, 256, .inl (fun _ => 0))), (q29, .inl (v.2.1 0, 64, .inl (fun _ => 0))), (q37, .inl (v.2.1 0, 64, .inl (fun _ => 0))), (q45, .inl (v.2.1 0, 6, .inl (fun _ => 0))), (q53, .inl (v.2.1 0, 6, .inl (fun _ => 0))), (q61, .inl (v.2.1 0, 6, .inl (fun _ => 0))), (q69, .inl (v.2.1 0, 6, .inl (fun _ => 0))), (q77, .inl (v.2.1 0, 6, .inl (fun _ => 0))), (q85, .inl (v.2.1 2, 6, .inl (fun _ => 0))), (q93, .inl (v.2.1 0, 6, .inl (fun _ => 0))), (q101, .inl (v.2.1 0, 6, .inl (fun _ => 0))), (q109, .inl (v.2.1 0, 6, .inl (fun _ => 0))), (q117, .inl (v.2.1 0, 6, .inl (fun _ => 0))), (q125, .inl (v.2.1 0, 6, .inl (fun _ => 0)))]) d_M_init_127 fi_M_57 rfl rfl rfl (Nat.le_of_ble_eq_true rfl) rfl ?_
  refine n_aload d_M_init_130 0 rfl rfl ?_
  refine n_bipush d_M_init_131 (x := 6) (by decide) ?_
  refine n_newa (t := 2) (N' := 6) (a0 := (6, .inl (fun _ => 0))) d_M_init_133 gw_ac_boolean rfl (fun _ _ h => h) (fun _ => rfl) (by decide) (by decide) (by decide) (by decide) (by decide) (fun q133 => ?_)
  refine n_put (q0 := 0) (ws' := [(h0, .inr (9, [.int 0, .ref q7, .int 0, .int 0, .int 0, .int 0, .ref q16, .int 1, .ref q29, .ref q37, .int 0, .int 0, .int 0, .int 0, .ref q45, .ref q53, .ref q61, .ref q69, .ref q77, .ref q85, .ref q93, .ref q101, .ref q109, .ref q117, .ref q125, .ref q133, .null, .null, .int 0, .int 0, .null, .int 0, .int 0, .int 0, .null, .int 0, .int 0, .null, .null, .null, .null, .int 0, .int 0, .null, .null, .null, .null, .int 0, .int 0, .long 0, .null, .null, .null, .null])), (q7, .inl (v.2.1 0, 64, .inl (fun _ => 0))), (q16, .inl (v.2.1 0, 256, .inl (fun _ => 0))), (q29, .inl (v.2.1 0, 64, .inl (fun _ => 0))), (q37, .inl (v.2.1 0, 64, .inl (fun _ => 0))), (q45, .inl (v.2.1 0, 6, .inl (fun _ => 0))), (q53, .inl (v.2.1 0, 6, .inl (fun _ => 0))), (q61, .inl (v.2.1 0, 6, .inl (fun _ => 0))), (q69, .inl (v.2.1 0, 6, .inl (fun _ => 0))), (q77, .inl (v.2.1 0, 6, .inl (fun _ => 0))), (q85, .inl (v.2.1 2, 6, .inl (fun _ => 0))), (q93, .inl (v.2.1 0, 6, .inl (fun _ => 0))), (q101, .inl (v.2.1 0, 6, .inl (fun _ => 0))), (q109, .inl (v.2.1 0, 6, .inl (fun _ => 0))), (q117, .inl (v.2.1 0, 6, .inl (fun _ => 0))), (q125, .inl (v.2.1 0, 6, .inl (fun _ => 0))), (q133, .inl (v.2.1 2, 6, .inl (fun _ => 0)))]) d_M_init_135 fi_M_60 rfl rfl rfl (Nat.le_of_ble_eq_true rfl) rfl ?_
  refine n_aload d_M_init_138 0 rfl rfl ?_
  refine n_bipush d_M_init_139 (x := 6) (by decide) ?_
  refine n_newa (t := 0) (N' := 6) (a0 := (6, .inl (fun _ => 0))) d_M_init_141 gw_ac_int rfl (fun _ _ h => h) (fun _ => rfl) (by decide) (by decide) (by decide) (by decide) (by decide) (fun q141 => ?_)
  refine n_put (q0 := 0) (ws' := [(h0, .inr (9, [.int 0, .ref q7, .int 0, .int 0, .int 0, .int 0, .ref q16, .int 1, .ref q29, .ref q37, .int 0, .int 0, .int 0, .int 0, .ref q45, .ref q53, .ref q61, .ref q69, .ref q77, .ref q85, .ref q93, .ref q101, .ref q109, .ref q117, .ref q125, .ref q133, .ref q141, .null, .int 0, .int 0, .null, .int 0, .int 0, .int 0, .null, .int 0, .int 0, .null, .null, .null, .null, .int 0, .int 0, .null, .null, .null, .null, .int 0, .int 0, .long 0, .null, .null, .null, .null])), (q7, .inl (v.2.1 0, 64, .inl (fun _ => 0))), (q16, .inl (v.2.1 0, 256, .inl (fun _ => 0))), (q29, .inl (v.2.1 0, 64, .inl (fun _ => 0))), (q37, .inl (v.2.1 0, 64, .inl (fun _ => 0))), (q45, .inl (v.2.1 0, 6, .inl (fun _ => 0))), (q53, .inl (v.2.1 0, 6, .inl (fun _ => 0))), (q61, .inl (v.2.1 0, 6, .inl (fun _ => 0))), (q69, .inl (v.2.1 0, 6, .inl (fun _ => 0))), (q77, .inl (v.2.1 0, 6, .inl (fun _ => 0))), (q85, .inl (v.2.1 2, 6, .inl (fun _ => 0))), (q93, .inl (v.2.1 0, 6, .inl (fun _ => 0))), (q101, .inl (v.2.1 0, 6, .inl (fun _ => 0))), (q109, .inl (v.2.1 0, 6, .inl (fun _ => 0))), (q117, .inl (v.2.1 0, 6, .inl (fun _ => 0))), (q125, .inl (v.2.1 0, 6, .inl (fun _ => 0))), (q133, .inl (v.2.1 2, 6, .inl (fun _ => 0))), (q141, .inl (v.2.1 0, 6, .inl (fun _ => 0)))]) d_M_init_143 fi_M_63 rfl rfl rfl (Nat.le_of_ble_eq_true rfl) rfl ?_
  refine n_aload d_M_init_146 0 rfl rfl ?_
  refine n_bipush d_M_init_147 (x := 6) (by decide) ?_
  refine n_newa (t := 2) (N' := 6) (a0 := (6, .inl (fun _ => 0))) d_M_init_149 gw_ac_boolean rfl (fun _ _ h => h) (fun _ => rfl) (by decide) (by decide) (by decide) (by decide) (by decide) (fun q149 => ?_)
  refine n_put (q0 := 0) (ws' := [(h0, .inr (9, [.int 0, .ref q7, .int 0, .int 0, .int 0, .int 0, .ref q16, .int 1, .ref q29, .ref q37, .int 0, .int 0, .int 0, .int 0, .ref q45, .ref q53, .ref q61, .ref q69, .ref q77, .ref q85, .ref q93, .ref q101, .ref q109, .ref q117, .ref q125, .ref q133, .ref q141, .ref q149, .int 0, .int 0, .null, .int 0, .int 0, .int 0, .null, .int 0, .int 0, .null, .null, .null, .null, .int 0, .int 0, .null, .null, .null, .null, .int 0, .int 0, .long 0, .null, .null, .null, .null])), (q7, .inl (v.2.1 0, 64, .inl (fun _ => 0))), (q16, .inl (v.2.1 0, 256, .inl (fun _ => 0))), (q29, .inl (v.2.1 0, 64, .inl (fun _ => 0))), (q37, .inl (v.2.1 0, 64, .inl (fun _ => 0))), (q45, .inl (v.2.1 0, 6, .inl (fun _ => 0))), (q53, .inl (v.2.1 0, 6, .inl (fun _ => 0))), (q61, .inl (v.2.1 0, 6, .inl (fun _ => 0))), (q69, .inl (v.2.1 0, 6, .inl (fun _ => 0))), (q77, .inl (v.2.1 0, 6, .inl (fun _ => 0))), (q85, .inl (v.2.1 2, 6, .inl (fun _ => 0))), (q93, .inl (v.2.1 0, 6, .inl (fun _ => 0))), (q101, .inl (v.2.1 0, 6, .inl (fun _ => 0))), (q109, .inl (v.2.1 0, 6, .inl (fun _ => 0))), (q117, .inl (v.2.1 0, 6, .inl (fun _ => 0))), (q125, .inl (v.2.1 0, 6, .inl (fun _ => 0))), (q133, .inl (v.2.1 2, 6, .inl (fun _ => 0))), (q141, .inl (v.2.1 0, 6, .inl (fun _ => 0))), (q149, .inl (v.2.1 2, 6, .inl (fun _ => 0)))]) d_M_init_151 fi_M_66 rfl rfl rfl (Nat.le_of_ble_eq_true rfl) rfl ?_
  refine n_aload d_M_init_154 0 rfl rfl ?_
  refine n_sipush d_M_init_155 (x := 4096) (by decide) ?_
  refine n_newa (t := 2) (N' := 4096) (a0 := (4096, .inl (fun _ => 0))) d_M_init_158 gw_ac_boolean rfl (fun _ _ h => h) (fun _ => rfl) (by decide) (by decide) (by decide) (by decide) (by decide) (fun q158 => ?_)
  refine n_put (q0 := 0) (ws' := [(h0, .inr (9, [.int 0, .ref q7, .int 0, .int 0, .int 0, .int 0, .ref q16, .int 1, .ref q29, .ref q37, .int 0, .int 0, .int 0, .int 0, .ref q45, .ref q53, .ref q61, .ref q69, .ref q77, .ref q85, .ref q93, .ref q101, .ref q109, .ref q117, .ref q125, .ref q133, .ref q141, .ref q149, .int 0, .int 0, .ref q158, .int 0, .int 0, .int 0, .null, .int 0, .int 0, .null, .null, .null, .null, .int 0, .int 0, .null, .null, .null, .null, .int 0, .int 0, .long 0, .null, .null, .null, .null])), (q7, .inl (v.2.1 0, 64, .inl (fun _ => 0))), (q16, .inl (v.2.1 0, 256, .inl (fun _ => 0))), (q29, .inl (v.2.1 0, 64, .inl (fun _ => 0))), (q37, .inl (v.2.1 0, 64, .inl (fun _ => 0))), (q45, .inl (v.2.1 0, 6, .inl (fun _ => 0))), (q53, .inl (v.2.1 0, 6, .inl (fun _ => 0))), (q61, .inl (v.2.1 0, 6, .inl (fun _ => 0))), (q69, .inl (v.2.1 0, 6, .inl (fun _ => 0))), (q77, .inl (v.2.1 0, 6, .inl (fun _ => 0))), (q85, .inl (v.2.1 2, 6, .inl (fun _ => 0))), (q93, .inl (v.2.1 0, 6, .inl (fun _ => 0))), (q101, .inl (v.2.1 0, 6, .inl (fun _ => 0))), (q109, .inl (v.2.1 0, 6, .inl (fun _ => 0))), (q117, .inl (v.2.1 0, 6, .inl (fun _ => 0))), (q125, .inl (v.2.1 0, 6, .inl (fun _ => 0))), (q133, .inl (v.2.1 2, 6, .inl (fun _ => 0))), (q141, .inl (v.2.1 0, 6, .inl (fun _ => 0))), (q149, .inl (v.2.1 2, 6, .inl (fun _ => 0))), (q158, .inl (v.2.1 2, 4096, .inl (fun _ => 0)))]) d_M_init_160 fi_M_69 rfl rfl rfl (Nat.le_of_ble_eq_true rfl) rfl ?_
  refine n_aload d_M_init_163 0 rfl rfl ?_
  refine n_sipush d_M_init_164 (x := 1024) (by decide) ?_
  refine n_newa (t := 0) (N' := 1024) (a0 := (1024, .inl (fun _ => 0))) d_M_init_167 gw_ac_int rfl (fun _ _ h => h) (fun _ => rfl) (by decide) (by decide) (by decide) (by decide) (by decide) (fun q167 => ?_)
  refine n_put (q0 := 0) (ws' := [(h0, .inr (9, [.int 0, .ref q7, .int 0, .int 0, .int 0, .int 0, .ref q16, .int 1, .ref q29, .ref q37, .int 0, .int 0, .int 0, .int 0, .ref q45, .ref q53, .ref q61, .ref q69, .ref q77, .ref q85, .ref q93, .ref q101, .ref q109, .ref q117, .ref q125, .ref q133, .ref q141, .ref q149, .int 0, .int 0, .ref q158, .int 0, .int 0, .int 0, .ref q167, .int 0, .int 0, .null, .null, .null, .null, .int 0, .int 0, .null, .null, .null, .null, .int 0, .int 0, .long 0, .null, .null, .null, .null])), (q7, .inl (v.2.1 0, 64, .inl (fun _ => 0))), (q16, .inl (v.2.1 0, 256, .inl (fun _ => 0))), (q29, .inl (v.2.1 0, 64, .inl (fun _ => 0))), (q37, .inl (v.2.1 0, 64, .inl (fun _ => 0))), (q45, .inl (v.2.1 0, 6, .inl (fun _ => 0))), (q53, .inl (v.2.1 0, 6, .inl (fun _ => 0))), (q61, .inl (v.2.1 0, 6, .inl (fun _ => 0))), (q69, .inl (v.2.1 0, 6, .inl (fun _ => 0))), (q77, .inl (v.2.1 0, 6, .inl (fun _ => 0))), (q85, .inl (v.2.1 2, 6, .inl (fun _ => 0))), (q93, .inl (v.2.1 0, 6, .inl (fun _ => 0))), (q101, .inl (v.2.1 0, 6, .inl (fun _ => 0))), (q109, .inl (v.2.1 0, 6, .inl (fun _ => 0))), (q117, .inl (v.2.1 0, 6, .inl (fun _ => 0))), (q125, .inl (v.2.1 0, 6, .inl (fun _ => 0))), (q133, .inl (v.2.1 2, 6, .inl (fun _ => 0))), (q141, .inl (v.2.1 0, 6, .inl (fun _ => 0))), (q149, .inl (v.2.1 2, 6, .inl (fun _ => 0))), (q158, .inl (v.2.1 2, 4096, .inl (fun _ => 0))), (q167, .inl (v.2.1 0, 1024, .inl (fun _ => 0)))]) d_M_init_169 fi_M_72 rfl rfl rfl (Nat.le_of_ble_eq_true rfl) rfl ?_
  refine n_aload d_M_init_172 0 rfl rfl ?_
  refine n_bipush d_M_init_173 (x := 16) (by decide) ?_
  refine n_newa (t := 0) (N' := 16) (a0 := (16, .inl (fun _ => 0))) d_M_init_175 gw_ac_int rfl (fun _ _ h => h) (fun _ => rfl) (by decide) (by decide) (by decide) (by decide) (by decide) (fun q175 => ?_)
  refine n_put (q0 := 0) (ws' := [(h0, .inr (9, [.int 0, .ref q7, .int 0, .int 0, .int 0, .int 0, .ref q16, .int 1, .ref q29, .ref q37, .int 0, .int 0, .int 0, .int 0, .ref q45, .ref q53, .ref q61, .ref q69, .ref q77, .ref q85, .ref q93, .ref q101, .ref q109, .ref q117, .ref q125, .ref q133, .ref q141, .ref q149, .int 0, .int 0, .ref q158, .int 0, .int 0, .int 0, .ref q167, .int 0, .int 0, .ref q175, .null, .null, .null, .int 0, .int 0, .null, .null, .null, .null, .int 0, .int 0, .long 0, .null, .null, .null, .null])), (q7, .inl (v.2.1 0, 64, .inl (fun _ => 0))), (q16, .inl (v.2.1 0, 256, .inl (fun _ => 0))), (q29, .inl (v.2.1 0, 64, .inl (fun _ => 0))), (q37, .inl (v.2.1 0, 64, .inl (fun _ => 0))), (q45, .inl (v.2.1 0, 6, .inl (fun _ => 0))), (q53, .inl (v.2.1 0, 6, .inl (fun _ => 0))), (q61, .inl (v.2.1 0, 6, .inl (fun _ => 0))), (q69, .inl (v.2.1 0, 6, .inl (fun _ => 0))), (q77, .inl (v.2.1 0, 6, .inl (fun _ => 0))), (q85, .inl (v.2.1 2, 6, .inl (fun _ => 0))), (q93, .inl (v.2.1 0, 6, .inl (fun _ => 0))), (q101, .inl (v.2.1 0, 6, .inl (fun _ => 0))), (q109, .inl (v.2.1 0, 6, .inl (fun _ => 0))), (q117, .inl (v.2.1 0, 6, .inl (fun _ => 0))), (q125, .inl (v.2.1 0, 6, .inl (fun _ => 0))), (q133, .inl (v.2.1 2, 6, .inl (fun _ => 0))), (q141, .inl (v.2.1 0, 6, .inl (fun _ => 0))), (q149, .inl (v.2.1 2, 6, .inl (fun _ => 0))), (q158, .inl (v.2.1 2, 4096, .inl (fun _ => 0))), (q167, .inl (v.2.1 0, 1024, .inl (fun _ => 0))), (q175, .inl (v.2.1 0, 16, .inl (fun _ => 0)))]) d_M_init_177 fi_M_75 rfl rfl rfl (Nat.le_of_ble_eq_true rfl) rfl ?_
  refine n_aload d_M_init_180 0 rfl rfl ?_
  refine n_iconst d_M_init_181 (x := 4) (by decide) ?_
  refine n_newa (t := 2) (N' := 4) (a0 := (4, .inl (fun _ => 0))) d_M_init_182 gw_ac_boolean rfl (fun _ _ h => h) (fun _ => rfl) (by decide) (by decide) (by decide) (by decide) (by decide) (fun q182 => ?_)
  refine n_put (q0 := 0) (ws' := [(h0, .inr (9, [.int 0, .ref q7, .int 0, .int 0, .int 0, .int 0, .ref q16, .int 1, .ref q29, .ref q37, .int 0, .int 0, .int 0, .int 0, .ref q45, .ref q53, .ref q61, .ref q69, .ref q77, .ref q85, .ref q93, .ref q101, .ref q109, .ref q117, .ref q125, .ref q133, .ref q141, .ref q149, .int 0, .int 0, .ref q158, .int 0, .int 0, .int 0, .ref q167, .int 0, .int 0, .ref q175, .ref q182, .null, .null, .int 0, .int 0, .null, .null, .null, .null, .int 0, .int 0, .long 0, .null, .null, .null, .null])), (q7, .inl (v.2.1 0, 64, .inl (fun _ => 0))), (q16, .inl (v.2.1 0, 256, .inl (fun _ => 0))), (q29, .inl (v.2.1 0, 64, .inl (fun _ => 0))), (q37, .inl (v.2.1 0, 64, .inl (fun _ => 0))), (q45, .inl (v.2.1 0, 6, .inl (fun _ => 0))), (q53, .inl (v.2.1 0, 6, .inl (fun _ => 0))), (q61, .inl (v.2.1 0, 6, .inl (fun _ => 0))), (q69, .inl (v.2.1 0, 6, .inl (fun _ => 0))), (q77, .inl (v.2.1 0, 6, .inl (fun _ => 0))), (q85, .inl (v.2.1 2, 6, .inl (fun _ => 0))), (q93, .inl (v.2.1 0, 6, .inl (fun _ => 0))), (q101, .inl (v.2.1 0, 6, .inl (fun _ => 0))), (q109, .inl (v.2.1 0, 6, .inl (fun _ => 0))), (q117, .inl (v.2.1 0, 6, .inl (fun _ => 0))), (q125, .inl (v.2.1 0, 6, .inl (fun _ => 0))), (q133, .inl (v.2.1 2, 6, .inl (fun _ => 0))), (q141, .inl (v.2.1 0, 6, .inl (fun _ => 0))), (q149, .inl (v.2.1 2, 6, .inl (fun _ => 0))), (q158, .inl (v.2.1 2, 4096, .inl (fun _ => 0))), (q167, .inl (v.2.1 0, 1024, .inl (fun _ => 0))), (q175, .inl (v.2.1 0, 16, .inl (fun _ => 0))), (q182, .inl (v.2.1 2, 4, .inl (fun _ => 0)))]) d_M_init_184 fi_M_78 rfl rfl rfl (Nat.le_of_ble_eq_true rfl) rfl ?_
  refine n_aload d_M_init_187 0 rfl rfl ?_
  refine n_bipush d_M_init_188 (x := 16) (by decide) ?_
  refine n_newa (t := 1) (N' := 16) (a0 := (16, .inr (.inl (fun _ => 0)))) d_M_init_190 gw_ac_long rfl (fun _ _ h => h) (fun _ => rfl) (by decide) (by decide) (by decide) (by decide) (by decide) (fun q190 => ?_)
  refine n_put (q0 := 0) (ws' := [(h0, .inr (9, [.int 0, .ref q7, .int 0, .int 0, .int 0, .int 0, .ref q16, .int 1, .ref q29, .ref q37, .int 0, .int 0, .int 0, .int 0, .ref q45, .ref q53, .ref q61, .ref q69, .ref q77, .ref q85, .ref q93, .ref q101, .ref q109, .ref q117, .ref q125, .ref q133, .ref q141, .ref q149, .int 0, .int 0, .ref q158, .int 0, .int 0, .int 0, .ref q167, .int 0, .int 0, .ref q175, .ref q182, .ref q190, .null, .int 0, .int 0, .null, .null, .null, .null, .int 0, .int 0, .long 0, .null, .null, .null, .null])), (q7, .inl (v.2.1 0, 64, .inl (fun _ => 0))), (q16, .inl (v.2.1 0, 256, .inl (fun _ => 0))), (q29, .inl (v.2.1 0, 64, .inl (fun _ => 0))), (q37, .inl (v.2.1 0, 64, .inl (fun _ => 0))), (q45, .inl (v.2.1 0, 6, .inl (fun _ => 0))), (q53, .inl (v.2.1 0, 6, .inl (fun _ => 0))), (q61, .inl (v.2.1 0, 6, .inl (fun _ => 0))), (q69, .inl (v.2.1 0, 6, .inl (fun _ => 0))), (q77, .inl (v.2.1 0, 6, .inl (fun _ => 0))), (q85, .inl (v.2.1 2, 6, .inl (fun _ => 0))), (q93, .inl (v.2.1 0, 6, .inl (fun _ => 0))), (q101, .inl (v.2.1 0, 6, .inl (fun _ => 0))), (q109, .inl (v.2.1 0, 6, .inl (fun _ => 0))), (q117, .inl (v.2.1 0, 6, .inl (fun _ => 0))), (q125, .inl (v.2.1 0, 6, .inl (fun _ => 0))), (q133, .inl (v.2.1 2, 6, .inl (fun _ => 0))), (q141, .inl (v.2.1 0, 6, .inl (fun _ => 0))), (q149, .inl (v.2.1 2, 6, .inl (fun _ => 0))), (q158, .inl (v.2.1 2, 4096, .inl (fun _ => 0))), (q167, .inl (v.2.1 0, 1024, .inl (fun _ => 0))), (q175, .inl (v.2.1 0, 16, .inl (fun _ => 0))), (q182, .inl (v.2.1 2, 4, .inl (fun _ => 0))), (q190, .inl (v.2.1 1, 16, .inr (.inl (fun _ => 0))))]) d_M_init_192 fi_M_81 rfl rfl rfl (Nat.le_of_ble_eq_true rfl) rfl ?_
  refine n_aload d_M_init_195 0 rfl rfl ?_
  refine n_iconst d_M_init_196 (x := 4) (by decide) ?_
  refine n_newa (t := 1) (N' := 4) (a0 := (4, .inr (.inl (fun _ => 0)))) d_M_init_197 gw_ac_long rfl (fun _ _ h => h) (fun _ => rfl) (by decide) (by decide) (by decide) (by decide) (by decide) (fun q197 => ?_)
  refine n_put (q0 := 0) (ws' := [(h0, .inr (9, [.int 0, .ref q7, .int 0, .int 0, .int 0, .int 0, .ref q16, .int 1, .ref q29, .ref q37, .int 0, .int 0, .int 0, .int 0, .ref q45, .ref q53, .ref q61, .ref q69, .ref q77, .ref q85, .ref q93, .ref q101, .ref q109, .ref q117, .ref q125, .ref q133, .ref q141, .ref q149, .int 0, .int 0, .ref q158, .int 0, .int 0, .int 0, .ref q167, .int 0, .int 0, .ref q175, .ref q182, .ref q190, .ref q197, .int 0, .int 0, .null, .null, .null, .null, .int 0, .int 0, .long 0, .null, .null, .null, .null])), (q7, .inl (v.2.1 0, 64, .inl (fun _ => 0))), (q16, .inl (v.2.1 0, 256, .inl (fun _ => 0))), (q29, .inl (v.2.1 0, 64, .inl (fun _ => 0))), (q37, .inl (v.2.1 0, 64, .inl (fun _ => 0))), (q45, .inl (v.2.1 0, 6, .inl (fun _ => 0))), (q53, .inl (v.2.1 0, 6, .inl (fun _ => 0))), (q61, .inl (v.2.1 0, 6, .inl (fun _ => 0))), (q69, .inl (v.2.1 0, 6, .inl (fun _ => 0))), (q77, .inl (v.2.1 0, 6, .inl (fun _ => 0))), (q85, .inl (v.2.1 2, 6, .inl (fun _ => 0))), (q93, .inl (v.2.1 0, 6, .inl (fun _ => 0))), (q101, .inl (v.2.1 0, 6, .inl (fun _ => 0))), (q109, .inl (v.2.1 0, 6, .inl (fun _ => 0))), (q117, .inl (v.2.1 0, 6, .inl (fun _ => 0))), (q125, .inl (v.2.1 0, 6, .inl (fun _ => 0))), (q133, .inl (v.2.1 2, 6, .inl (fun _ => 0))), (q141, .inl (v.2.1 0, 6, .inl (fun _ => 0))), (q149, .inl (v.2.1 2, 6, .inl (fun _ => 0))), (q158, .inl (v.2.1 2, 4096, .inl (fun _ => 0))), (q167, .inl (v.2.1 0, 1024, .inl (fun _ => 0))), (q175, .inl (v.2.1 0, 16, .inl (fun _ => 0))), (q182, .inl (v.2.1 2, 4, .inl (fun _ => 0))), (q190, .inl (v.2.1 1, 16, .inr (.inl (fun _ => 0)))), (q197, .inl (v.2.1 1, 4, .inr (.inl (fun _ => 0))))]) d_M_init_199 fi_M_85 rfl rfl rfl (Nat.le_of_ble_eq_true rfl) rfl ?_
  refine n_aload d_M_init_202 0 rfl rfl ?_
  refine n_sipush d_M_init_203 (x := 512) (by decide) ?_
  refine n_newa (t := 0) (N' := 512) (a0 := (512, .inl (fun _ => 0))) d_M_init_206 gw_ac_int rfl (fun _ _ h => h) (fun _ => rfl) (by decide) (by decide) (by decide) (by decide) (by decide) (fun q206 => ?_)
  refine n_put (q0 := 0) (ws' := [(h0, .inr (9, [.int 0, .ref q7, .int 0, .int 0, .int 0, .int 0, .ref q16, .int 1, .ref q29, .ref q37, .int 0, .int 0, .int 0, .int 0, .ref q45, .ref q53, .ref q61, .ref q69, .ref q77, .ref q85, .ref q93, .ref q101, .ref q109, .ref q117, .ref q125, .ref q133, .ref q141, .ref q149, .int 0, .int 0, .ref q158, .int 0, .int 0, .int 0, .ref q167, .int 0, .int 0, .ref q175, .ref q182, .ref q190, .ref q197, .int 0, .int 0, .ref q206, .null, .null, .null, .int 0, .int 0, .long 0, .null, .null, .null, .null])), (q7, .inl (v.2.1 0, 64, .inl (fun _ => 0))), (q16, .inl (v.2.1 0, 256, .inl (fun _ => 0))), (q29, .inl (v.2.1 0, 64, .inl (fun _ => 0))), (q37, .inl (v.2.1 0, 64, .inl (fun _ => 0))), (q45, .inl (v.2.1 0, 6, .inl (fun _ => 0))), (q53, .inl (v.2.1 0, 6, .inl (fun _ => 0))), (q61, .inl (v.2.1 0, 6, .inl (fun _ => 0))), (q69, .inl (v.2.1 0, 6, .inl (fun _ => 0))), (q77, .inl (v.2.1 0, 6, .inl (fun _ => 0))), (q85, .inl (v.2.1 2, 6, .inl (fun _ => 0))), (q93, .inl (v.2.1 0, 6, .inl (fun _ => 0))), (q101, .inl (v.2.1 0, 6, .inl (fun _ => 0))), (q109, .inl (v.2.1 0, 6, .inl (fun _ => 0))), (q117, .inl (v.2.1 0, 6, .inl (fun _ => 0))), (q125, .inl (v.2.1 0, 6, .inl (fun _ => 0))), (q133, .inl (v.2.1 2, 6, .inl (fun _ => 0))), (q141, .inl (v.2.1 0, 6, .inl (fun _ => 0))), (q149, .inl (v.2.1 2, 6, .inl (fun _ => 0))), (q158, .inl (v.2.1 2, 4096, .inl (fun _ => 0))), (q167, .inl (v.2.1 0, 1024, .inl (fun _ => 0))), (q175, .inl (v.2.1 0, 16, .inl (fun _ => 0))), (q182, .inl (v.2.1 2, 4, .inl (fun _ => 0))), (q190, .inl (v.2.1 1, 16, .inr (.inl (fun _ => 0)))), (q197, .inl (v.2.1 1, 4, .inr (.inl (fun _ => 0)))), (q206, .inl (v.2.1 0, 512, .inl (fun _ => 0)))]) d_M_init_208 fi_M_88 rfl rfl rfl (Nat.le_of_ble_eq_true rfl) rfl ?_
  refine n_aload d_M_init_211 0 rfl rfl ?_
  refine n_sipush d_M_init_212 (x := 500) (by decide) ?_
  refine n_newa (t := 1) (N' := 500) (a0 := (500, .inr (.inl (fun _ => 0)))) d_M_init_215 gw_ac_long rfl (fun _ _ h => h) (fun _ => rfl) (by decide) (by decide) (by decide) (by decide) (by decide) (fun q215 => ?_)
  refine n_put (q0 := 0) (ws' := [(h0, .inr (9, [.int 0, .ref q7, .int 0, .int 0, .int 0, .int 0, .ref q16, .int 1, .ref q29, .ref q37, .int 0, .int 0, .int 0, .int 0, .ref q45, .ref q53, .ref q61, .ref q69, .ref q77, .ref q85, .ref q93, .ref q101, .ref q109, .ref q117, .ref q125, .ref q133, .ref q141, .ref q149, .int 0, .int 0, .ref q158, .int 0, .int 0, .int 0, .ref q167, .int 0, .int 0, .ref q175, .ref q182, .ref q190, .ref q197, .int 0, .int 0, .ref q206, .ref q215, .null, .null, .int 0, .int 0, .long 0, .null, .null, .null, .null])), (q7, .inl (v.2.1 0, 64, .inl (fun _ => 0))), (q16, .inl (v.2.1 0, 256, .inl (fun _ => 0))), (q29, .inl (v.2.1 0, 64, .inl (fun _ => 0))), (q37, .inl (v.2.1 0, 64, .inl (fun _ => 0))), (q45, .inl (v.2.1 0, 6, .inl (fun _ => 0))), (q53, .inl (v.2.1 0, 6, .inl (fun _ => 0))), (q61, .inl (v.2.1 0, 6, .inl (fun _ => 0))), (q69, .inl (v.2.1 0, 6, .inl (fun _ => 0))), (q77, .inl (v.2.1 0, 6, .inl (fun _ => 0))), (q85, .inl (v.2.1 2, 6, .inl (fun _ => 0))), (q93, .inl (v.2.1 0, 6, .inl (fun _ => 0))), (q101, .inl (v.2.1 0, 6, .inl (fun _ => 0))), (q109, .inl (v.2.1 0, 6, .inl (fun _ => 0))), (q117, .inl (v.2.1 0, 6, .inl (fun _ => 0))), (q125, .inl (v.2.1 0, 6, .inl (fun _ => 0))), (q133, .inl (v.2.1 2, 6, .inl (fun _ => 0))), (q141, .inl (v.2.1 0, 6, .inl (fun _ => 0))), (q149, .inl (v.2.1 2, 6, .inl (fun _ => 0))), (q158, .inl (v.2.1 2, 4096, .inl (fun _ => 0))), (q167, .inl (v.2.1 0, 1024, .inl (fun _ => 0))), (q175, .inl (v.2.1 0, 16, .inl (fun _ => 0))), (q182, .inl (v.2.1 2, 4, .inl (fun _ => 0))), (q190, .inl (v.2.1 1, 16, .inr (.inl (fun _ => 0)))), (q197, .inl (v.2.1 1, 4, .inr (.inl (fun _ => 0)))), (q206, .inl (v.2.1 0, 512, .inl (fun _ => 0))), (q215, .inl (v.2.1 1, 500, .inr (.inl (fun _ => 0))))]) d_M_init_217 fi_M_91 rfl rfl rfl (Nat.le_of_ble_eq_true rfl) rfl ?_
  refine n_aload d_M_init_220 0 rfl rfl ?_
  refine n_sipush d_M_init_221 (x := 500) (by decide) ?_
  refine n_newa (t := 0) (N' := 500) (a0 := (500, .inl (fun _ => 0))) d_M_init_224 gw_ac_int rfl (fun _ _ h => h) (fun _ => rfl) (by decide) (by decide) (by decide) (by decide) (by decide) (fun q224 => ?_)
  refine n_put (q0 := 0) (ws' := [(h0, .inr (9, [.int 0, .ref q7, .int 0, .int 0, .int 0, .int 0, .ref q16, .int 1, .ref q29, .ref q37, .int 0, .int 0, .int 0, .int 0, .ref q45, .ref q53, .ref q61, .ref q69, .ref q77, .ref q85, .ref q93, .ref q101, .ref q109, .ref q117, .ref q125, .ref q133, .ref q141, .ref q149, .int 0, .int 0, .ref q158, .int 0, .int 0, .int 0, .ref q167, .int 0, .int 0, .ref q175, .ref q182, .ref q190, .ref q197, .int 0, .int 0, .ref q206, .ref q215, .ref q224, .null, .int 0, .int 0, .long 0, .null, .null, .null, .null])), (q7, .inl (v.2.1 0, 64, .inl (fun _ => 0))), (q16, .inl (v.2.1 0, 256, .inl (fun _ => 0))), (q29, .inl (v.2.1 0, 64, .inl (fun _ => 0))), (q37, .inl (v.2.1 0, 64, .inl (fun _ => 0))), (q45, .inl (v.2.1 0, 6, .inl (fun _ => 0))), (q53, .inl (v.2.1 0, 6, .inl (fun _ => 0))), (q61, .inl (v.2.1 0, 6, .inl (fun _ => 0))), (q69, .inl (v.2.1 0, 6, .inl (fun _ => 0))), (q77, .inl (v.2.1 0, 6, .inl (fun _ => 0))), (q85, .inl (v.2.1 2, 6, .inl (fun _ => 0))), (q93, .inl (v.2.1 0, 6, .inl (fun _ => 0))), (q101, .inl (v.2.1 0, 6, .inl (fun _ => 0))), (q109, .inl (v.2.1 0, 6, .inl (fun _ => 0))), (q117, .inl (v.2.1 0, 6, .inl (fun _ => 0))), (q125, .inl (v.2.1 0, 6, .inl (fun _ => 0))), (q133, .inl (v.2.1 2, 6, .inl (fun _ => 0))), (q141, .inl (v.2.1 0, 6, .inl (fun _ => 0))), (q149, .inl (v.2.1 2, 6, .inl (fun _ => 0))), (q158, .inl (v.2.1 2, 4096, .inl (fun _ => 0))), (q167, .inl (v.2.1 0, 1024, .inl (fun _ => 0))), (q175, .inl (v.2.1 0, 16, .inl (fun _ => 0))), (q182, .inl (v.2.1 2, 4, .inl (fun _ => 0))), (q190, .inl (v.2.1 1, 16, .inr (.inl (fun _ => 0)))), (q197, .inl (v.2.1 1, 4, .inr (.inl (fun _ => 0)))), (q206, .inl (v.2.1 0, 512, .inl (fun _ => 0))), (q215, .inl (v.2.1 1, 500, .inr (.inl (fun _ => 0)))), (q224, .inl (v.2.1 0, 500, .inl (fun _ => 0)))]) d_M_init_226 fi_M_94 rfl rfl rfl (Nat.le_of_ble_eq_true rfl) rfl ?_
  refine n_aload d_M_init_229 0 rfl rfl ?_
  refine n_sipush d_M_init_230 (x := 500) (by decide) ?_
  refine n_newa (t := 0) (N' := 500) (a0 := (500, .inl (fun _ => 0))) d_M_init_233 gw_ac_int rfl (fun _ _ h => h) (fun _ => rfl) (by decide) (by decide) (by decide) (by decide) (by decide) (fun q233 => ?_)
  refine n_put (q0 := 0) (ws' := [(h0, .inr (9, [.int 0, .ref q7, .int 0, .int 0, .int 0, .int 0, .ref q16, .int 1, .ref q29, .ref q37, .int 0, .int 0, .int 0, .int 0, .ref q45, .ref q53, .ref q61, .ref q69, .ref q77, .ref q85, .ref q93, .ref q101, .ref q109, .ref q117, .ref q125, .ref q133, .ref q141, .ref q149, .int 0, .int 0, .ref q158, .int 0, .int 0, .int 0, .ref q167, .int 0, .int 0, .ref q175, .ref q182, .ref q190, .ref q197, .int 0, .int 0, .ref q206, .ref q215, .ref q224, .ref q233, .int 0, .int 0, .long 0, .null, .null, .null, .null])), (q7, .inl (v.2.1 0, 64, .inl (fun _ => 0))), (q16, .inl (v.2.1 0, 256, .inl (fun _ => 0))), (q29, .inl (v.2.1 0, 64, .inl (fun _ => 0))), (q37, .inl (v.2.1 0, 64, .inl (fun _ => 0))), (q45, .inl (v.2.1 0, 6, .inl (fun _ => 0))), (q53, .inl (v.2.1 0, 6, .inl (fun _ => 0))), (q61, .inl (v.2.1 0, 6, .inl (fun _ => 0))), (q69, .inl (v.2.1 0, 6, .inl (fun _ => 0))), (q77, .inl (v.2.1 0, 6, .inl (fun _ => 0))), (q85, .inl (v.2.1 2, 6, .inl (fun _ => 0))), (q93, .inl (v.2.1 0, 6, .inl (fun _ => 0))), (q101, .inl (v.2.1 0, 6, .inl (fun _ => 0))), (q109, .inl (v.2.1 0, 6, .inl (fun _ => 0))), (q117, .inl (v.2.1 0, 6, .inl (fun _ => 0))), (q125, .inl (v.2.1 0, 6, .inl (fun _ => 0))), (q133, .inl (v.2.1 2, 6, .inl (fun _ => 0))), (q141, .inl (v.2.1 0, 6, .inl (fun _ => 0))), (q149, .inl (v.2.1 2, 6, .inl (fun _ => 0))), (q158, .inl (v.2.1 2, 4096, .inl (fun _ => 0))), (q167, .inl (v.2.1 0, 1024, .inl (fun _ => 0))), (q175, .inl (v.2.1 0, 16, .inl (fun _ => 0))), (q182, .inl (v.2.1 2, 4, .inl (fun _ => 0))), (q190, .inl (v.2.1 1, 16, .inr (.inl (fun _ => 0)))), (q197, .inl (v.2.1 1, 4, .inr (.inl (fun _ => 0)))), (q206, .inl (v.2.1 0, 512, .inl (fun _ => 0))), (q215, .inl (v.2.1 1, 500, .inr (.inl (fun _ => 0)))), (q224, .inl (v.2.1 0, 500, .inl (fun _ => 0))), (q233, .inl (v.2.1 0, 500, .inl (fun _ => 0)))]) d_M_init_235 fi_M_97 rfl rfl rfl (Nat.le_of_ble_eq_true rfl) rfl ?_
  refine n_aload d_M_init_238 0 rfl rfl ?_
  refine n_bipush d_M_init_239 (x := 68) (by decide) ?_
  refine n_newa (t := 0) (N' := 68) (a0 := (68, .inl (fun _ => 0))) d_M_init_241 gw_ac_int rfl (fun _ _ h => h) (fun _ => rfl) (by decide) (by decide) (by decide) (by decide) (by decide) (fun q241 => ?_)
  refine n_put (q0 := 0) (ws' := [(h0, .inr (9, [.int 0, .ref q7, .int 0, .int 0, .int 0, .int 0, .ref q16, .int 1, .ref q29, .ref q37, .int 0, .int 0, .int 0, .int 0, .ref q45, .ref q53, .ref q61, .ref q69, .ref q77, .ref q85, .ref q93, .ref q101, .ref q109, .ref q117, .ref q125, .ref q133, .ref q141, .ref q149, .int 0, .int 0, .ref q158, .int 0, .int 0, .int 0, .ref q167, .int 0, .int 0, .ref q175, .ref q182, .ref q190, .ref q197, .int 0, .int 0, .ref q206, .ref q215, .ref q224, .ref q233, .int 0, .int 0, .long 0, .ref q241, .null, .null, .null])), (q7, .inl (v.2.1 0, 64, .inl (fun _ => 0))), (q16, .inl (v.2.1 0, 256, .inl (fun _ => 0))), (q29, .inl (v.2.1 0, 64, .inl (fun _ => 0))), (q37, .inl (v.2.1 0, 64, .inl (fun _ => 0))), (q45, .inl (v.2.1 0, 6, .inl (fun _ => 0))), (q53, .inl (v.2.1 0, 6, .inl (fun _ => 0))), (q61, .inl (v.2.1 0, 6, .inl (fun _ => 0))), (q69, .inl (v.2.1 0, 6, .inl (fun _ => 0))), (q77, .inl (v.2.1 0, 6, .inl (fun _ => 0))), (q85, .inl (v.2.1 2, 6, .inl (fun _ => 0))), (q93, .inl (v.2.1 0, 6, .inl (fun _ => 0))), (q101, .inl (v.2.1 0, 6, .inl (fun _ => 0))), (q109, .inl (v.2.1 0, 6, .inl (fun _ => 0))), (q117, .inl (v.2.1 0, 6, .inl (fun _ => 0))), (q125, .inl (v.2.1 0, 6, .inl (fun _ => 0))), (q133, .inl (v.2.1 2, 6, .inl (fun _ => 0))), (q141, .inl (v.2.1 0, 6, .inl (fun _ => 0))), (q149, .inl (v.2.1 2, 6, .inl (fun _ => 0))), (q158, .inl (v.2.1 2, 4096, .inl (fun _ => 0))), (q167, .inl (v.2.1 0, 1024, .inl (fun _ => 0))), (q175, .inl (v.2.1 0, 16, .inl (fun _ => 0))), (q182, .inl (v.2.1 2, 4, .inl (fun _ => 0))), (q190, .inl (v.2.1 1, 16, .inr (.inl (fun _ => 0)))), (q197, .inl (v.2.1 1, 4, .inr (.inl (fun _ => 0)))), (q206, .inl (v.2.1 0, 512, .inl (fun _ => 0))), (q215, .inl (v.2.1 1, 500, .inr (.inl (fun _ => 0)))), (q224, .inl (v.2.1 0, 500, .inl (fun _ => 0))), (q233, .inl (v.2.1 0, 500, .inl (fun _ => 0))), (q241, .inl (v.2.1 0, 68, .inl (fun _ => 0)))]) d_M_init_243 fi_M_100 rfl rfl rfl (Nat.le_of_ble_eq_true rfl) rfl ?_
  refine n_aload d_M_init_246 0 rfl rfl ?_
  refine n_bipush d_M_init_247 (x := 64) (by decide) ?_
  refine n_newa (t := 1) (N' := 64) (a0 := (64, .inr (.inl (fun _ => 0)))) d_M_init_249 gw_ac_long rfl (fun _ _ h => h) (fun _ => rfl) (by decide) (by decide) (by decide) (by decide) (by decide) (fun q249 => ?_)
  refine n_put (q0 := 0) (ws' := [(h0, .inr (9, [.int 0, .ref q7, .int 0, .int 0, .int 0, .int 0, .ref q16, .int 1, .ref q29, .ref q37, .int 0, .int 0, .int 0, .int 0, .ref q45, .ref q53, .ref q61, .ref q69, .ref q77, .ref q85, .ref q93, .ref q101, .ref q109, .ref q117, .ref q125, .ref q133, .ref q141, .ref q149, .int 0, .int 0, .ref q158, .int 0, .int 0, .int 0, .ref q167, .int 0, .int 0, .ref q175, .ref q182, .ref q190, .ref q197, .int 0, .int 0, .ref q206, .ref q215, .ref q224, .ref q233, .int 0, .int 0, .long 0, .ref q241, .ref q249, .null, .null])), (q7, .inl (v.2.1 0, 64, .inl (fun _ => 0))), (q16, .inl (v.2.1 0, 256, .inl (fun _ => 0))), (q29, .inl (v.2.1 0, 64, .inl (fun _ => 0))), (q37, .inl (v.2.1 0, 64, .inl (fun _ => 0))), (q45, .inl (v.2.1 0, 6, .inl (fun _ => 0))), (q53, .inl (v.2.1 0, 6, .inl (fun _ => 0))), (q61, .inl (v.2.1 0, 6, .inl (fun _ => 0))), (q69, .inl (v.2.1 0, 6, .inl (fun _ => 0))), (q77, .inl (v.2.1 0, 6, .inl (fun _ => 0))), (q85, .inl (v.2.1 2, 6, .inl (fun _ => 0))), (q93, .inl (v.2.1 0, 6, .inl (fun _ => 0))), (q101, .inl (v.2.1 0, 6, .inl (fun _ => 0))), (q109, .inl (v.2.1 0, 6, .inl (fun _ => 0))), (q117, .inl (v.2.1 0, 6, .inl (fun _ => 0))), (q125, .inl (v.2.1 0, 6, .inl (fun _ => 0))), (q133, .inl (v.2.1 2, 6, .inl (fun _ => 0))), (q141, .inl (v.2.1 0, 6, .inl (fun _ => 0))), (q149, .inl (v.2.1 2, 6, .inl (fun _ => 0))), (q158, .inl (v.2.1 2, 4096, .inl (fun _ => 0))), (q167, .inl (v.2.1 0, 1024, .inl (fun _ => 0))), (q175, .inl (v.2.1 0, 16, .inl (fun _ => 0))), (q182, .inl (v.2.1 2, 4, .inl (fun _ => 0))), (q190, .inl (v.2.1 1, 16, .inr (.inl (fun _ => 0)))), (q197, .inl (v.2.1 1, 4, .inr (.inl (fun _ => 0)))), (q206, .inl (v.2.1 0, 512, .inl (fun _ => 0))), (q215, .inl (v.2.1 1, 500, .inr (.inl (fun _ => 0)))), (q224, .inl (v.2.1 0, 500, .inl (fun _ => 0))), (q233, .inl (v.2.1 0, 500, .inl (fun _ => 0))), (q241, .inl (v.2.1 0, 68, .inl (fun _ => 0))), (q249, .inl (v.2.1 1, 64, .inr (.inl (fun _ => 0))))]) d_M_init_251 fi_M_103 rfl rfl rfl (Nat.le_of_ble_eq_true rfl) rfl ?_
  refine n_aload d_M_init_254 0 rfl rfl ?_
  refine n_bipush d_M_init_255 (x := 64) (by decide) ?_
  refine n_newa (t := 1) (N' := 64) (a0 := (64, .inr (.inl (fun _ => 0)))) d_M_init_257 gw_ac_long rfl (fun _ _ h => h) (fun _ => rfl) (by decide) (by decide) (by decide) (by decide) (by decide) (fun q257 => ?_)
  refine n_put (q0 := 0) (ws' := [(h0, .inr (9, [.int 0, .ref q7, .int 0, .int 0, .int 0, .int 0, .ref q16, .int 1, .ref q29, .ref q37, .int 0, .int 0, .int 0, .int 0, .ref q45, .ref q53, .ref q61, .ref q69, .ref q77, .ref q85, .ref q93, .ref q101, .ref q109, .ref q117, .ref q125, .ref q133, .ref q141, .ref q149, .int 0, .int 0, .ref q158, .int 0, .int 0, .int 0, .ref q167, .int 0, .int 0, .ref q175, .ref q182, .ref q190, .ref q197, .int 0, .int 0, .ref q206, .ref q215, .ref q224, .ref q233, .int 0, .int 0, .long 0, .ref q241, .ref q249, .ref q257, .null])), (q7, .inl (v.2.1 0, 64, .inl (fun _ => 0))), (q16, .inl (v.2.1 0, 256, .inl (fun _ => 0))), (q29, .inl (v.2.1 0, 64, .inl (fun _ => 0))), (q37, .inl (v.2.1 0, 64, .inl (fun _ => 0))), (q45, .inl (v.2.1 0, 6, .inl (fun _ => 0))), (q53, .inl (v.2.1 0, 6, .inl (fun _ => 0))), (q61, .inl (v.2.1 0, 6, .inl (fun _ => 0))), (q69, .inl (v.2.1 0, 6, .inl (fun _ => 0))), (q77, .inl (v.2.1 0, 6, .inl (fun _ => 0))), (q85, .inl (v.2.1 2, 6, .inl (fun _ => 0))), (q93, .inl (v.2.1 0, 6, .inl (fun _ => 0))), (q101, .inl (v.2.1 0, 6, .inl (fun _ => 0))), (q109, .inl (v.2.1 0, 6, .inl (fun _ => 0))), (q117, .inl (v.2.1 0, 6, .inl (fun _ => 0))), (q125, .inl (v.2.1 0, 6, .inl (fun _ => 0))), (q133, .inl (v.2.1 2, 6, .inl (fun _ => 0))), (q141, .inl (v.2.1 0, 6, .inl (fun _ => 0))), (q149, .inl (v.2.1 2, 6, .inl (fun _ => 0))), (q158, .inl (v.2.1 2, 4096, .inl (fun _ => 0))), (q167, .inl (v.2.1 0, 1024, .inl (fun _ => 0))), (q175, .inl (v.2.1 0, 16, .inl (fun _ => 0))), (q182, .inl (v.2.1 2, 4, .inl (fun _ => 0))), (q190, .inl (v.2.1 1, 16, .inr (.inl (fun _ => 0)))), (q197, .inl (v.2.1 1, 4, .inr (.inl (fun _ => 0)))), (q206, .inl (v.2.1 0, 512, .inl (fun _ => 0))), (q215, .inl (v.2.1 1, 500, .inr (.inl (fun _ => 0)))), (q224, .inl (v.2.1 0, 500, .inl (fun _ => 0))), (q233, .inl (v.2.1 0, 500, .inl (fun _ => 0))), (q241, .inl (v.2.1 0, 68, .inl (fun _ => 0))), (q249, .inl (v.2.1 1, 64, .inr (.inl (fun _ => 0)))), (q257, .inl (v.2.1 1, 64, .inr (.inl (fun _ => 0))))]) d_M_init_259 fi_M_106 rfl rfl rfl (Nat.le_of_ble_eq_true rfl) rfl ?_
  refine n_aload d_M_init_262 0 rfl rfl ?_
  refine n_bipush d_M_init_263 (x := 65) (by decide) ?_
  refine n_newa (t := 1) (N' := 65) (a0 := (65, .inr (.inl (fun _ => 0)))) d_M_init_265 gw_ac_long rfl (fun _ _ h => h) (fun _ => rfl) (by decide) (by decide) (by decide) (by decide) (by decide) (fun q265 => ?_)
  refine n_put (q0 := 0) (ws' := [(h0, .inr (9, [.int 0, .ref q7, .int 0, .int 0, .int 0, .int 0, .ref q16, .int 1, .ref q29, .ref q37, .int 0, .int 0, .int 0, .int 0, .ref q45, .ref q53, .ref q61, .ref q69, .ref q77, .ref q85, .ref q93, .ref q101, .ref q109, .ref q117, .ref q125, .ref q133, .ref q141, .ref q149, .int 0, .int 0, .ref q158, .int 0, .int 0, .int 0, .ref q167, .int 0, .int 0, .ref q175, .ref q182, .ref q190, .ref q197, .int 0, .int 0, .ref q206, .ref q215, .ref q224, .ref q233, .int 0, .int 0, .long 0, .ref q241, .ref q249, .ref q257, .ref q265])), (q7, .inl (v.2.1 0, 64, .inl (fun _ => 0))), (q16, .inl (v.2.1 0, 256, .inl (fun _ => 0))), (q29, .inl (v.2.1 0, 64, .inl (fun _ => 0))), (q37, .inl (v.2.1 0, 64, .inl (fun _ => 0))), (q45, .inl (v.2.1 0, 6, .inl (fun _ => 0))), (q53, .inl (v.2.1 0, 6, .inl (fun _ => 0))), (q61, .inl (v.2.1 0, 6, .inl (fun _ => 0))), (q69, .inl (v.2.1 0, 6, .inl (fun _ => 0))), (q77, .inl (v.2.1 0, 6, .inl (fun _ => 0))), (q85, .inl (v.2.1 2, 6, .inl (fun _ => 0))), (q93, .inl (v.2.1 0, 6, .inl (fun _ => 0))), (q101, .inl (v.2.1 0, 6, .inl (fun _ => 0))), (q109, .inl (v.2.1 0, 6, .inl (fun _ => 0))), (q117, .inl (v.2.1 0, 6, .inl (fun _ => 0))), (q125, .inl (v.2.1 0, 6, .inl (fun _ => 0))), (q133, .inl (v.2.1 2, 6, .inl (fun _ => 0))), (q141, .inl (v.2.1 0, 6, .inl (fun _ => 0))), (q149, .inl (v.2.1 2, 6, .inl (fun _ => 0))), (q158, .inl (v.2.1 2, 4096, .inl (fun _ => 0))), (q167, .inl (v.2.1 0, 1024, .inl (fun _ => 0))), (q175, .inl (v.2.1 0, 16, .inl (fun _ => 0))), (q182, .inl (v.2.1 2, 4, .inl (fun _ => 0))), (q190, .inl (v.2.1 1, 16, .inr (.inl (fun _ => 0)))), (q197, .inl (v.2.1 1, 4, .inr (.inl (fun _ => 0)))), (q206, .inl (v.2.1 0, 512, .inl (fun _ => 0))), (q215, .inl (v.2.1 1, 500, .inr (.inl (fun _ => 0)))), (q224, .inl (v.2.1 0, 500, .inl (fun _ => 0))), (q233, .inl (v.2.1 0, 500, .inl (fun _ => 0))), (q241, .inl (v.2.1 0, 68, .inl (fun _ => 0))), (q249, .inl (v.2.1 1, 64, .inr (.inl (fun _ => 0)))), (q257, .inl (v.2.1 1, 64, .inr (.inl (fun _ => 0)))), (q265, .inl (v.2.1 1, 65, .inr (.inl (fun _ => 0))))]) d_M_init_267 fi_M_109 rfl rfl rfl (Nat.le_of_ble_eq_true rfl) rfl ?_
  exact n_ret (fun k => match k with | 1 => q7 | 2 => q16 | 3 => q29 | 4 => q37 | 5 => q45 | 6 => q53 | 7 => q61 | 8 => q69 | 9 => q77 | 10 => q85 | 11 => q93 | 12 => q101 | 13 => q109 | 14 => q117 | 15 => q125 | 16 => q133 | 17 => q141 | 18 => q149 | 19 => q158 | 20 => q167 | 21 => q175 | 22 => q182 | 23 => q190 | 24 => q197 | 25 => q206 | 26 => q215 | 27 => q224 | 28 => q233 | 29 => q241 | 30 => q249 | 31 => q257 | 32 => q265 | _ => 0) d_M_init_270 rfl
theorem d_A_init_0 : decode me_A_init.2.1 0 = .ok (.aload_n 0, 1) := by decide +kernel
theorem d_A_init_1 : decode me_A_init.2.1 1 = .ok (.invokespecial 1, 3) := by decide +kernel
theorem d_A_init_4 : decode me_A_init.2.1 4 = .ok (.aload_n 0, 1) := by decide +kernel
theorem d_A_init_5 : decode me_A_init.2.1 5 = .ok (.new 7, 3) := by decide +kernel
theorem d_A_init_8 : decode me_A_init.2.1 8 = .ok (.dup, 1) := by decide +kernel
theorem d_A_init_9 : decode me_A_init.2.1 9 = .ok (.invokespecial 9, 3) := by decide +kernel
theorem d_A_init_12 : decode me_A_init.2.1 12 = .ok (.putfield 10, 3) := by decide +kernel
theorem d_A_init_15 : decode me_A_init.2.1 15 = .ok (.aload_n 0, 1) := by decide +kernel
theorem d_A_init_16 : decode me_A_init.2.1 16 = .ok (.new 16, 3) := by decide +kernel
theorem d_A_init_19 : decode me_A_init.2.1 19 = .ok (.dup, 1) := by decide +kernel
theorem d_A_init_20 : decode me_A_init.2.1 20 = .ok (.invokespecial 18, 3) := by decide +kernel
theorem d_A_init_23 : decode me_A_init.2.1 23 = .ok (.putfield 19, 3) := by decide +kernel
theorem d_A_init_26 : decode me_A_init.2.1 26 = .ok (.aload_n 0, 1) := by decide +kernel
theorem d_A_init_27 : decode me_A_init.2.1 27 = .ok (.new 23, 3) := by decide +kernel
theorem d_A_init_30 : decode me_A_init.2.1 30 = .ok (.dup, 1) := by decide +kernel
theorem d_A_init_31 : decode me_A_init.2.1 31 = .ok (.aload_n 0, 1) := by decide +kernel
theorem d_A_init_32 : decode me_A_init.2.1 32 = .ok (.getfield 19, 3) := by decide +kernel
theorem d_A_init_35 : decode me_A_init.2.1 35 = .ok (.invokespecial 25, 3) := by decide +kernel
theorem d_A_init_38 : decode me_A_init.2.1 38 = .ok (.putfield 28, 3) := by decide +kernel
theorem d_A_init_41 : decode me_A_init.2.1 41 = .ok (.aload_n 0, 1) := by decide +kernel
theorem d_A_init_42 : decode me_A_init.2.1 42 = .ok (.new 32, 3) := by decide +kernel
theorem d_A_init_45 : decode me_A_init.2.1 45 = .ok (.dup, 1) := by decide +kernel
theorem d_A_init_46 : decode me_A_init.2.1 46 = .ok (.aload_n 0, 1) := by decide +kernel
theorem d_A_init_47 : decode me_A_init.2.1 47 = .ok (.getfield 19, 3) := by decide +kernel
theorem d_A_init_50 : decode me_A_init.2.1 50 = .ok (.invokespecial 34, 3) := by decide +kernel
theorem d_A_init_53 : decode me_A_init.2.1 53 = .ok (.putfield 35, 3) := by decide +kernel
theorem d_A_init_56 : decode me_A_init.2.1 56 = .ok (.aload_n 0, 1) := by decide +kernel
theorem d_A_init_57 : decode me_A_init.2.1 57 = .ok (.new 39, 3) := by decide +kernel
theorem d_A_init_60 : decode me_A_init.2.1 60 = .ok (.dup, 1) := by decide +kernel
theorem d_A_init_61 : decode me_A_init.2.1 61 = .ok (.aload_n 0, 1) := by decide +kernel
theorem d_A_init_62 : decode me_A_init.2.1 62 = .ok (.getfield 19, 3) := by decide +kernel
theorem d_A_init_65 : decode me_A_init.2.1 65 = .ok (.aload_n 0, 1) := by decide +kernel
theorem d_A_init_66 : decode me_A_init.2.1 66 = .ok (.getfield 35, 3) := by decide +kernel
theorem d_A_init_69 : decode me_A_init.2.1 69 = .ok (.invokespecial 41, 3) := by decide +kernel
theorem d_A_init_72 : decode me_A_init.2.1 72 = .ok (.putfield 44, 3) := by decide +kernel
theorem d_A_init_75 : decode me_A_init.2.1 75 = .ok (.aload_n 0, 1) := by decide +kernel
theorem d_A_init_76 : decode me_A_init.2.1 76 = .ok (.new 48, 3) := by decide +kernel
theorem d_A_init_79 : decode me_A_init.2.1 79 = .ok (.dup, 1) := by decide +kernel
theorem d_A_init_80 : decode me_A_init.2.1 80 = .ok (.aload_n 0, 1) := by decide +kernel
theorem d_A_init_81 : decode me_A_init.2.1 81 = .ok (.getfield 19, 3) := by decide +kernel
theorem d_A_init_84 : decode me_A_init.2.1 84 = .ok (.invokespecial 50, 3) := by decide +kernel
theorem d_A_init_87 : decode me_A_init.2.1 87 = .ok (.putfield 51, 3) := by decide +kernel
theorem d_A_init_90 : decode me_A_init.2.1 90 = .ok (.aload_n 0, 1) := by decide +kernel
theorem d_A_init_91 : decode me_A_init.2.1 91 = .ok (.new 55, 3) := by decide +kernel
theorem d_A_init_94 : decode me_A_init.2.1 94 = .ok (.dup, 1) := by decide +kernel
theorem d_A_init_95 : decode me_A_init.2.1 95 = .ok (.aload_n 0, 1) := by decide +kernel
theorem d_A_init_96 : decode me_A_init.2.1 96 = .ok (.getfield 19, 3) := by decide +kernel
theorem d_A_init_99 : decode me_A_init.2.1 99 = .ok (.aload_n 0, 1) := by decide +kernel
theorem d_A_init_100 : decode me_A_init.2.1 100 = .ok (.getfield 35, 3) := by decide +kernel
theorem d_A_init_103 : decode me_A_init.2.1 103 = .ok (.invokespecial 57, 3) := by decide +kernel
theorem d_A_init_106 : decode me_A_init.2.1 106 = .ok (.putfield 58, 3) := by decide +kernel
theorem d_A_init_109 : decode me_A_init.2.1 109 = .ok (.aload_n 0, 1) := by decide +kernel
theorem d_A_init_110 : decode me_A_init.2.1 110 = .ok (.new 62, 3) := by decide +kernel
theorem d_A_init_113 : decode me_A_init.2.1 113 = .ok (.dup, 1) := by decide +kernel
theorem d_A_init_114 : decode me_A_init.2.1 114 = .ok (.aload_n 0, 1) := by decide +kernel
theorem d_A_init_115 : decode me_A_init.2.1 115 = .ok (.getfield 19, 3) := by decide +kernel
theorem d_A_init_118 : decode me_A_init.2.1 118 = .ok (.aload_n 0, 1) := by decide +kernel
theorem d_A_init_119 : decode me_A_init.2.1 119 = .ok (.getfield 28, 3) := by decide +kernel
theorem d_A_init_122 : decode me_A_init.2.1 122 = .ok (.invokespecial 64, 3) := by decide +kernel
theorem d_A_init_125 : decode me_A_init.2.1 125 = .ok (.putfield 67, 3) := by decide +kernel
theorem d_A_init_128 : decode me_A_init.2.1 128 = .ok (.return_, 1) := by decide +kernel
theorem lo_A : Cond.methodLink "LineRules" 1 objectInit ∈ gw := (gw_t1 (List.mem_of_getElem? (i := 19) rfl) rfl)
theorem nw_A_7 : gNw "LineRules" 7 1 9 tyX1 := ⟨"LineRules$Text", TX1, rfl, inX1, tyX1_ok, (gw_t1 (List.mem_of_getElem? (i := 22) rfl) rfl), (gw_t1 (List.mem_of_getElem? (i := 23) rfl) rfl), (gw_t1 (List.mem_of_getElem? (i := 2) rfl) rfl)⟩
theorem im_T : Cond.instanceMethod me_T_init.1 ∈ gw := (gw_t1 (List.mem_of_getElem? (i := 25) rfl) rfl)
theorem fi_A_10 : gFi "LineRules" 10 0 0 (.object "LineRules$Text") := ⟨"LineRules", TX0, 8, tyX0, rfl, by decide, inX0, (gw_t2 (List.mem_of_getElem? (i := 66) rfl) rfl), rfl, tyX0_ok, nmX0, rfl, by decide +kernel⟩
theorem nw_A_16 : gNw "LineRules" 16 2 10 tyX2 := ⟨"LineRules$Rule", TX2, rfl, inX2, tyX2_ok, (gw_t1 (List.mem_of_getElem? (i := 58) rfl) rfl), (gw_t1 (List.mem_of_getElem? (i := 59) rfl) rfl), (gw_t1 (List.mem_of_getElem? (i := 3) rfl) rfl)⟩
theorem im_R : Cond.instanceMethod me_R_init.1 ∈ gw := (gw_t1 (List.mem_of_getElem? (i := 61) rfl) rfl)
theorem fi_A_19 : gFi "LineRules" 19 0 1 (.object "LineRules$Rule") := ⟨"LineRules", TX0, 8, tyX0, rfl, by decide, inX0, (gw_t2 (List.mem_of_getElem? (i := 67) rfl) rfl), rfl, tyX0_ok, nmX0, rfl, by decide +kernel⟩
theorem nw_A_23 : gNw "LineRules" 23 3 5 tyX3 := ⟨"LineRules$Ring", TX3, rfl, inX3, tyX3_ok, (gw_t1 (List.mem_of_getElem? (i := 126) rfl) rfl), (gw_t1 (List.mem_of_getElem? (i := 127) rfl) rfl), (gw_t1 (List.mem_of_getElem? (i := 4) rfl) rfl)⟩
theorem im_C : Cond.instanceMethod me_C_init.1 ∈ gw := (gw_t1 (List.mem_of_getElem? (i := 129) rfl) rfl)
theorem fi_A_28 : gFi "LineRules" 28 0 2 (.object "LineRules$Ring") := ⟨"LineRules", TX0, 8, tyX0, rfl, by decide, inX0, (gw_t2 (List.mem_of_getElem? (i := 68) rfl) rfl), rfl, tyX0_ok, nmX0, rfl, by decide +kernel⟩
theorem nw_A_32 : gNw "LineRules" 32 4 7 tyX4 := ⟨"LineRules$Pairs", TX4, rfl, inX4, tyX4_ok, (gw_t1 (List.mem_of_getElem? (i := 152) rfl) rfl), (gw_t1 (List.mem_of_getElem? (i := 153) rfl) rfl), (gw_t1 (List.mem_of_getElem? (i := 5) rfl) rfl)⟩
theorem im_P : Cond.instanceMethod me_P_init.1 ∈ gw := (gw_t1 (List.mem_of_getElem? (i := 155) rfl) rfl)
theorem fi_A_35 : gFi "LineRules" 35 0 3 (.object "LineRules$Pairs") := ⟨"LineRules", TX0, 8, tyX0, rfl, by decide, inX0, (gw_t2 (List.mem_of_getElem? (i := 69) rfl) rfl), rfl, tyX0_ok, nmX0, rfl, by decide +kernel⟩
theorem nw_A_39 : gNw "LineRules" 39 5 6 tyX5 := ⟨"LineRules$Inverse", TX5, rfl, inX5, tyX5_ok, (gw_t1 (List.mem_of_getElem? (i := 180) rfl) rfl), (gw_t1 (List.mem_of_getElem? (i := 181) rfl) rfl), (gw_t1 (List.mem_of_getElem? (i := 6) rfl) rfl)⟩
theorem im_V : Cond.instanceMethod me_V_init.1 ∈ gw := (gw_t1 (List.mem_of_getElem? (i := 183) rfl) rfl)
theorem fi_A_44 : gFi "LineRules" 44 0 4 (.object "LineRules$Inverse") := ⟨"LineRules", TX0, 8, tyX0, rfl, by decide, inX0, (gw_t2 (List.mem_of_getElem? (i := 70) rfl) rfl), rfl, tyX0_ok, nmX0, rfl, by decide +kernel⟩
theorem nw_A_48 : gNw "LineRules" 48 6 6 tyX6 := ⟨"LineRules$Weights", TX6, rfl, inX6, tyX6_ok, (gw_t1 (List.mem_of_getElem? (i := 205) rfl) rfl), (gw_t1 (List.mem_of_getElem? (i := 206) rfl) rfl), (gw_t1 (List.mem_of_getElem? (i := 7) rfl) rfl)⟩
theorem im_W : Cond.instanceMethod me_W_init.1 ∈ gw := (gw_t1 (List.mem_of_getElem? (i := 208) rfl) rfl)
theorem fi_A_51 : gFi "LineRules" 51 0 5 (.object "LineRules$Weights") := ⟨"LineRules", TX0, 8, tyX0, rfl, by decide, inX0, (gw_t2 (List.mem_of_getElem? (i := 71) rfl) rfl), rfl, tyX0_ok, nmX0, rfl, by decide +kernel⟩
theorem nw_A_55 : gNw "LineRules" 55 7 10 tyX7 := ⟨"LineRules$Orphan", TX7, rfl, inX7, tyX7_ok, (gw_t1 (List.mem_of_getElem? (i := 232) rfl) rfl), (gw_t1 (List.mem_of_getElem? (i := 233) rfl) rfl), (gw_t1 (List.mem_of_getElem? (i := 8) rfl) rfl)⟩
theorem im_O : Cond.instanceMethod me_O_init.1 ∈ gw := (gw_t1 (List.mem_of_getElem? (i := 235) rfl) rfl)
theorem fi_A_58 : gFi "LineRules" 58 0 6 (.object "LineRules$Orphan") := ⟨"LineRules", TX0, 8, tyX0, rfl, by decide, inX0, (gw_t2 (List.mem_of_getElem? (i := 72) rfl) rfl), rfl, tyX0_ok, nmX0, rfl, by decide +kernel⟩
theorem nw_A_62 : gNw "LineRules" 62 8 10 tyX8 := ⟨"LineRules$Past", TX8, rfl, inX8, tyX8_ok, (gw_t2 (List.mem_of_getElem? (i := 29) rfl) rfl), (gw_t2 (List.mem_of_getElem? (i := 30) rfl) rfl), (gw_t1 (List.mem_of_getElem? (i := 9) rfl) rfl)⟩
theorem im_H : Cond.instanceMethod me_H_init.1 ∈ gw := (gw_t2 (List.mem_of_getElem? (i := 32) rfl) rfl)
theorem fi_A_67 : gFi "LineRules" 67 0 7 (.object "LineRules$Past") := ⟨"LineRules", TX0, 8, tyX0, rfl, by decide, inX0, (gw_t2 (List.mem_of_getElem? (i := 73) rfl) rfl), rfl, tyX0_ok, nmX0, rfl, by decide +kernel⟩
abbrev rm_A : Room := { frames := 2, cells := 41, slots := 4809, locals := 60 }
def sgC : gs_S := (fun k => if k = 1 then (fun j => if j = 3 then 2 else if j = 4 then 1 else if j = 5 then 84 else 0) else if k = 4 then (fun j => if j = 6 then 2 else if j = 7 then 1 else if j = 8 then 2 else if j = 9 then 1 else 0) else if k = 10 then (fun j => if j = 1 then 1 else 0) else fun _ => 0, fun _ => fun _ => 0, fun k => if k = 37 then (fun j => if j = 4 then 40 else if j = 5 then 41 else 0) else fun _ => 0)
set_option maxRecDepth 100000 in
set_option maxHeartbeats 4000000 in
theorem N_A {l : Launch} {v : gs_V} {h0 : Nat} : gMn l v me_A_init rm_A 41 4809 [.ref h0] [(h0, .inr (0, [.null, .null, .null, .null, .null, .null, .null, .null]))] (fun u => gs_w (v.1, v.2.1, gs_ad h0 u) lyC 42 sgC) := by
  refine gMn_of (by decide +kernel) rfl rfl (Nat.le_of_ble_eq_true rfl) ?_
  refine n_aload d_A_init_0 0 rfl rfl ?_
  refine n_obj d_A_init_1 lo_A (by decide) (by decide) ?_
  refine n_aload d_A_init_4 0 rfl rfl ?_
  refine n_new (fs := [.null, .null, .int 0, .int 0, .int 0, .int 0, .int 0, .int 0, .int 0]) d_A_init_5 nw_A_7 (by decide +kernel) (by decide) (by decide) (fun q5 => ?_)
  refine n_dup d_A_init_8 rfl ?_
  refine n_callI (av := []) (rest := [.ref q5, .ref h0]) (ws0 := [(q5, .inr (1, [.null, .null, .int 0, .int 0, .int 0, .int 0, .int 0, .int 0, .int 0]))]) (wr := [(h0, .inr (0, [.null, .null, .null, .null, .null, .null, .null, .null]))]) [1] [0] d_A_init_9 Y_T_init (Or.inr ⟨"LineRules", lk_A_9⟩) rfl rfl im_T ⟨rfl, rfl, by decide, by decide⟩ rfl (Nat.le_of_ble_eq_true rfl) rfl ⟨by decide, by decide⟩ rfl rfl (by decide) (by decide) (by decide) N_T (fun u9 => ?_)
  refine n_put (q0 := 0) (ws' := [(h0, .inr (0, [.ref q5, .null, .null, .null, .null, .null, .null, .null])), (q5, .inr (1, [.ref (u9 1), .ref (u9 2), .int 0, .int 2, .int 1, .int 84, .int 0, .int 0, .int 0])), (u9 1, .inl (v.2.1 3, 64, .inl (fun _ => 0))), (u9 2, .inl (v.2.1 0, 4, .inl (fun _ => 0)))]) d_A_init_12 fi_A_10 rfl rfl rfl (Nat.le_of_ble_eq_true rfl) rfl ?_
  refine n_aload d_A_init_15 0 rfl rfl ?_
  refine n_new (fs := [.null, .null, .null, .null, .null, .int 0, .int 0, .int 0, .int 0, .int 0]) d_A_init_16 nw_A_16 (by decide +kernel) (by decide) (by decide) (fun q16 => ?_)
  refine n_dup d_A_init_19 rfl ?_
  refine n_callI (av := []) (rest := [.ref q16, .ref h0]) (ws0 := [(q16, .inr (2, [.null, .null, .null, .null, .null, .int 0, .int 0, .int 0, .int 0, .int 0]))]) (wr := [(h0, .inr (0, [.ref q5, .null, .null, .null, .null, .null, .null, .null])), (q5, .inr (1, [.ref (u9 1), .ref (u9 2), .int 0, .int 2, .int 1, .int 84, .int 0, .int 0, .int 0])), (u9 1, .inl (v.2.1 3, 64, .inl (fun _ => 0))), (u9 2, .inl (v.2.1 0, 4, .inl (fun _ => 0)))]) [4] [0, 1, 2, 3] d_A_init_20 Y_R_init (Or.inr ⟨"LineRules", lk_A_18⟩) rfl rfl im_R ⟨rfl, rfl, by decide, by decide⟩ rfl (Nat.le_of_ble_eq_true rfl) rfl ⟨by decide, by decide⟩ rfl rfl (by decide) (by decide) (by decide) N_R (fun u20 => ?_)
  refine n_put (q0 := 0) (ws' := [(h0, .inr (0, [.ref q5, .ref q16, .null, .null, .null, .null, .null, .null])), (q5, .inr (1, [.ref (u9 1), .ref (u9 2), .int 0, .int 2, .int 1, .int 84, .int 0, .int 0, .int 0])), (u9 1, .inl (v.2.1 3, 64, .inl (fun _ => 0))), (u9 2, .inl (v.2.1 0, 4, .inl (fun _ => 0))), (q16, .inr (2, [.ref (u20 1), .ref (u20 2), .ref (u20 3), .ref (u20 4), .ref (u20 5), .int 0, .int 2, .int 1, .int 2, .int 1])), (u20 1, .inl (v.2.1 0, 256, .inl (fun _ => 0))), (u20 2, .inl (v.2.1 1, 256, .inr (.inl (fun _ => 0)))), (u20 3, .inl (v.2.1 0, 256, .inl (fun _ => 0))), (u20 4, .inl (v.2.1 0, 256, .inl (fun _ => 0))), (u20 5, .inl (v.2.1 0, 5, .inl (fun _ => 0)))]) d_A_init_23 fi_A_19 rfl rfl rfl (Nat.le_of_ble_eq_true rfl) rfl ?_
  refine n_aload d_A_init_26 0 rfl rfl ?_
  refine n_new (fs := [.null, .int 0, .null, .null, .null]) d_A_init_27 nw_A_23 (by decide +kernel) (by decide) (by decide) (fun q27 => ?_)
  refine n_dup d_A_init_30 rfl ?_
  refine n_aload d_A_init_31 0 rfl rfl ?_
  refine n_get (q0 := 0) d_A_init_32 fl_A_19 rfl rfl ?_
  refine n_callI (av := [.ref q16]) (rest := [.ref q27, .ref h0]) (ws0 := [(q27, .inr (3, [.null, .int 0, .null, .null, .null]))]) (wr := [(h0, .inr (0, [.ref q5, .ref q16, .null, .null, .null, .null, .null, .null])), (q5, .inr (1, [.ref (u9 1), .ref (u9 2), .int 0, .int 2, .int 1, .int 84, .int 0, .int 0, .int 0])), (u9 1, .inl (v.2.1 3, 64, .inl (fun _ => 0))), (u9 2, .inl (v.2.1 0, 4, .inl (fun _ => 0))), (q16, .inr (2, [.ref (u20 1), .ref (u20 2), .ref (u20 3), .ref (u20 4), .ref (u20 5), .int 0, .int 2, .int 1, .int 2, .int 1])), (u20 1, .inl (v.2.1 0, 256, .inl (fun _ => 0))), (u20 2, .inl (v.2.1 1, 256, .inr (.inl (fun _ => 0)))), (u20 3, .inl (v.2.1 0, 256, .inl (fun _ => 0))), (u20 4, .inl (v.2.1 0, 256, .inl (fun _ => 0))), (u20 5, .inl (v.2.1 0, 5, .inl (fun _ => 0)))]) [10] [0, 1, 2, 3, 4, 5, 6, 7, 8, 9] d_A_init_35 Y_C_init (Or.inl lk_A_25) rfl rfl im_C ⟨rfl, rfl, by decide, by decide⟩ rfl (Nat.le_of_ble_eq_true rfl) rfl ⟨by decide, by decide⟩ rfl rfl (by decide) (by decide) (by decide) N_C (fun u35 => ?_)
  refine n_put (q0 := 0) (ws' := [(h0, .inr (0, [.ref q5, .ref q16, .ref q27, .null, .null, .null, .null, .null])), (q5, .inr (1, [.ref (u9 1), .ref (u9 2), .int 0, .int 2, .int 1, .int 84, .int 0, .int 0, .int 0])), (u9 1, .inl (v.2.1 3, 64, .inl (fun _ => 0))), (u9 2, .inl (v.2.1 0, 4, .inl (fun _ => 0))), (q16, .inr (2, [.ref (u20 1), .ref (u20 2), .ref (u20 3), .ref (u20 4), .ref (u20 5), .int 0, .int 2, .int 1, .int 2, .int 1])), (u20 1, .inl (v.2.1 0, 256, .inl (fun _ => 0))), (u20 2, .inl (v.2.1 1, 256, .inr (.inl (fun _ => 0)))), (u20 3, .inl (v.2.1 0, 256, .inl (fun _ => 0))), (u20 4, .inl (v.2.1 0, 256, .inl (fun _ => 0))), (u20 5, .inl (v.2.1 0, 5, .inl (fun _ => 0))), (q27, .inr (3, [.ref (u35 1), .int 1, .ref q16, .ref (u35 2), .ref (u35 3)])), (u35 1, .inl (v.2.1 0, 64, .inl (fun _ => 0))), (u35 2, .inl (v.2.1 0, 64, .inl (fun _ => 0))), (u35 3, .inl (v.2.1 0, 64, .inl (fun _ => 0)))]) d_A_init_38 fi_A_28 rfl rfl rfl (Nat.le_of_ble_eq_true rfl) rfl ?_
  refine n_aload d_A_init_41 0 rfl rfl ?_
  refine n_new (fs := [.null, .null, .null, .int 0, .int 0, .int 0, .int 0]) d_A_init_42 nw_A_32 (by decide +kernel) (by decide) (by decide) (fun q42 => ?_)
  refine n_dup d_A_init_45 rfl ?_
  refine n_aload d_A_init_46 0 rfl rfl ?_
  refine n_get (q0 := 0) d_A_init_47 fl_A_19 rfl rfl ?_
  refine n_callI (av := [.ref q16]) (rest := [.ref q42, .ref h0]) (ws0 := [(q42, .inr (4, [.null, .null, .null, .int 0, .int 0, .int 0, .int 0]))]) (wr := [(h0, .inr (0, [.ref q5, .ref q16, .ref q27, .null, .null, .null, .null, .null])), (q5, .inr (1, [.ref (u9 1), .ref (u9 2), .int 0, .int 2, .int 1, .int 84, .int 0, .int 0, .int 0])), (u9 1, .inl (v.2.1 3, 64, .inl (fun _ => 0))), (u9 2, .inl (v.2.1 0, 4, .inl (fun _ => 0))), (q16, .inr (2, [.ref (u20 1), .ref (u20 2), .ref (u20 3), .ref (u20 4), .ref (u20 5), .int 0, .int 2, .int 1, .int 2, .int 1])), (u20 1, .inl (v.2.1 0, 256, .inl (fun _ => 0))), (u20 2, .inl (v.2.1 1, 256, .inr (.inl (fun _ => 0)))), (u20 3, .inl (v.2.1 0, 256, .inl (fun _ => 0))), (u20 4, .inl (v.2.1 0, 256, .inl (fun _ => 0))), (u20 5, .inl (v.2.1 0, 5, .inl (fun _ => 0))), (q27, .inr (3, [.ref (u35 1), .int 1, .ref q16, .ref (u35 2), .ref (u35 3)])), (u35 1, .inl (v.2.1 0, 64, .inl (fun _ => 0))), (u35 2, .inl (v.2.1 0, 64, .inl (fun _ => 0))), (u35 3, .inl (v.2.1 0, 64, .inl (fun _ => 0)))]) [14] [0, 1, 2, 3, 4, 5, 6, 7, 8, 9, 10, 11, 12, 13] d_A_init_50 Y_P_init (Or.inl lk_A_34) rfl rfl im_P ⟨rfl, rfl, by decide, by decide⟩ rfl (Nat.le_of_ble_eq_true rfl) rfl ⟨by decide, by decide⟩ rfl rfl (by decide) (by decide) (by decide) N_P (fun u50 => ?_)
  refine n_put (q0 := 0) (ws' := [(h0, .inr (0, [.ref q5, .ref q16, .ref q27, .ref q42, .null, .null, .null, .null])), (q5, .inr (1, [.ref (u9 1), .ref (u9 2), .int 0, .int 2, .int 1, .int 84, .int 0, .int 0, .int 0])), (u9 1, .inl (v.2.1 3, 64, .inl (fun _ => 0))), (u9 2, .inl (v.2.1 0, 4, .inl (fun _ => 0))), (q16, .inr (2, [.ref (u20 1), .ref (u20 2), .ref (u20 3), .ref (u20 4), .ref (u20 5), .int 0, .int 2, .int 1, .int 2, .int 1])), (u20 1, .inl (v.2.1 0, 256, .inl (fun _ => 0))), (u20 2, .inl (v.2.1 1, 256, .inr (.inl (fun _ => 0)))), (u20 3, .inl (v.2.1 0, 256, .inl (fun _ => 0))), (u20 4, .inl (v.2.1 0, 256, .inl (fun _ => 0))), (u20 5, .inl (v.2.1 0, 5, .inl (fun _ => 0))), (q27, .inr (3, [.ref (u35 1), .int 1, .ref q16, .ref (u35 2), .ref (u35 3)])), (u35 1, .inl (v.2.1 0, 64, .inl (fun _ => 0))), (u35 2, .inl (v.2.1 0, 64, .inl (fun _ => 0))), (u35 3, .inl (v.2.1 0, 64, .inl (fun _ => 0))), (q42, .inr (4, [.ref q16, .ref (u50 1), .ref (u50 2), .int 0, .int 0, .int 0, .int 0])), (u50 1, .inl (v.2.1 1, 64, .inr (.inl (fun _ => 0)))), (u50 2, .inl (v.2.1 1, 64, .inr (.inl (fun _ => 0))))]) d_A_init_53 fi_A_35 rfl rfl rfl (Nat.le_of_ble_eq_true rfl) rfl ?_
  refine n_aload d_A_init_56 0 rfl rfl ?_
  refine n_new (fs := [.null, .null, .null, .int 0, .int 0, .int 0]) d_A_init_57 nw_A_39 (by decide +kernel) (by decide) (by decide) (fun q57 => ?_)
  refine n_dup d_A_init_60 rfl ?_
  refine n_aload d_A_init_61 0 rfl rfl ?_
  refine n_get (q0 := 0) d_A_init_62 fl_A_19 rfl rfl ?_
  refine n_aload d_A_init_65 0 rfl rfl ?_
  refine n_get (q0 := 0) d_A_init_66 fl_A_35 rfl rfl ?_
  refine n_callI (av := [.ref q16, .ref q42]) (rest := [.ref q57, .ref h0]) (ws0 := [(q57, .inr (5, [.null, .null, .null, .int 0, .int 0, .int 0]))]) (wr := [(h0, .inr (0, [.ref q5, .ref q16, .ref q27, .ref q42, .null, .null, .null, .null])), (q5, .inr (1, [.ref (u9 1), .ref (u9 2), .int 0, .int 2, .int 1, .int 84, .int 0, .int 0, .int 0])), (u9 1, .inl (v.2.1 3, 64, .inl (fun _ => 0))), (u9 2, .inl (v.2.1 0, 4, .inl (fun _ => 0))), (q16, .inr (2, [.ref (u20 1), .ref (u20 2), .ref (u20 3), .ref (u20 4), .ref (u20 5), .int 0, .int 2, .int 1, .int 2, .int 1])), (u20 1, .inl (v.2.1 0, 256, .inl (fun _ => 0))), (u20 2, .inl (v.2.1 1, 256, .inr (.inl (fun _ => 0)))), (u20 3, .inl (v.2.1 0, 256, .inl (fun _ => 0))), (u20 4, .inl (v.2.1 0, 256, .inl (fun _ => 0))), (u20 5, .inl (v.2.1 0, 5, .inl (fun _ => 0))), (q27, .inr (3, [.ref (u35 1), .int 1, .ref q16, .ref (u35 2), .ref (u35 3)])), (u35 1, .inl (v.2.1 0, 64, .inl (fun _ => 0))), (u35 2, .inl (v.2.1 0, 64, .inl (fun _ => 0))), (u35 3, .inl (v.2.1 0, 64, .inl (fun _ => 0))), (q42, .inr (4, [.ref q16, .ref (u50 1), .ref (u50 2), .int 0, .int 0, .int 0, .int 0])), (u50 1, .inl (v.2.1 1, 64, .inr (.inl (fun _ => 0)))), (u50 2, .inl (v.2.1 1, 64, .inr (.inl (fun _ => 0))))]) [17] [0, 1, 2, 3, 4, 5, 6, 7, 8, 9, 10, 11, 12, 13, 14, 15, 16] d_A_init_69 Y_V_init (Or.inl lk_A_41) rfl rfl im_V ⟨rfl, rfl, by decide, by decide⟩ rfl (Nat.le_of_ble_eq_true rfl) rfl ⟨by decide, by decide⟩ rfl rfl (by decide) (by decide) (by decide) N_V (fun u69 => ?_)
  refine n_put (q0 := 0) (ws' := [(h0, .inr (0, [.ref q5, .ref q16, .ref q27, .ref q42, .ref q57, .null, .null, .null])), (q5, .inr (1, [.ref (u9 1), .ref (u9 2), .int 0, .int 2, .int 1, .int 84, .int 0, .int 0, .int 0])), (u9 1, .inl (v.2.1 3, 64, .inl (fun _ => 0))), (u9 2, .inl (v.2.1 0, 4, .inl (fun _ => 0))), (q16, .inr (2, [.ref (u20 1), .ref (u20 2), .ref (u20 3), .ref (u20 4), .ref (u20 5), .int 0, .int 2, .int 1, .int 2, .int 1])), (u20 1, .inl (v.2.1 0, 256, .inl (fun _ => 0))), (u20 2, .inl (v.2.1 1, 256, .inr (.inl (fun _ => 0)))), (u20 3, .inl (v.2.1 0, 256, .inl (fun _ => 0))), (u20 4, .inl (v.2.1 0, 256, .inl (fun _ => 0))), (u20 5, .inl (v.2.1 0, 5, .inl (fun _ => 0))), (q27, .inr (3, [.ref (u35 1), .int 1, .ref q16, .ref (u35 2), .ref (u35 3)])), (u35 1, .inl (v.2.1 0, 64, .inl (fun _ => 0))), (u35 2, .inl (v.2.1 0, 64, .inl (fun _ => 0))), (u35 3, .inl (v.2.1 0, 64, .inl (fun _ => 0))), (q42, .inr (4, [.ref q16, .ref (u50 1), .ref (u50 2), .int 0, .int 0, .int 0, .int 0])), (u50 1, .inl (v.2.1 1, 64, .inr (.inl (fun _ => 0)))), (u50 2, .inl (v.2.1 1, 64, .inr (.inl (fun _ => 0)))), (q57, .inr (5, [.ref q16, .ref q42, .ref (u69 1), .int 0, .int 0, .int 0])), (u69 1, .inl (v.2.1 0, 1024, .inl (fun _ => 0)))]) d_A_init_72 fi_A_44 rfl rfl rfl (Nat.le_of_ble_eq_true rfl) rfl ?_
  refine n_aload d_A_init_75 0 rfl rfl ?_
  refine n_new (fs := [.null, .null, .null, .null, .int 0, .int 0]) d_A_init_76 nw_A_48 (by decide +kernel) (by decide) (by decide) (fun q76 => ?_)
  refine n_dup d_A_init_79 rfl ?_
  refine n_aload d_A_init_80 0 rfl rfl ?_
  refine n_get (q0 := 0) d_A_init_81 fl_A_19 rfl rfl ?_
  refine n_callI (av := [.ref q16]) (rest := [.ref q76, .ref h0]) (ws0 := [(q76, .inr (6, [.null, .null, .null, .null, .int 0, .int 0]))]) (wr := [(h0, .inr (0, [.ref q5, .ref q16, .ref q27, .ref q42, .ref q57, .null, .null, .null])), (q5, .inr (1, [.ref (u9 1), .ref (u9 2), .int 0, .int 2, .int 1, .int 84, .int 0, .int 0, .int 0])), (u9 1, .inl (v.2.1 3, 64, .inl (fun _ => 0))), (u9 2, .inl (v.2.1 0, 4, .inl (fun _ => 0))), (q16, .inr (2, [.ref (u20 1), .ref (u20 2), .ref (u20 3), .ref (u20 4), .ref (u20 5), .int 0, .int 2, .int 1, .int 2, .int 1])), (u20 1, .inl (v.2.1 0, 256, .inl (fun _ => 0))), (u20 2, .inl (v.2.1 1, 256, .inr (.inl (fun _ => 0)))), (u20 3, .inl (v.2.1 0, 256, .inl (fun _ => 0))), (u20 4, .inl (v.2.1 0, 256, .inl (fun _ => 0))), (u20 5, .inl (v.2.1 0, 5, .inl (fun _ => 0))), (q27, .inr (3, [.ref (u35 1), .int 1, .ref q16, .ref (u35 2), .ref (u35 3)])), (u35 1, .inl (v.2.1 0, 64, .inl (fun _ => 0))), (u35 2, .inl (v.2.1 0, 64, .inl (fun _ => 0))), (u35 3, .inl (v.2.1 0, 64, .inl (fun _ => 0))), (q42, .inr (4, [.ref q16, .ref (u50 1), .ref (u50 2), .int 0, .int 0, .int 0, .int 0])), (u50 1, .inl (v.2.1 1, 64, .inr (.inl (fun _ => 0)))), (u50 2, .inl (v.2.1 1, 64, .inr (.inl (fun _ => 0)))), (q57, .inr (5, [.ref q16, .ref q42, .ref (u69 1), .int 0, .int 0, .int 0])), (u69 1, .inl (v.2.1 0, 1024, .inl (fun _ => 0)))]) [19] [0, 1, 2, 3, 4, 5, 6, 7, 8, 9, 10, 11, 12, 13, 14, 15, 16, 17, 18] d_A_init_84 Y_W_init (Or.inl lk_A_50) rfl rfl im_W ⟨rfl, rfl, by decide, by decide⟩ rfl (Nat.le_of_ble_eq_true rfl) rfl ⟨by decide, by decide⟩ rfl rfl (by decide) (by decide) (by decide) N_W (fun u84 => ?_)
  refine n_put (q0 := 0) (ws' := [(h0, .inr (0, [.ref q5, .ref q16, .ref q27, .ref q42, .ref q57, .ref q76, .null, .null])), (q5, .inr (1, [.ref (u9 1), .ref (u9 2), .int 0, .int 2, .int 1, .int 84, .int 0, .int 0, .int 0])), (u9 1, .inl (v.2.1 3, 64, .inl (fun _ => 0))), (u9 2, .inl (v.2.1 0, 4, .inl (fun _ => 0))), (q16, .inr (2, [.ref (u20 1), .ref (u20 2), .ref (u20 3), .ref (u20 4), .ref (u20 5), .int 0, .int 2, .int 1, .int 2, .int 1])), (u20 1, .inl (v.2.1 0, 256, .inl (fun _ => 0))), (u20 2, .inl (v.2.1 1, 256, .inr (.inl (fun _ => 0)))), (u20 3, .inl (v.2.1 0, 256, .inl (fun _ => 0))), (u20 4, .inl (v.2.1 0, 256, .inl (fun _ => 0))), (u20 5, .inl (v.2.1 0, 5, .inl (fun _ => 0))), (q27, .inr (3, [.ref (u35 1), .int 1, .ref q16, .ref (u35 2), .ref (u35 3)])), (u35 1, .inl (v.2.1 0, 64, .inl (fun _ => 0))), (u35 2, .inl (v.2.1 0, 64, .inl (fun _ => 0))), (u35 3, .inl (v.2.1 0, 64, .inl (fun _ => 0))), (q42, .inr (4, [.ref q16, .ref (u50 1), .ref (u50 2), .int 0, .int 0, .int 0, .int 0])), (u50 1, .inl (v.2.1 1, 64, .inr (.inl (fun _ => 0)))), (u50 2, .inl (v.2.1 1, 64, .inr (.inl (fun _ => 0)))), (q57, .inr (5, [.ref q16, .ref q42, .ref (u69 1), .int 0, .int 0, .int 0])), (u69 1, .inl (v.2.1 0, 1024, .inl (fun _ => 0))), (q76, .inr (6, [.ref q16, .ref (u84 1), .ref (u84 2), .ref (u84 3), .int 0, .int 0])), (u84 1, .inl (v.2.1 4, 4, .inr (.inr (.inr (.inr (fun i => some (u84 1 + 1 + i))))))), (u84 1 + 1, .inl (v.2.1 1, 4, .inr (.inl (fun _ => 0)))), (u84 1 + 2, .inl (v.2.1 1, 4, .inr (.inl (fun _ => 0)))), (u84 1 + 3, .inl (v.2.1 1, 4, .inr (.inl (fun _ => 0)))), (u84 1 + 4, .inl (v.2.1 1, 4, .inr (.inl (fun _ => 0)))), (u84 2, .inl (v.2.1 4, 4, .inr (.inr (.inr (.inr (fun i => some (u84 2 + 1 + i))))))), (u84 2 + 1, .inl (v.2.1 1, 4, .inr (.inl (fun _ => 0)))), (u84 2 + 2, .inl (v.2.1 1, 4, .inr (.inl (fun _ => 0)))), (u84 2 + 3, .inl (v.2.1 1, 4, .inr (.inl (fun _ => 0)))), (u84 2 + 4, .inl (v.2.1 1, 4, .inr (.inl (fun _ => 0)))), (u84 3, .inl (v.2.1 1, 4, .inr (.inl (fun _ => 0))))]) d_A_init_87 fi_A_51 rfl rfl rfl (Nat.le_of_ble_eq_true rfl) rfl ?_
  refine n_aload d_A_init_90 0 rfl rfl ?_
  refine n_new (fs := [.null, .null, .null, .null, .null, .null, .null, .int 0, .int 0, .int 0]) d_A_init_91 nw_A_55 (by decide +kernel) (by decide) (by decide) (fun q91 => ?_)
  refine n_dup d_A_init_94 rfl ?_
  refine n_aload d_A_init_95 0 rfl rfl ?_
  refine n_get (q0 := 0) d_A_init_96 fl_A_19 rfl rfl ?_
  refine n_aload d_A_init_99 0 rfl rfl ?_
  refine n_get (q0 := 0) d_A_init_100 fl_A_35 rfl rfl ?_
  refine n_callI (av := [.ref q16, .ref q42]) (rest := [.ref q91, .ref h0]) (ws0 := [(q91, .inr (7, [.null, .null, .null, .null, .null, .null, .null, .int 0, .int 0, .int 0]))]) (wr := [(h0, .inr (0, [.ref q5, .ref q16, .ref q27, .ref q42, .ref q57, .ref q76, .null, .null])), (q5, .inr (1, [.ref (u9 1), .ref (u9 2), .int 0, .int 2, .int 1, .int 84, .int 0, .int 0, .int 0])), (u9 1, .inl (v.2.1 3, 64, .inl (fun _ => 0))), (u9 2, .inl (v.2.1 0, 4, .inl (fun _ => 0))), (q16, .inr (2, [.ref (u20 1), .ref (u20 2), .ref (u20 3), .ref (u20 4), .ref (u20 5), .int 0, .int 2, .int 1, .int 2, .int 1])), (u20 1, .inl (v.2.1 0, 256, .inl (fun _ => 0))), (u20 2, .inl (v.2.1 1, 256, .inr (.inl (fun _ => 0)))), (u20 3, .inl (v.2.1 0, 256, .inl (fun _ => 0))), (u20 4, .inl (v.2.1 0, 256, .inl (fun _ => 0))), (u20 5, .inl (v.2.1 0, 5, .inl (fun _ => 0))), (q27, .inr (3, [.ref (u35 1), .int 1, .ref q16, .ref (u35 2), .ref (u35 3)])), (u35 1, .inl (v.2.1 0, 64, .inl (fun _ => 0))), (u35 2, .inl (v.2.1 0, 64, .inl (fun _ => 0))), (u35 3, .inl (v.2.1 0, 64, .inl (fun _ => 0))), (q42, .inr (4, [.ref q16, .ref (u50 1), .ref (u50 2), .int 0, .int 0, .int 0, .int 0])), (u50 1, .inl (v.2.1 1, 64, .inr (.inl (fun _ => 0)))), (u50 2, .inl (v.2.1 1, 64, .inr (.inl (fun _ => 0)))), (q57, .inr (5, [.ref q16, .ref q42, .ref (u69 1), .int 0, .int 0, .int 0])), (u69 1, .inl (v.2.1 0, 1024, .inl (fun _ => 0))), (q76, .inr (6, [.ref q16, .ref (u84 1), .ref (u84 2), .ref (u84 3), .int 0, .int 0])), (u84 1, .inl (v.2.1 4, 4, .inr (.inr (.inr (.inr (fun i => some (u84 1 + 1 + i))))))), (u84 1 + 1, .inl (v.2.1 1, 4, .inr (.inl (fun _ => 0)))), (u84 1 + 2, .inl (v.2.1 1, 4, .inr (.inl (fun _ => 0)))), (u84 1 + 3, .inl (v.2.1 1, 4, .inr (.inl (fun _ => 0)))), (u84 1 + 4, .inl (v.2.1 1, 4, .inr (.inl (fun _ => 0)))), (u84 2, .inl (v.2.1 4, 4, .inr (.inr (.inr (.inr (fun i => some (u84 2 + 1 + i))))))), (u84 2 + 1, .inl (v.2.1 1, 4, .inr (.inl (fun _ => 0)))), (u84 2 + 2, .inl (v.2.1 1, 4, .inr (.inl (fun _ => 0)))), (u84 2 + 3, .inl (v.2.1 1, 4, .inr (.inl (fun _ => 0)))), (u84 2 + 4, .inl (v.2.1 1, 4, .inr (.inl (fun _ => 0)))), (u84 3, .inl (v.2.1 1, 4, .inr (.inl (fun _ => 0))))]) [31] [0, 1, 2, 3, 4, 5, 6, 7, 8, 9, 10, 11, 12, 13, 14, 15, 16, 17, 18, 19, 20, 21, 22, 23, 24, 25, 26, 27, 28, 29, 30] d_A_init_103 Y_O_init (Or.inl lk_A_57) rfl rfl im_O ⟨rfl, rfl, by decide, by decide⟩ rfl (Nat.le_of_ble_eq_true rfl) rfl ⟨by decide, by decide⟩ rfl rfl (by decide) (by decide) (by decide) N_O (fun u103 => ?_)
  refine n_put (q0 := 0) (ws' := [(h0, .inr (0, [.ref q5, .ref q16, .ref q27, .ref q42, .ref q57, .ref q76, .ref q91, .null])), (q5, .inr (1, [.ref (u9 1), .ref (u9 2), .int 0, .int 2, .int 1, .int 84, .int 0, .int 0, .int 0])), (u9 1, .inl (v.2.1 3, 64, .inl (fun _ => 0))), (u9 2, .inl (v.2.1 0, 4, .inl (fun _ => 0))), (q16, .inr (2, [.ref (u20 1), .ref (u20 2), .ref (u20 3), .ref (u20 4), .ref (u20 5), .int 0, .int 2, .int 1, .int 2, .int 1])), (u20 1, .inl (v.2.1 0, 256, .inl (fun _ => 0))), (u20 2, .inl (v.2.1 1, 256, .inr (.inl (fun _ => 0)))), (u20 3, .inl (v.2.1 0, 256, .inl (fun _ => 0))), (u20 4, .inl (v.2.1 0, 256, .inl (fun _ => 0))), (u20 5, .inl (v.2.1 0, 5, .inl (fun _ => 0))), (q27, .inr (3, [.ref (u35 1), .int 1, .ref q16, .ref (u35 2), .ref (u35 3)])), (u35 1, .inl (v.2.1 0, 64, .inl (fun _ => 0))), (u35 2, .inl (v.2.1 0, 64, .inl (fun _ => 0))), (u35 3, .inl (v.2.1 0, 64, .inl (fun _ => 0))), (q42, .inr (4, [.ref q16, .ref (u50 1), .ref (u50 2), .int 0, .int 0, .int 0, .int 0])), (u50 1, .inl (v.2.1 1, 64, .inr (.inl (fun _ => 0)))), (u50 2, .inl (v.2.1 1, 64, .inr (.inl (fun _ => 0)))), (q57, .inr (5, [.ref q16, .ref q42, .ref (u69 1), .int 0, .int 0, .int 0])), (u69 1, .inl (v.2.1 0, 1024, .inl (fun _ => 0))), (q76, .inr (6, [.ref q16, .ref (u84 1), .ref (u84 2), .ref (u84 3), .int 0, .int 0])), (u84 1, .inl (v.2.1 4, 4, .inr (.inr (.inr (.inr (fun i => some (u84 1 + 1 + i))))))), (u84 1 + 1, .inl (v.2.1 1, 4, .inr (.inl (fun _ => 0)))), (u84 1 + 2, .inl (v.2.1 1, 4, .inr (.inl (fun _ => 0)))), (u84 1 + 3, .inl (v.2.1 1, 4, .inr (.inl (fun _ => 0)))), (u84 1 + 4, .inl (v.2.1 1, 4, .inr (.inl (fun _ => 0)))), (u84 2, .inl (v.2.1 4, 4, .inr (.inr (.inr (.inr (fun i => some (u84 2 + 1 + i))))))), (u84 2 + 1, .inl (v.2.1 1, 4, .inr (.inl (fun _ => 0)))), (u84 2 + 2, .inl (v.2.1 1, 4, .inr (.inl (fun _ => 0)))), (u84 2 + 3, .inl (v.2.1 1, 4, .inr (.inl (fun _ => 0)))), (u84 2 + 4, .inl (v.2.1 1, 4, .inr (.inl (fun _ => 0)))), (u84 3, .inl (v.2.1 1, 4, .inr (.inl (fun _ => 0)))), (q91, .inr (7, [.ref q16, .ref q42, .ref (u103 1), .ref (u103 2), .ref (u103 3), .ref (u103 4), .ref (u103 5), .int 0, .int 0, .int 0])), (u103 1, .inl (v.2.1 1, 500, .inr (.inl (fun _ => 0)))), (u103 2, .inl (v.2.1 0, 500, .inl (fun _ => 0))), (u103 3, .inl (v.2.1 0, 500, .inl (fun _ => 0))), (u103 4, .inl (v.2.1 1, 4, .inr (.inl (fun _ => 0)))), (u103 5, .inl (v.2.1 0, 500, .inl (fun _ => 0)))]) d_A_init_106 fi_A_58 rfl rfl rfl (Nat.le_of_ble_eq_true rfl) rfl ?_
  refine n_aload d_A_init_109 0 rfl rfl ?_
  refine n_new (fs := [.null, .null, .null, .null, .null, .null, .int 0, .int 0, .int 0, .long 0]) d_A_init_110 nw_A_62 (by decide +kernel) (by decide) (by decide) (fun q110 => ?_)
  refine n_dup d_A_init_113 rfl ?_
  refine n_aload d_A_init_114 0 rfl rfl ?_
  refine n_get (q0 := 0) d_A_init_115 fl_A_19 rfl rfl ?_
  refine n_aload d_A_init_118 0 rfl rfl ?_
  refine n_get (q0 := 0) d_A_init_119 fl_A_28 rfl rfl ?_
  refine n_callI (av := [.ref q16, .ref q27]) (rest := [.ref q110, .ref h0]) (ws0 := [(q110, .inr (8, [.null, .null, .null, .null, .null, .null, .int 0, .int 0, .int 0, .long 0]))]) (wr := [(h0, .inr (0, [.ref q5, .ref q16, .ref q27, .ref q42, .ref q57, .ref q76, .ref q91, .null])), (q5, .inr (1, [.ref (u9 1), .ref (u9 2), .int 0, .int 2, .int 1, .int 84, .int 0, .int 0, .int 0])), (u9 1, .inl (v.2.1 3, 64, .inl (fun _ => 0))), (u9 2, .inl (v.2.1 0, 4, .inl (fun _ => 0))), (q16, .inr (2, [.ref (u20 1), .ref (u20 2), .ref (u20 3), .ref (u20 4), .ref (u20 5), .int 0, .int 2, .int 1, .int 2, .int 1])), (u20 1, .inl (v.2.1 0, 256, .inl (fun _ => 0))), (u20 2, .inl (v.2.1 1, 256, .inr (.inl (fun _ => 0)))), (u20 3, .inl (v.2.1 0, 256, .inl (fun _ => 0))), (u20 4, .inl (v.2.1 0, 256, .inl (fun _ => 0))), (u20 5, .inl (v.2.1 0, 5, .inl (fun _ => 0))), (q27, .inr (3, [.ref (u35 1), .int 1, .ref q16, .ref (u35 2), .ref (u35 3)])), (u35 1, .inl (v.2.1 0, 64, .inl (fun _ => 0))), (u35 2, .inl (v.2.1 0, 64, .inl (fun _ => 0))), (u35 3, .inl (v.2.1 0, 64, .inl (fun _ => 0))), (q42, .inr (4, [.ref q16, .ref (u50 1), .ref (u50 2), .int 0, .int 0, .int 0, .int 0])), (u50 1, .inl (v.2.1 1, 64, .inr (.inl (fun _ => 0)))), (u50 2, .inl (v.2.1 1, 64, .inr (.inl (fun _ => 0)))), (q57, .inr (5, [.ref q16, .ref q42, .ref (u69 1), .int 0, .int 0, .int 0])), (u69 1, .inl (v.2.1 0, 1024, .inl (fun _ => 0))), (q76, .inr (6, [.ref q16, .ref (u84 1), .ref (u84 2), .ref (u84 3), .int 0, .int 0])), (u84 1, .inl (v.2.1 4, 4, .inr (.inr (.inr (.inr (fun i => some (u84 1 + 1 + i))))))), (u84 1 + 1, .inl (v.2.1 1, 4, .inr (.inl (fun _ => 0)))), (u84 1 + 2, .inl (v.2.1 1, 4, .inr (.inl (fun _ => 0)))), (u84 1 + 3, .inl (v.2.1 1, 4, .inr (.inl (fun _ => 0)))), (u84 1 + 4, .inl (v.2.1 1, 4, .inr (.inl (fun _ => 0)))), (u84 2, .inl (v.2.1 4, 4, .inr (.inr (.inr (.inr (fun i => some (u84 2 + 1 + i))))))), (u84 2 + 1, .inl (v.2.1 1, 4, .inr (.inl (fun _ => 0)))), (u84 2 + 2, .inl (v.2.1 1, 4, .inr (.inl (fun _ => 0)))), (u84 2 + 3, .inl (v.2.1 1, 4, .inr (.inl (fun _ => 0)))), (u84 2 + 4, .inl (v.2.1 1, 4, .inr (.inl (fun _ => 0)))), (u84 3, .inl (v.2.1 1, 4, .inr (.inl (fun _ => 0)))), (q91, .inr (7, [.ref q16, .ref q42, .ref (u103 1), .ref (u103 2), .ref (u103 3), .ref (u103 4), .ref (u103 5), .int 0, .int 0, .int 0])), (u103 1, .inl (v.2.1 1, 500, .inr (.inl (fun _ => 0)))), (u103 2, .inl (v.2.1 0, 500, .inl (fun _ => 0))), (u103 3, .inl (v.2.1 0, 500, .inl (fun _ => 0))), (u103 4, .inl (v.2.1 1, 4, .inr (.inl (fun _ => 0)))), (u103 5, .inl (v.2.1 0, 500, .inl (fun _ => 0)))]) [37] [0, 1, 2, 3, 4, 5, 6, 7, 8, 9, 10, 11, 12, 13, 14, 15, 16, 17, 18, 19, 20, 21, 22, 23, 24, 25, 26, 27, 28, 29, 30, 31, 32, 33, 34, 35, 36] d_A_init_122 Y_H_init (Or.inl lk_A_64) rfl rfl im_H ⟨rfl, rfl, by decide, by decide⟩ rfl (Nat.le_of_ble_eq_true rfl) rfl ⟨by decide, by decide⟩ rfl rfl (by decide) (by decide) (by decide) N_H (fun u122 => ?_)
  refine n_put (q0 := 0) (ws' := [(h0, .inr (0, [.ref q5, .ref q16, .ref q27, .ref q42, .ref q57, .ref q76, .ref q91, .ref q110])), (q5, .inr (1, [.ref (u9 1), .ref (u9 2), .int 0, .int 2, .int 1, .int 84, .int 0, .int 0, .int 0])), (u9 1, .inl (v.2.1 3, 64, .inl (fun _ => 0))), (u9 2, .inl (v.2.1 0, 4, .inl (fun _ => 0))), (q16, .inr (2, [.ref (u20 1), .ref (u20 2), .ref (u20 3), .ref (u20 4), .ref (u20 5), .int 0, .int 2, .int 1, .int 2, .int 1])), (u20 1, .inl (v.2.1 0, 256, .inl (fun _ => 0))), (u20 2, .inl (v.2.1 1, 256, .inr (.inl (fun _ => 0)))), (u20 3, .inl (v.2.1 0, 256, .inl (fun _ => 0))), (u20 4, .inl (v.2.1 0, 256, .inl (fun _ => 0))), (u20 5, .inl (v.2.1 0, 5, .inl (fun _ => 0))), (q27, .inr (3, [.ref (u35 1), .int 1, .ref q16, .ref (u35 2), .ref (u35 3)])), (u35 1, .inl (v.2.1 0, 64, .inl (fun _ => 0))), (u35 2, .inl (v.2.1 0, 64, .inl (fun _ => 0))), (u35 3, .inl (v.2.1 0, 64, .inl (fun _ => 0))), (q42, .inr (4, [.ref q16, .ref (u50 1), .ref (u50 2), .int 0, .int 0, .int 0, .int 0])), (u50 1, .inl (v.2.1 1, 64, .inr (.inl (fun _ => 0)))), (u50 2, .inl (v.2.1 1, 64, .inr (.inl (fun _ => 0)))), (q57, .inr (5, [.ref q16, .ref q42, .ref (u69 1), .int 0, .int 0, .int 0])), (u69 1, .inl (v.2.1 0, 1024, .inl (fun _ => 0))), (q76, .inr (6, [.ref q16, .ref (u84 1), .ref (u84 2), .ref (u84 3), .int 0, .int 0])), (u84 1, .inl (v.2.1 4, 4, .inr (.inr (.inr (.inr (fun i => some (u84 1 + 1 + i))))))), (u84 1 + 1, .inl (v.2.1 1, 4, .inr (.inl (fun _ => 0)))), (u84 1 + 2, .inl (v.2.1 1, 4, .inr (.inl (fun _ => 0)))), (u84 1 + 3, .inl (v.2.1 1, 4, .inr (.inl (fun _ => 0)))), (u84 1 + 4, .inl (v.2.1 1, 4, .inr (.inl (fun _ => 0)))), (u84 2, .inl (v.2.1 4, 4, .inr (.inr (.inr (.inr (fun i => some (u84 2 + 1 + i))))))), (u84 2 + 1, .inl (v.2.1 1, 4, .inr (.inl (fun _ => 0)))), (u84 2 + 2, .inl (v.2.1 1, 4, .inr (.inl (fun _ => 0)))), (u84 2 + 3, .inl (v.2.1 1, 4, .inr (.inl (fun _ => 0)))), (u84 2 + 4, .inl (v.2.1 1, 4, .inr (.inl (fun _ => 0)))), (u84 3, .inl (v.2.1 1, 4, .inr (.inl (fun _ => 0)))), (q91, .inr (7, [.ref q16, .ref q42, .ref (u103 1), .ref (u103 2), .ref (u103 3), .ref (u103 4), .ref (u103 5), .int 0, .int 0, .int 0])), (u103 1, .inl (v.2.1 1, 500, .inr (.inl (fun _ => 0)))), (u103 2, .inl (v.2.1 0, 500, .inl (fun _ => 0))), (u103 3, .inl (v.2.1 0, 500, .inl (fun _ => 0))), (u103 4, .inl (v.2.1 1, 4, .inr (.inl (fun _ => 0)))), (u103 5, .inl (v.2.1 0, 500, .inl (fun _ => 0))), (q110, .inr (8, [.ref q16, .ref q27, .ref (u122 1), .ref (u122 2), .ref (u122 3), .ref (u122 4), .int 0, .int 0, .int 0, .long 0])), (u122 1, .inl (v.2.1 1, 65, .inr (.inl (fun _ => 0)))), (u122 2, .inl (v.2.1 0, 64, .inl (fun _ => 0))), (u122 3, .inl (v.2.1 1, 64, .inr (.inl (fun _ => 0)))), (u122 4, .inl (v.2.1 1, 64, .inr (.inl (fun _ => 0))))]) d_A_init_125 fi_A_67 rfl rfl rfl (Nat.le_of_ble_eq_true rfl) rfl ?_
  refine n_tie (q0 := 20) (g := fun i => some (gs_ad h0 (fun k => match k with | 1 => q5 | 2 => u9 1 | 3 => u9 2 | 4 => q16 | 5 => u20 1 | 6 => u20 2 | 7 => u20 3 | 8 => u20 4 | 9 => u20 5 | 10 => q27 | 11 => u35 1 | 12 => u35 2 | 13 => u35 3 | 14 => q42 | 15 => u50 1 | 16 => u50 2 | 17 => q57 | 18 => u69 1 | 19 => q76 | 20 => u84 1 | 21 => u84 1 + 1 | 22 => u84 1 + 2 | 23 => u84 1 + 3 | 24 => u84 1 + 4 | 25 => u84 2 | 26 => u84 2 + 1 | 27 => u84 2 + 2 | 28 => u84 2 + 3 | 29 => u84 2 + 4 | 30 => u84 3 | 31 => q91 | 32 => u103 1 | 33 => u103 2 | 34 => u103 3 | 35 => u103 4 | 36 => u103 5 | 37 => q110 | 38 => u122 1 | 39 => u122 2 | 40 => u122 3 | 41 => u122 4 | _ => 0) (21 + i))) rfl (fun i hi => by rcases (show i = 0 ∨ i = 1 ∨ i = 2 ∨ i = 3 by omega) with h | h | h | h <;> subst h <;> rfl) rfl ?_
  refine n_tie (q0 := 25) (g := fun i => some (gs_ad h0 (fun k => match k with | 1 => q5 | 2 => u9 1 | 3 => u9 2 | 4 => q16 | 5 => u20 1 | 6 => u20 2 | 7 => u20 3 | 8 => u20 4 | 9 => u20 5 | 10 => q27 | 11 => u35 1 | 12 => u35 2 | 13 => u35 3 | 14 => q42 | 15 => u50 1 | 16 => u50 2 | 17 => q57 | 18 => u69 1 | 19 => q76 | 20 => u84 1 | 21 => u84 1 + 1 | 22 => u84 1 + 2 | 23 => u84 1 + 3 | 24 => u84 1 + 4 | 25 => u84 2 | 26 => u84 2 + 1 | 27 => u84 2 + 2 | 28 => u84 2 + 3 | 29 => u84 2 + 4 | 30 => u84 3 | 31 => q91 | 32 => u103 1 | 33 => u103 2 | 34 => u103 3 | 35 => u103 4 | 36 => u103 5 | 37 => q110 | 38 => u122 1 | 39 => u122 2 | 40 => u122 3 | 41 => u122 4 | _ => 0) (26 + i))) rfl (fun i hi => by rcases (show i = 0 ∨ i = 1 ∨ i = 2 ∨ i = 3 by omega) with h | h | h | h <;> subst h <;> rfl) rfl ?_
  exact n_ret (fun k => match k with | 1 => q5 | 2 => u9 1 | 3 => u9 2 | 4 => q16 | 5 => u20 1 | 6 => u20 2 | 7 => u20 3 | 8 => u20 4 | 9 => u20 5 | 10 => q27 | 11 => u35 1 | 12 => u35 2 | 13 => u35 3 | 14 => q42 | 15 => u50 1 | 16 => u50 2 | 17 => q57 | 18 => u69 1 | 19 => q76 | 20 => u84 1 | 21 => u84 1 + 1 | 22 => u84 1 + 2 | 23 => u84 1 + 3 | 24 => u84 1 + 4 | 25 => u84 2 | 26 => u84 2 + 1 | 27 => u84 2 + 2 | 28 => u84 2 + 3 | 29 => u84 2 + 4 | 30 => u84 3 | 31 => q91 | 32 => u103 1 | 33 => u103 2 | 34 => u103 3 | 35 => u103 4 | 36 => u103 5 | 37 => q110 | 38 => u122 1 | 39 => u122 2 | 40 => u122 3 | 41 => u122 4 | _ => 0) d_A_init_128 rfl
end
section
/-! THE CLAIM OUT OF ONE WALK OF THE LAW'S BODY. Your part is whole_start (and what it stands on); all else here is the same for every law, but numbers. -/
def R_law : String := "LineRulesLaw"
def lw_P (b : Addr) (xs : List Int32) (args : Array Value) (s : State) : Prop := args = #[.ref b] ∧ s.IntsAt b xs ∧ xs.length ≤ 3 ∧ (Jvm.Cond.and given_1 narrow_1).before args s = true
def lw_Q (_ : Array Value) (s : State) (o : Outcome) (t : State) : Prop := o = .returned (some (.int 1)) ∧ Framed s o t [] 600000 7302250
def lw_Z (below : List Frame) (a : Array Value) (s : State) : State → Prop := fun t => ∃ o, t.status = .running ∧ Ended t below o ∧ lw_Q a s o t
/-- the law's own end, with 1 on the stack, nothing written that was there before, its room as the claim has it -/
theorem lw_ret {p : Program} {l : Launch} {e : Env} {s : State} {m : MethodId} {below : List Frame} {meth : Method} {c : Code} {b : Nat} (hx : p.tables.exec = Jvm.exec) (hb : c.code = code) (hr : meth.sig.returnType = ret) (hlocks : meth.locks = false) {pc : Nat} {H : Heap} {ls : Array Slot} (hdg : decode code pc = .ok (.ireturn, 1)) : W p l e room_1 s m #[Value.ref b] below meth c H [] 600000 7302250 (lw_Z below #[Value.ref b] s) (F0 m pc ls [.int 1]) := by
  intro T hT X
  obtain ⟨fs, hret, hrun, hended, hW, hframe⟩ := X.leave (v := some (.int 1)) (hlocks := hlocks) (fun h => by rw [hr] at h; cases h)
  have hmeth' : T.vm.method? m = some meth := X.method'
  refine ⟨T.setFrames fs, ?_, .returned (some (.int 1)), hrun, hended, rfl, ⟨_, rfl⟩, hW, hframe⟩
  jvm_step X.here [X.here.top, hx, hb, hdg, hmeth', hr, ret, narrow_b1]
  (try refine ⟨rfl, ?_⟩); (try refine ⟨rfl, ?_⟩)
  first | (intro acts; rw [hret _ acts rfl rfl rfl]) | rw [hret _ _ rfl rfl rfl]
  exact Steps.refl _
/-- what holds at the law's entry: the machine, the code, the tables' words (any of lw_tbl by 'hts w (by decide +kernel)'), the script of L ints xs at the cell b, what the Statement gives of the start (any of its parts by flat_of_before) -/
def lw_At (p : Program) (s : State) (m : MethodId) (meth : Method) (c : Code) (b L : Nat) (xs : Nat → Int32) : Prop :=
  p.tables.exec = Jvm.exec ∧ c.code = code ∧ meth.sig.returnType = ret ∧ c.maxLocals = 4 ∧ s.vm.findClass R_law = some m.cls ∧ (∀ w ∈ lw_tbl, w.before #[Value.ref b] s = true) ∧ va_X b L xs s s.heap ∧ b < s.heap.size ∧ meth.locks = false ∧ (Jvm.Cond.and given_1 narrow_1).before #[Value.ref b] s = true
end
section
/-! The law: its judgement lG: the class's world, the reference's, the script. -/
def lA (s : State) : Nat → Prop := fun q => s.heap.size ≤ q
def lC (v1 v2 : gs_V) (b L : Nat) (xs : Nat → Int32) (p : Program) (s : State) (m : MethodId) (meth : Method) (c : Code) : Prop :=
  lw_At p s m meth c b L xs ∧ gs_K v1 s ∧ gs_K v2 s ∧ (∀ σ, va_D (lA s) (gs_w v1 lyC 42 σ)) ∧ (∀ σ, va_D (lA s) (gs_w v2 lyM 33 σ)) ∧ (∀ i, i < 42 → ∀ j, j < 33 → v1.2.2 i ≠ v2.2.2 j)
def lG (l : Launch) (v1 v2 : gs_V) (b L : Nat) (xs : Nat → Int32) (pc : Nat) (Lo : List (Nat × Value)) (st : List Value) (σ1 σ2 : gs_S) : Prop :=
  ∀ (p : Program) (e : Env) (s : State) (m : MethodId) (below : List Frame) (meth : Method) (c : Code), lC v1 v2 b L xs p s m meth c →
  ∀ (ls : Array Slot) (H : Heap) (locs : List Loc), lv_has ls 4 Lo → va_P v1.1 vwCl (gs_w v1 lyC 42 σ1) H → va_P v2.1 vwCl (gs_w v2 lyM 33 σ2) H → va_S (lA s) s.heap H locs →
  W p l e room_1 s m #[Value.ref b] below meth c H locs 75 12836 (lw_Z below #[Value.ref b] s) (F0 m pc ls st)
theorem lw_good {me : gs_M} (h : gs_h me ∈ gw) : GoodIn lw_tbl (gs_h me :: gw) := fun w hw => by
  rcases List.mem_cons.mp hw with rfl | hw
  · exact ⟨gw_lw _ h, gw_good _ h⟩
  · exact ⟨gw_lw _ hw, gw_good _ hw⟩
section LG
variable {l : Launch} {v1 v2 : gs_V} {b L : Nat} {xs : Nat → Int32} {pc : Nat} {Lo : List (Nat × Value)} {st rest : List Value} {σ1 σ2 : gs_S}
theorem l_iconst {z : Int} {x : Int32} (d : decode code pc = .ok (.iconst z, 1)) (hv : Int32.ofInt z = x) (k : lG l v1 v2 b L xs (pc + 1) Lo (.int x :: rest) σ1 σ2) : lG l v1 v2 b L xs pc Lo (rest) σ1 σ2 :=
  fun p e s m below meth c hC ls H locs hl hP1 hP2 hS => lv_iconst hC.1.1 hC.1.2.1 d hv (k p e s m below meth c hC ls H locs hl hP1 hP2 hS)
theorem l_bipush {z : Int} {x : Int32} (d : decode code pc = .ok (.bipush z, 2)) (hv : (Int8.ofInt z).toInt32 = x) (k : lG l v1 v2 b L xs (pc + 2) Lo (.int x :: rest) σ1 σ2) : lG l v1 v2 b L xs pc Lo (rest) σ1 σ2 :=
  fun p e s m below meth c hC ls H locs hl hP1 hP2 hS => lv_bipush hC.1.1 hC.1.2.1 d hv (k p e s m below meth c hC ls H locs hl hP1 hP2 hS)
theorem l_iadd {x y : Int32} (d : decode code pc = .ok (.iadd, 1))  (k : lG l v1 v2 b L xs (pc + 1) Lo (.int (x + y) :: rest) σ1 σ2) : lG l v1 v2 b L xs pc Lo (.int y :: .int x :: rest) σ1 σ2 :=
  fun p e s m below meth c hC ls H locs hl hP1 hP2 hS => lv_iadd hC.1.1 hC.1.2.1 d  (k p e s m below meth c hC ls H locs hl hP1 hP2 hS)
theorem l_isub {x y : Int32} (d : decode code pc = .ok (.isub, 1))  (k : lG l v1 v2 b L xs (pc + 1) Lo (.int (x - y) :: rest) σ1 σ2) : lG l v1 v2 b L xs pc Lo (.int y :: .int x :: rest) σ1 σ2 :=
  fun p e s m below meth c hC ls H locs hl hP1 hP2 hS => lv_isub hC.1.1 hC.1.2.1 d  (k p e s m below meth c hC ls H locs hl hP1 hP2 hS)
theorem l_iand {x y : Int32} (d : decode code pc = .ok (.iand, 1))  (k : lG l v1 v2 b L xs (pc + 1) Lo (.int (x &&& y) :: rest) σ1 σ2) : lG l v1 v2 b L xs pc Lo (.int y :: .int x :: rest) σ1 σ2 :=
  fun p e s m below meth c hC ls H locs hl hP1 hP2 hS => lv_iand hC.1.1 hC.1.2.1 d  (k p e s m below meth c hC ls H locs hl hP1 hP2 hS)
theorem l_lcmp {x y : Int64} (d : decode code pc = .ok (.lcmp, 1))  (k : lG l v1 v2 b L xs (pc + 1) Lo (.int (lg_cmp x y) :: rest) σ1 σ2) : lG l v1 v2 b L xs pc Lo (.long y :: .long x :: rest) σ1 σ2 :=
  fun p e s m below meth c hC ls H locs hl hP1 hP2 hS => W.lcmp hC.1.1 hC.1.2.1 d  (k p e s m below meth c hC ls H locs hl hP1 hP2 hS)
theorem l_pop {x : Int32} (d : decode code pc = .ok (.pop, 1))  (k : lG l v1 v2 b L xs (pc + 1) Lo (rest) σ1 σ2) : lG l v1 v2 b L xs pc Lo (.int x :: rest) σ1 σ2 :=
  fun p e s m below meth c hC ls H locs hl hP1 hP2 hS => lv_pop hC.1.1 hC.1.2.1 d rfl (k p e s m below meth c hC ls H locs hl hP1 hP2 hS)
theorem l_pop2 {x : Int64} (d : decode code pc = .ok (.pop2, 1))  (k : lG l v1 v2 b L xs (pc + 1) Lo (rest) σ1 σ2) : lG l v1 v2 b L xs pc Lo (.long x :: rest) σ1 σ2 :=
  fun p e s m below meth c hC ls H locs hl hP1 hP2 hS => lv_pop2_2 hC.1.1 hC.1.2.1 d rfl (k p e s m below meth c hC ls H locs hl hP1 hP2 hS)
theorem l_iload_n {z : Fin 4} {i : Nat} {x : Int32} (d : decode code pc = .ok (.iload_n z, 1)) (q : Nat) (hi : (z : Nat) = i) (hq : Lo[q]? = some (i, .int x)) (k : lG l v1 v2 b L xs (pc + 1) Lo (.int x :: rest) σ1 σ2) : lG l v1 v2 b L xs pc Lo rest σ1 σ2 :=
  fun p e s m below meth c hC ls H locs hl hP1 hP2 hS => lv_iload_n hC.1.1 hC.1.2.1 d hi (lv_at hl q hq) (k p e s m below meth c hC ls H locs hl hP1 hP2 hS)
theorem l_aload_n {z : Fin 4} {i : Nat} {x : Nat} (d : decode code pc = .ok (.aload_n z, 1)) (q : Nat) (hi : (z : Nat) = i) (hq : Lo[q]? = some (i, .ref x)) (k : lG l v1 v2 b L xs (pc + 1) Lo (.ref x :: rest) σ1 σ2) : lG l v1 v2 b L xs pc Lo rest σ1 σ2 :=
  fun p e s m below meth c hC ls H locs hl hP1 hP2 hS => lv_aload_n hC.1.1 hC.1.2.1 d hi (lv_at hl q hq) (k p e s m below meth c hC ls H locs hl hP1 hP2 hS)
theorem l_istore_n {z : Fin 4} {i : Nat} {x : Int32} {L' : List (Nat × Value)} (d : decode code pc = .ok (.istore_n z, 1)) (hi : (z : Nat) = i) (hn : i < 4) (hL : (i, Value.int x) :: Lo.filter (fun q => !(q.1 == i) && !(q.1 + 1 == i && q.2.category == 2)) = L') (k : lG l v1 v2 b L xs (pc + 1) L' rest σ1 σ2) : lG l v1 v2 b L xs pc Lo (.int x :: rest) σ1 σ2 :=
  fun p e s m below meth c hC ls H locs hl hP1 hP2 hS => lv_istore_n hC.1.1 hC.1.2.1 d hi hl hn hL (fun ls hl => k p e s m below meth c hC ls H locs hl hP1 hP2 hS)
theorem l_iinc {i : Nat} {z : Int} {x y : Int32} {L' : List (Nat × Value)} (d : decode code pc = .ok (.iinc i z, 3)) (q : Nat) (hq : Lo[q]? = some (i, .int x)) (hv : x + Int32.ofInt z = y) (hn : i < 4) (hL : (i, Value.int y) :: Lo.filter (fun q => !(q.1 == i) && !(q.1 + 1 == i && q.2.category == 2)) = L') (k : lG l v1 v2 b L xs (pc + 3) L' rest σ1 σ2) : lG l v1 v2 b L xs pc Lo rest σ1 σ2 :=
  fun p e s m below meth c hC ls H locs hl hP1 hP2 hS => lv_iinc hC.1.1 hC.1.2.1 d hl hq hv hn hL (fun ls hl => k p e s m below meth c hC ls H locs hl hP1 hP2 hS)
theorem l_sub {L' : List (Nat × Value)} (ks : List Nat) (hk : lv_pick Lo ks = L') (k : lG l v1 v2 b L xs pc L' st σ1 σ2) : lG l v1 v2 b L xs pc Lo st σ1 σ2 :=
  fun p e s m below meth c hC ls H locs hl hP1 hP2 hS => k p e s m below meth c hC ls H locs (lv_sub hl ks hk) hP1 hP2 hS
theorem l_goto {off : Int} {tgt : Nat} (d : decode code pc = .ok (.goto off, 3)) (ht : (pc : Int) + off = (tgt : Int)) (k : lG l v1 v2 b L xs tgt Lo st σ1 σ2) : lG l v1 v2 b L xs pc Lo st σ1 σ2 :=
  fun p e s m below meth c hC ls H locs hl hP1 hP2 hS => lv_goto hC.1.1 hC.1.2.1 d ht (k p e s m below meth c hC ls H locs hl hP1 hP2 hS)
theorem l_icmp_gt {x y : Int32} {off : Int} {tgt : Nat} (d : decode code pc = .ok (.if_icmp .gt off, 3)) (ht : (pc : Int) + off = (tgt : Int)) (kt : y < x → lG l v1 v2 b L xs tgt Lo rest σ1 σ2) (kf : ¬ y < x → lG l v1 v2 b L xs (pc + 3) Lo rest σ1 σ2) : lG l v1 v2 b L xs pc Lo (.int y :: .int x :: rest) σ1 σ2 :=
  fun p e s m below meth c hC ls H locs hl hP1 hP2 hS => lv_icmp_gt hC.1.1 hC.1.2.1 d ht (fun h => kt h p e s m below meth c hC ls H locs hl hP1 hP2 hS) (fun h => kf h p e s m below meth c hC ls H locs hl hP1 hP2 hS)
theorem l_icmp_eq {x y : Int32} {off : Int} {tgt : Nat} (d : decode code pc = .ok (.if_icmp .eq off, 3)) (ht : (pc : Int) + off = (tgt : Int)) (h : x = y) (kt : lG l v1 v2 b L xs tgt Lo rest σ1 σ2) : lG l v1 v2 b L xs pc Lo (.int y :: .int x :: rest) σ1 σ2 :=
  fun p e s m below meth c hC ls H locs hl hP1 hP2 hS => lv_icmp_eq hC.1.1 hC.1.2.1 d ht (fun _ => kt p e s m below meth c hC ls H locs hl hP1 hP2 hS) (fun q => absurd h q)
theorem l_if_eq {x : Int32} {off : Int} {tgt : Nat} (d : decode code pc = .ok (.ifCond .eq off, 3)) (ht : (pc : Int) + off = (tgt : Int)) (h : x = 0) (kt : lG l v1 v2 b L xs tgt Lo rest σ1 σ2) : lG l v1 v2 b L xs pc Lo (.int x :: rest) σ1 σ2 :=
  fun p e s m below meth c hC ls H locs hl hP1 hP2 hS => lv_if_eq hC.1.1 hC.1.2.1 d ht (fun _ => kt p e s m below meth c hC ls H locs hl hP1 hP2 hS) (fun q => absurd h q)
theorem l_slen (d : decode code pc = .ok (.arraylength, 1)) (k : lG l v1 v2 b L xs (pc + 1) Lo (.int (Int32.ofNat L) :: rest) σ1 σ2) : lG l v1 v2 b L xs pc Lo (.ref b :: rest) σ1 σ2 :=
  fun p e s m below meth c hC ls H locs hl hP1 hP2 hS => va_slen hC.1.1 hC.1.2.1 hC.1.2.2.2.2.2.2.1 hC.1.2.2.2.2.2.2.2.1 (fun h => Nat.lt_irrefl _ (Nat.lt_of_lt_of_le hC.1.2.2.2.2.2.2.2.1 h)) hS d (k p e s m below meth c hC ls H locs hl hP1 hP2 hS)
theorem l_sld {i : Int32} (d : decode code pc = .ok (.iaload, 1)) (hi : vp_in i L) (k : lG l v1 v2 b L xs (pc + 1) Lo (.int (xs i.toNatClampNeg) :: rest) σ1 σ2) : lG l v1 v2 b L xs pc Lo (.int i :: .ref b :: rest) σ1 σ2 :=
  fun p e s m below meth c hC ls H locs hl hP1 hP2 hS => va_sld hC.1.1 hC.1.2.1 hC.1.2.2.2.2.2.2.1 hC.1.2.2.2.2.2.2.2.1 (fun h => Nat.lt_irrefl _ (Nat.lt_of_lt_of_le hC.1.2.2.2.2.2.2.2.1 h)) hS hi d (k p e s m below meth c hC ls H locs hl hP1 hP2 hS)
theorem l_tabIn {dflt lo hi : Int} {offs : Array Int} {len : Nat} {x : Int32} {off : Int} {tgt : Nat} (d : decode code pc = .ok (.tableswitch dflt lo hi offs, len)) (h1 : ¬ x.toInt < lo) (h2 : ¬ hi < x.toInt) (ho : offs[(x.toInt - lo).toNat]? = some off) (ht : (pc : Int) + off = (tgt : Int)) (k : lG l v1 v2 b L xs tgt Lo rest σ1 σ2) : lG l v1 v2 b L xs pc Lo (.int x :: rest) σ1 σ2 :=
  fun p e s m below meth c hC ls H locs hl hP1 hP2 hS => lv_tableIn hC.1.1 hC.1.2.1 d h1 h2 ho ht (k p e s m below meth c hC ls H locs hl hP1 hP2 hS)
theorem l_tabOut {dflt lo hi : Int} {offs : Array Int} {len : Nat} {x : Int32} {tgt : Nat} (d : decode code pc = .ok (.tableswitch dflt lo hi offs, len)) (h : x.toInt < lo ∨ hi < x.toInt) (ht : (pc : Int) + dflt = (tgt : Int)) (k : lG l v1 v2 b L xs tgt Lo rest σ1 σ2) : lG l v1 v2 b L xs pc Lo (.int x :: rest) σ1 σ2 :=
  fun p e s m below meth c hC ls H locs hl hP1 hP2 hS => lv_tableOut hC.1.1 hC.1.2.1 d h ht (k p e s m below meth c hC ls H locs hl hP1 hP2 hS)
theorem l_ret (d : decode code pc = .ok (.ireturn, 1)) : lG l v1 v2 b L xs pc Lo [.int 1] σ1 σ2 :=
  fun p e s m below meth c hC ls H locs hl hP1 hP2 hS => va_forget hS.2.2 (W.widen (k := room_1.cells) (n := room_1.slots) (by decide +kernel) (by decide +kernel) (lw_ret hC.1.1 hC.1.2.1 hC.1.2.2.1 hC.1.2.2.2.2.2.2.2.2.1 d))
theorem l_callCi {me' : gs_M} {index a n ci : Nat} {fds : List Nat} {av : List Value} {post : Int32 → gs_S → Prop} (d : decode code pc = .ok (.invokevirtual index, 3)) (hY : gY me' a) (hL : Cond.methodLink R_law index me'.1 ∈ gw) (hy : lyC 0 = .inr (ci, fds)) (hc : (vwCl[ci]?).map (fun x => x.1) = some me'.1.cls) (hI : Cond.instanceMethod me'.1 ∈ gw ∧ Cond.selects me'.1.cls me'.1 me'.1 ∈ gw) (ha : av.length = a) (hn : n ≤ 2000) (h8 : (rest.map fun x => x.category).sum ≤ 8) (hst : st = av.reverse ++ .ref (v1.2.2 0) :: rest) (hM : gM l v1 lyC 42 me' n (.ref (v1.2.2 0) :: av) σ1 (qI v1 lyC 42 post)) (k : ∀ (r : Int32) (σ' : gs_S), post r σ' → lG l v1 v2 b L xs (pc + 3) Lo (.int r :: rest) σ' σ2) : lG l v1 v2 b L xs pc Lo st σ1 σ2 := by
  intro p e s m below meth c hC ls H locs hl hP1 hP2 hS
  have hD := hC.2.2.2.1 σ1
  have hF : ∀ x, va_A (gs_w v1 lyC 42 σ1) H.size x → lA s x := g_free hD (fun x hx => hx) hS
  have hts := hC.1.2.2.2.2.2.1
  obtain ⟨⟨C, T, M⟩, hc1, hc2⟩ := Option.map_eq_some_iff.mp hc
  have hrv := va_recv hC.2.1.1 hP1 hc1 (gs_ob (k := 0) (by decide) hy)
  rw [hc2] at hrv
  have cb : CallB room_1 s #[Value.ref b] R_law index me'.1 me'.2.1 me'.2.2.1 me'.2.2.2 (gs_h me' :: gw) (gr_r n) 0 0 a := callB_of a hts (lw_good hY.1) rfl rfl rfl (hts _ (gw_lw _ hY.2.1)) (hts _ (gw_lw _ hL)) hY.2.2.1 ⟨by show n + 1 ≤ 2048; omega, by have := hY.2.2.2; show 8 + (me'.2.2.1 + 11) + 40 * n ≤ 84000; omega⟩
  refine va_calli (va_runV (As := av) (rest := rest) (C := me'.1.cls) (b := v1.2.2 0) ⟨hC.1.1, hC.1.2.1, hC.1.2.2.2.1, hC.1.2.2.2.2.1, hts⟩ (hM H.size) ⟨cb, hts _ (gw_lw _ hI.1), hts _ (gw_lw _ hI.2)⟩ ⟨g_blind, hrv, g_pre hC.2.1 hP1 hD⟩ rfl ha hl.1 hst (lv_room h8) d ⟨by decide +kernel, by decide +kernel⟩) hS (fun x _ h => hF x h) hF (fun r u t H1 locs1 ht hvm hp hB hz1 hk1 hS1 => ?_)
  rw [ht] at hB
  have hO : va_P v2.1 vwCl (gs_w v2 lyM 33 σ2) H1 := hP2.kept (fun i x hx => by
    have hlt := (hP2 i x hx).lt
    have hi : i < 33 := by
      have := (List.getElem?_eq_some_iff.mp hx).1
      rwa [gs_w_len] at this
    rw [gs_w_get hi] at hx
    cases hx
    refine hk1 _ hlt (fun hA => ?_)
    rcases hA with ⟨j, e', hj⟩ | hA
    · have hj' : j < 42 := by
        have := (List.getElem?_eq_some_iff.mp hj).1
        rwa [gs_w_len] at this
      rw [gs_w_get hj'] at hj
      have e9 := congrArg (fun z : Option (Nat × va_E) => z.map Prod.fst) hj
      have e8 : v1.2.2 j = v2.2.2 i := Option.some.inj e9
      exact hC.2.2.2.2.2 j hj' i hi e8
    · exact Nat.lt_irrefl _ (Nat.lt_of_lt_of_le hlt hA))
  exact k r u hp p e s m below meth c hC ls H1 locs1 hl hB hO hS1
theorem l_callCl {me' : gs_M} {index a n ci : Nat} {fds : List Nat} {av : List Value} {post : Int64 → gs_S → Prop} (d : decode code pc = .ok (.invokevirtual index, 3)) (hY : gY me' a) (hL : Cond.methodLink R_law index me'.1 ∈ gw) (hy : lyC 0 = .inr (ci, fds)) (hc : (vwCl[ci]?).map (fun x => x.1) = some me'.1.cls) (hI : Cond.instanceMethod me'.1 ∈ gw ∧ Cond.selects me'.1.cls me'.1 me'.1 ∈ gw) (ha : av.length = a) (hn : n ≤ 2000) (h8 : (rest.map fun x => x.category).sum ≤ 8) (hst : st = av.reverse ++ .ref (v1.2.2 0) :: rest) (hM : gM l v1 lyC 42 me' n (.ref (v1.2.2 0) :: av) σ1 (qL v1 lyC 42 post)) (k : ∀ (r : Int64) (σ' : gs_S), post r σ' → lG l v1 v2 b L xs (pc + 3) Lo (.long r :: rest) σ' σ2) : lG l v1 v2 b L xs pc Lo st σ1 σ2 := by
  intro p e s m below meth c hC ls H locs hl hP1 hP2 hS
  have hD := hC.2.2.2.1 σ1
  have hF : ∀ x, va_A (gs_w v1 lyC 42 σ1) H.size x → lA s x := g_free hD (fun x hx => hx) hS
  have hts := hC.1.2.2.2.2.2.1
  obtain ⟨⟨C, T, M⟩, hc1, hc2⟩ := Option.map_eq_some_iff.mp hc
  have hrv := va_recv hC.2.1.1 hP1 hc1 (gs_ob (k := 0) (by decide) hy)
  rw [hc2] at hrv
  have cb : CallB room_1 s #[Value.ref b] R_law index me'.1 me'.2.1 me'.2.2.1 me'.2.2.2 (gs_h me' :: gw) (gr_r n) 0 0 a := callB_of a hts (lw_good hY.1) rfl rfl rfl (hts _ (gw_lw _ hY.2.1)) (hts _ (gw_lw _ hL)) hY.2.2.1 ⟨by show n + 1 ≤ 2048; omega, by have := hY.2.2.2; show 8 + (me'.2.2.1 + 11) + 40 * n ≤ 84000; omega⟩
  refine va_calll (va_runV (As := av) (rest := rest) (C := me'.1.cls) (b := v1.2.2 0) ⟨hC.1.1, hC.1.2.1, hC.1.2.2.2.1, hC.1.2.2.2.2.1, hts⟩ (hM H.size) ⟨cb, hts _ (gw_lw _ hI.1), hts _ (gw_lw _ hI.2)⟩ ⟨g_blind, hrv, g_pre hC.2.1 hP1 hD⟩ rfl ha hl.1 hst (lv_room h8) d ⟨by decide +kernel, by decide +kernel⟩) hS (fun x _ h => hF x h) hF (fun r u t H1 locs1 ht hvm hp hB hz1 hk1 hS1 => ?_)
  rw [ht] at hB
  have hO : va_P v2.1 vwCl (gs_w v2 lyM 33 σ2) H1 := hP2.kept (fun i x hx => by
    have hlt := (hP2 i x hx).lt
    have hi : i < 33 := by
      have := (List.getElem?_eq_some_iff.mp hx).1
      rwa [gs_w_len] at this
    rw [gs_w_get hi] at hx
    cases hx
    refine hk1 _ hlt (fun hA => ?_)
    rcases hA with ⟨j, e', hj⟩ | hA
    · have hj' : j < 42 := by
        have := (List.getElem?_eq_some_iff.mp hj).1
        rwa [gs_w_len] at this
      rw [gs_w_get hj'] at hj
      have e9 := congrArg (fun z : Option (Nat × va_E) => z.map Prod.fst) hj
      have e8 : v1.2.2 j = v2.2.2 i := Option.some.inj e9
      exact hC.2.2.2.2.2 j hj' i hi e8
    · exact Nat.lt_irrefl _ (Nat.lt_of_lt_of_le hlt hA))
  exact k r u hp p e s m below meth c hC ls H1 locs1 hl hB hO hS1
theorem l_callMi {me' : gs_M} {index a n ci : Nat} {fds : List Nat} {av : List Value} {post : Int32 → gs_S → Prop} (d : decode code pc = .ok (.invokevirtual index, 3)) (hY : gY me' a) (hL : Cond.methodLink R_law index me'.1 ∈ gw) (hy : lyM 0 = .inr (ci, fds)) (hc : (vwCl[ci]?).map (fun x => x.1) = some me'.1.cls) (hI : Cond.instanceMethod me'.1 ∈ gw ∧ Cond.selects me'.1.cls me'.1 me'.1 ∈ gw) (ha : av.length = a) (hn : n ≤ 2000) (h8 : (rest.map fun x => x.category).sum ≤ 8) (hst : st = av.reverse ++ .ref (v2.2.2 0) :: rest) (hM : gM l v2 lyM 33 me' n (.ref (v2.2.2 0) :: av) σ2 (qI v2 lyM 33 post)) (k : ∀ (r : Int32) (σ' : gs_S), post r σ' → lG l v1 v2 b L xs (pc + 3) Lo (.int r :: rest) σ1 σ') : lG l v1 v2 b L xs pc Lo st σ1 σ2 := by
  intro p e s m below meth c hC ls H locs hl hP1 hP2 hS
  have hD := hC.2.2.2.2.1 σ2
  have hF : ∀ x, va_A (gs_w v2 lyM 33 σ2) H.size x → lA s x := g_free hD (fun x hx => hx) hS
  have hts := hC.1.2.2.2.2.2.1
  obtain ⟨⟨C, T, M⟩, hc1, hc2⟩ := Option.map_eq_some_iff.mp hc
  have hrv := va_recv hC.2.2.1.1 hP2 hc1 (gs_ob (k := 0) (by decide) hy)
  rw [hc2] at hrv
  have cb : CallB room_1 s #[Value.ref b] R_law index me'.1 me'.2.1 me'.2.2.1 me'.2.2.2 (gs_h me' :: gw) (gr_r n) 0 0 a := callB_of a hts (lw_good hY.1) rfl rfl rfl (hts _ (gw_lw _ hY.2.1)) (hts _ (gw_lw _ hL)) hY.2.2.1 ⟨by show n + 1 ≤ 2048; omega, by have := hY.2.2.2; show 8 + (me'.2.2.1 + 11) + 40 * n ≤ 84000; omega⟩
  refine va_calli (va_runV (As := av) (rest := rest) (C := me'.1.cls) (b := v2.2.2 0) ⟨hC.1.1, hC.1.2.1, hC.1.2.2.2.1, hC.1.2.2.2.2.1, hts⟩ (hM H.size) ⟨cb, hts _ (gw_lw _ hI.1), hts _ (gw_lw _ hI.2)⟩ ⟨g_blind, hrv, g_pre hC.2.2.1 hP2 hD⟩ rfl ha hl.1 hst (lv_room h8) d ⟨by decide +kernel, by decide +kernel⟩) hS (fun x _ h => hF x h) hF (fun r u t H1 locs1 ht hvm hp hB hz1 hk1 hS1 => ?_)
  rw [ht] at hB
  have hO : va_P v1.1 vwCl (gs_w v1 lyC 42 σ1) H1 := hP1.kept (fun i x hx => by
    have hlt := (hP1 i x hx).lt
    have hi : i < 42 := by
      have := (List.getElem?_eq_some_iff.mp hx).1
      rwa [gs_w_len] at this
    rw [gs_w_get hi] at hx
    cases hx
    refine hk1 _ hlt (fun hA => ?_)
    rcases hA with ⟨j, e', hj⟩ | hA
    · have hj' : j < 33 := by
        have := (List.getElem?_eq_some_iff.mp hj).1
        rwa [gs_w_len] at this
      rw [gs_w_get hj'] at hj
      have e9 := congrArg (fun z : Option (Nat × va_E) => z.map Prod.fst) hj
      have e8 : v2.2.2 j = v1.2.2 i := Option.some.inj e9
      exact hC.2.2.2.2.2 i hi j hj' e8.symm
    · exact Nat.lt_irrefl _ (Nat.lt_of_lt_of_le hlt hA))
  exact k r u hp p e s m below meth c hC ls H1 locs1 hl hO hB hS1
theorem l_callMl {me' : gs_M} {index a n ci : Nat} {fds : List Nat} {av : List Value} {post : Int64 → gs_S → Prop} (d : decode code pc = .ok (.invokevirtual index, 3)) (hY : gY me' a) (hL : Cond.methodLink R_law index me'.1 ∈ gw) (hy : lyM 0 = .inr (ci, fds)) (hc : (vwCl[ci]?).map (fun x => x.1) = some me'.1.cls) (hI : Cond.instanceMethod me'.1 ∈ gw ∧ Cond.selects me'.1.cls me'.1 me'.1 ∈ gw) (ha : av.length = a) (hn : n ≤ 2000) (h8 : (rest.map fun x => x.category).sum ≤ 8) (hst : st = av.reverse ++ .ref (v2.2.2 0) :: rest) (hM : gM l v2 lyM 33 me' n (.ref (v2.2.2 0) :: av) σ2 (qL v2 lyM 33 post)) (k : ∀ (r : Int64) (σ' : gs_S), post r σ' → lG l v1 v2 b L xs (pc + 3) Lo (.long r :: rest) σ1 σ') : lG l v1 v2 b L xs pc Lo st σ1 σ2 := by
  intro p e s m below meth c hC ls H locs hl hP1 hP2 hS
  have hD := hC.2.2.2.2.1 σ2
  have hF : ∀ x, va_A (gs_w v2 lyM 33 σ2) H.size x → lA s x := g_free hD (fun x hx => hx) hS
  have hts := hC.1.2.2.2.2.2.1
  obtain ⟨⟨C, T, M⟩, hc1, hc2⟩ := Option.map_eq_some_iff.mp hc
  have hrv := va_recv hC.2.2.1.1 hP2 hc1 (gs_ob (k := 0) (by decide) hy)
  rw [hc2] at hrv
  have cb : CallB room_1 s #[Value.ref b] R_law index me'.1 me'.2.1 me'.2.2.1 me'.2.2.2 (gs_h me' :: gw) (gr_r n) 0 0 a := callB_of a hts (lw_good hY.1) rfl rfl rfl (hts _ (gw_lw _ hY.2.1)) (hts _ (gw_lw _ hL)) hY.2.2.1 ⟨by show n + 1 ≤ 2048; omega, by have := hY.2.2.2; show 8 + (me'.2.2.1 + 11) + 40 * n ≤ 84000; omega⟩
  refine va_calll (va_runV (As := av) (rest := rest) (C := me'.1.cls) (b := v2.2.2 0) ⟨hC.1.1, hC.1.2.1, hC.1.2.2.2.1, hC.1.2.2.2.2.1, hts⟩ (hM H.size) ⟨cb, hts _ (gw_lw _ hI.1), hts _ (gw_lw _ hI.2)⟩ ⟨g_blind, hrv, g_pre hC.2.2.1 hP2 hD⟩ rfl ha hl.1 hst (lv_room h8) d ⟨by decide +kernel, by decide +kernel⟩) hS (fun x _ h => hF x h) hF (fun r u t H1 locs1 ht hvm hp hB hz1 hk1 hS1 => ?_)
  rw [ht] at hB
  have hO : va_P v1.1 vwCl (gs_w v1 lyC 42 σ1) H1 := hP1.kept (fun i x hx => by
    have hlt := (hP1 i x hx).lt
    have hi : i < 42 := by
      have := (List.getElem?_eq_some_iff.mp hx).1
      rwa [gs_w_len] at this
    rw [gs_w_get hi] at hx
    cases hx
    refine hk1 _ hlt (fun hA => ?_)
    rcases hA with ⟨j, e', hj⟩ | hA
    · have hj' : j < 33 := by
        have := (List.getElem?_eq_some_iff.mp hj).1
        rwa [gs_w_len] at this
      rw [gs_w_get hj'] at hj
      have e9 := congrArg (fun z : Option (Nat × va_E) => z.map Prod.fst) hj
      have e8 : v2.2.2 j = v1.2.2 i := Option.some.inj e9
      exact hC.2.2.2.2.2 i hi j hj' e8.symm
    · exact Nat.lt_irrefl _ (Nat.lt_of_lt_of_le hlt hA))
  exact k r u hp p e s m below meth c hC ls H1 locs1 hl hO hB hS1
end LG
/-- a call of both, with the same arguments: the same answer, and what holds then -/
def lOi (l : Launch) (v1 v2 : gs_V) (n : Nat) (mc mm : gs_M) (as : List Value) (σ1 σ2 : gs_S) (Post : gs_S → gs_S → Prop) : Prop :=
  gM l v1 lyC 42 mc n (.ref (v1.2.2 0) :: as) σ1 (qI v1 lyC 42 (fun r σ1' => gM l v2 lyM 33 mm n (.ref (v2.2.2 0) :: as) σ2 (qI v2 lyM 33 (fun r' σ2' => r = r' ∧ Post σ1' σ2'))))
def lOl (l : Launch) (v1 v2 : gs_V) (n : Nat) (mc mm : gs_M) (as : List Value) (σ1 σ2 : gs_S) (Post : gs_S → gs_S → Prop) : Prop :=
  gM l v1 lyC 42 mc n (.ref (v1.2.2 0) :: as) σ1 (qL v1 lyC 42 (fun r σ1' => gM l v2 lyM 33 mm n (.ref (v2.2.2 0) :: as) σ2 (qL v2 lyM 33 (fun r' σ2' => r = r' ∧ Post σ1' σ2'))))
theorem d_L_0 : decode code 0 = .ok (.new 7, 3) := by decide +kernel
theorem d_L_3 : decode code 3 = .ok (.dup, 1) := by decide +kernel
theorem d_L_4 : decode code 4 = .ok (.invokespecial 9, 3) := by decide +kernel
theorem d_L_7 : decode code 7 = .ok (.astore_n 1, 1) := by decide +kernel
theorem d_L_8 : decode code 8 = .ok (.new 10, 3) := by decide +kernel
theorem d_L_11 : decode code 11 = .ok (.dup, 1) := by decide +kernel
theorem d_L_12 : decode code 12 = .ok (.invokespecial 12, 3) := by decide +kernel
theorem d_L_15 : decode code 15 = .ok (.astore_n 2, 1) := by decide +kernel
theorem d_L_16 : decode code 16 = .ok (.iconst 0, 1) := by decide +kernel
theorem d_L_17 : decode code 17 = .ok (.istore_n 3, 1) := by decide +kernel
theorem d_L_18 : decode code 18 = .ok (.iload_n 3, 1) := by decide +kernel
theorem d_L_19 : decode code 19 = .ok (.aload_n 0, 1) := by decide +kernel
theorem d_L_20 : decode code 20 = .ok (.arraylength, 1) := by decide +kernel
theorem d_L_21 : decode code 21 = .ok (.iconst 3, 1) := by decide +kernel
theorem d_L_22 : decode code 22 = .ok (.isub, 1) := by decide +kernel
theorem d_L_23 : decode code 23 = .ok (.if_icmp .gt 495, 3) := by decide +kernel
theorem d_L_26 : decode code 26 = .ok (.aload_n 0, 1) := by decide +kernel
theorem d_L_27 : decode code 27 = .ok (.iload_n 3, 1) := by decide +kernel
theorem d_L_28 : decode code 28 = .ok (.iaload, 1) := by decide +kernel
theorem d_L_29 : decode code 29 = .ok (.bipush 31, 2) := by decide +kernel
theorem d_L_31 : decode code 31 = .ok (.iand, 1) := by decide +kernel
theorem d_L_32 : decode code 32 = .ok (.tableswitch 480 0 18 #[92, 115, 128, 151, 174, 207, 230, 253, 276, 289, 302, 325, 348, 361, 394, 407, 430, 443, 466], 92) := by decide +kernel
theorem d_L_124 : decode code 124 = .ok (.aload_n 1, 1) := by decide +kernel
theorem d_L_125 : decode code 125 = .ok (.aload_n 0, 1) := by decide +kernel
theorem d_L_126 : decode code 126 = .ok (.iload_n 3, 1) := by decide +kernel
theorem d_L_127 : decode code 127 = .ok (.iconst 1, 1) := by decide +kernel
theorem d_L_128 : decode code 128 = .ok (.iadd, 1) := by decide +kernel
theorem d_L_129 : decode code 129 = .ok (.iaload, 1) := by decide +kernel
theorem d_L_130 : decode code 130 = .ok (.invokevirtual 13, 3) := by decide +kernel
theorem d_L_133 : decode code 133 = .ok (.aload_n 2, 1) := by decide +kernel
theorem d_L_134 : decode code 134 = .ok (.aload_n 0, 1) := by decide +kernel
theorem d_L_135 : decode code 135 = .ok (.iload_n 3, 1) := by decide +kernel
theorem d_L_136 : decode code 136 = .ok (.iconst 1, 1) := by decide +kernel
theorem d_L_137 : decode code 137 = .ok (.iadd, 1) := by decide +kernel
theorem d_L_138 : decode code 138 = .ok (.iaload, 1) := by decide +kernel
theorem d_L_139 : decode code 139 = .ok (.invokevirtual 17, 3) := by decide +kernel
theorem d_L_142 : decode code 142 = .ok (.if_icmp .eq 370, 3) := by decide +kernel
theorem d_L_145 : decode code 145 = .ok (.iconst 0, 1) := by decide +kernel
theorem d_L_146 : decode code 146 = .ok (.ireturn, 1) := by decide +kernel
theorem d_L_147 : decode code 147 = .ok (.aload_n 1, 1) := by decide +kernel
theorem d_L_148 : decode code 148 = .ok (.invokevirtual 18, 3) := by decide +kernel
theorem d_L_151 : decode code 151 = .ok (.aload_n 2, 1) := by decide +kernel
theorem d_L_152 : decode code 152 = .ok (.invokevirtual 22, 3) := by decide +kernel
theorem d_L_155 : decode code 155 = .ok (.if_icmp .eq 357, 3) := by decide +kernel
theorem d_L_158 : decode code 158 = .ok (.iconst 0, 1) := by decide +kernel
theorem d_L_159 : decode code 159 = .ok (.ireturn, 1) := by decide +kernel
theorem d_L_160 : decode code 160 = .ok (.aload_n 1, 1) := by decide +kernel
theorem d_L_161 : decode code 161 = .ok (.aload_n 0, 1) := by decide +kernel
theorem d_L_162 : decode code 162 = .ok (.iload_n 3, 1) := by decide +kernel
theorem d_L_163 : decode code 163 = .ok (.iconst 1, 1) := by decide +kernel
theorem d_L_164 : decode code 164 = .ok (.iadd, 1) := by decide +kernel
theorem d_L_165 : decode code 165 = .ok (.iaload, 1) := by decide +kernel
theorem d_L_166 : decode code 166 = .ok (.invokevirtual 23, 3) := by decide +kernel
theorem d_L_169 : decode code 169 = .ok (.aload_n 2, 1) := by decide +kernel
theorem d_L_170 : decode code 170 = .ok (.aload_n 0, 1) := by decide +kernel
theorem d_L_171 : decode code 171 = .ok (.iload_n 3, 1) := by decide +kernel
theorem d_L_172 : decode code 172 = .ok (.iconst 1, 1) := by decide +kernel
theorem d_L_173 : decode code 173 = .ok (.iadd, 1) := by decide +kernel
theorem d_L_174 : decode code 174 = .ok (.iaload, 1) := by decide +kernel
theorem d_L_175 : decode code 175 = .ok (.invokevirtual 26, 3) := by decide +kernel
theorem d_L_178 : decode code 178 = .ok (.if_icmp .eq 334, 3) := by decide +kernel
theorem d_L_181 : decode code 181 = .ok (.iconst 0, 1) := by decide +kernel
theorem d_L_182 : decode code 182 = .ok (.ireturn, 1) := by decide +kernel
theorem d_L_183 : decode code 183 = .ok (.aload_n 1, 1) := by decide +kernel
theorem d_L_184 : decode code 184 = .ok (.aload_n 0, 1) := by decide +kernel
theorem d_L_185 : decode code 185 = .ok (.iload_n 3, 1) := by decide +kernel
theorem d_L_186 : decode code 186 = .ok (.iconst 1, 1) := by decide +kernel
theorem d_L_187 : decode code 187 = .ok (.iadd, 1) := by decide +kernel
theorem d_L_188 : decode code 188 = .ok (.iaload, 1) := by decide +kernel
theorem d_L_189 : decode code 189 = .ok (.invokevirtual 27, 3) := by decide +kernel
theorem d_L_192 : decode code 192 = .ok (.aload_n 2, 1) := by decide +kernel
theorem d_L_193 : decode code 193 = .ok (.aload_n 0, 1) := by decide +kernel
theorem d_L_194 : decode code 194 = .ok (.iload_n 3, 1) := by decide +kernel
theorem d_L_195 : decode code 195 = .ok (.iconst 1, 1) := by decide +kernel
theorem d_L_196 : decode code 196 = .ok (.iadd, 1) := by decide +kernel
theorem d_L_197 : decode code 197 = .ok (.iaload, 1) := by decide +kernel
theorem d_L_198 : decode code 198 = .ok (.invokevirtual 30, 3) := by decide +kernel
theorem d_L_201 : decode code 201 = .ok (.if_icmp .eq 311, 3) := by decide +kernel
theorem d_L_204 : decode code 204 = .ok (.iconst 0, 1) := by decide +kernel
theorem d_L_205 : decode code 205 = .ok (.ireturn, 1) := by decide +kernel
theorem d_L_206 : decode code 206 = .ok (.aload_n 1, 1) := by decide +kernel
theorem d_L_207 : decode code 207 = .ok (.aload_n 0, 1) := by decide +kernel
theorem d_L_208 : decode code 208 = .ok (.iload_n 3, 1) := by decide +kernel
theorem d_L_209 : decode code 209 = .ok (.iconst 1, 1) := by decide +kernel
theorem d_L_210 : decode code 210 = .ok (.iadd, 1) := by decide +kernel
theorem d_L_211 : decode code 211 = .ok (.iaload, 1) := by decide +kernel
theorem d_L_212 : decode code 212 = .ok (.aload_n 0, 1) := by decide +kernel
theorem d_L_213 : decode code 213 = .ok (.iload_n 3, 1) := by decide +kernel
theorem d_L_214 : decode code 214 = .ok (.iconst 2, 1) := by decide +kernel
theorem d_L_215 : decode code 215 = .ok (.iadd, 1) := by decide +kernel
theorem d_L_216 : decode code 216 = .ok (.iaload, 1) := by decide +kernel
theorem d_L_217 : decode code 217 = .ok (.invokevirtual 31, 3) := by decide +kernel
theorem d_L_220 : decode code 220 = .ok (.aload_n 2, 1) := by decide +kernel
theorem d_L_221 : decode code 221 = .ok (.aload_n 0, 1) := by decide +kernel
theorem d_L_222 : decode code 222 = .ok (.iload_n 3, 1) := by decide +kernel
theorem d_L_223 : decode code 223 = .ok (.iconst 1, 1) := by decide +kernel
theorem d_L_224 : decode code 224 = .ok (.iadd, 1) := by decide +kernel
theorem d_L_225 : decode code 225 = .ok (.iaload, 1) := by decide +kernel
theorem d_L_226 : decode code 226 = .ok (.aload_n 0, 1) := by decide +kernel
theorem d_L_227 : decode code 227 = .ok (.iload_n 3, 1) := by decide +kernel
theorem d_L_228 : decode code 228 = .ok (.iconst 2, 1) := by decide +kernel
theorem d_L_229 : decode code 229 = .ok (.iadd, 1) := by decide +kernel
theorem d_L_230 : decode code 230 = .ok (.iaload, 1) := by decide +kernel
theorem d_L_231 : decode code 231 = .ok (.invokevirtual 35, 3) := by decide +kernel
theorem d_L_234 : decode code 234 = .ok (.if_icmp .eq 278, 3) := by decide +kernel
theorem d_L_237 : decode code 237 = .ok (.iconst 0, 1) := by decide +kernel
theorem d_L_238 : decode code 238 = .ok (.ireturn, 1) := by decide +kernel
theorem d_L_239 : decode code 239 = .ok (.aload_n 1, 1) := by decide +kernel
theorem d_L_240 : decode code 240 = .ok (.aload_n 0, 1) := by decide +kernel
theorem d_L_241 : decode code 241 = .ok (.iload_n 3, 1) := by decide +kernel
theorem d_L_242 : decode code 242 = .ok (.iconst 1, 1) := by decide +kernel
theorem d_L_243 : decode code 243 = .ok (.iadd, 1) := by decide +kernel
theorem d_L_244 : decode code 244 = .ok (.iaload, 1) := by decide +kernel
theorem d_L_245 : decode code 245 = .ok (.invokevirtual 36, 3) := by decide +kernel
theorem d_L_248 : decode code 248 = .ok (.aload_n 2, 1) := by decide +kernel
theorem d_L_249 : decode code 249 = .ok (.aload_n 0, 1) := by decide +kernel
theorem d_L_250 : decode code 250 = .ok (.iload_n 3, 1) := by decide +kernel
theorem d_L_251 : decode code 251 = .ok (.iconst 1, 1) := by decide +kernel
theorem d_L_252 : decode code 252 = .ok (.iadd, 1) := by decide +kernel
theorem d_L_253 : decode code 253 = .ok (.iaload, 1) := by decide +kernel
theorem d_L_254 : decode code 254 = .ok (.invokevirtual 39, 3) := by decide +kernel
theorem d_L_257 : decode code 257 = .ok (.if_icmp .eq 255, 3) := by decide +kernel
theorem d_L_260 : decode code 260 = .ok (.iconst 0, 1) := by decide +kernel
theorem d_L_261 : decode code 261 = .ok (.ireturn, 1) := by decide +kernel
theorem d_L_262 : decode code 262 = .ok (.aload_n 1, 1) := by decide +kernel
theorem d_L_263 : decode code 263 = .ok (.aload_n 0, 1) := by decide +kernel
theorem d_L_264 : decode code 264 = .ok (.iload_n 3, 1) := by decide +kernel
theorem d_L_265 : decode code 265 = .ok (.iconst 1, 1) := by decide +kernel
theorem d_L_266 : decode code 266 = .ok (.iadd, 1) := by decide +kernel
theorem d_L_267 : decode code 267 = .ok (.iaload, 1) := by decide +kernel
theorem d_L_268 : decode code 268 = .ok (.invokevirtual 40, 3) := by decide +kernel
theorem d_L_271 : decode code 271 = .ok (.aload_n 2, 1) := by decide +kernel
theorem d_L_272 : decode code 272 = .ok (.aload_n 0, 1) := by decide +kernel
theorem d_L_273 : decode code 273 = .ok (.iload_n 3, 1) := by decide +kernel
theorem d_L_274 : decode code 274 = .ok (.iconst 1, 1) := by decide +kernel
theorem d_L_275 : decode code 275 = .ok (.iadd, 1) := by decide +kernel
theorem d_L_276 : decode code 276 = .ok (.iaload, 1) := by decide +kernel
theorem d_L_277 : decode code 277 = .ok (.invokevirtual 43, 3) := by decide +kernel
theorem d_L_280 : decode code 280 = .ok (.if_icmp .eq 232, 3) := by decide +kernel
theorem d_L_283 : decode code 283 = .ok (.iconst 0, 1) := by decide +kernel
theorem d_L_284 : decode code 284 = .ok (.ireturn, 1) := by decide +kernel
theorem d_L_285 : decode code 285 = .ok (.aload_n 1, 1) := by decide +kernel
theorem d_L_286 : decode code 286 = .ok (.aload_n 0, 1) := by decide +kernel
theorem d_L_287 : decode code 287 = .ok (.iload_n 3, 1) := by decide +kernel
theorem d_L_288 : decode code 288 = .ok (.iconst 1, 1) := by decide +kernel
theorem d_L_289 : decode code 289 = .ok (.iadd, 1) := by decide +kernel
theorem d_L_290 : decode code 290 = .ok (.iaload, 1) := by decide +kernel
theorem d_L_291 : decode code 291 = .ok (.invokevirtual 44, 3) := by decide +kernel
theorem d_L_294 : decode code 294 = .ok (.aload_n 2, 1) := by decide +kernel
theorem d_L_295 : decode code 295 = .ok (.aload_n 0, 1) := by decide +kernel
theorem d_L_296 : decode code 296 = .ok (.iload_n 3, 1) := by decide +kernel
theorem d_L_297 : decode code 297 = .ok (.iconst 1, 1) := by decide +kernel
theorem d_L_298 : decode code 298 = .ok (.iadd, 1) := by decide +kernel
theorem d_L_299 : decode code 299 = .ok (.iaload, 1) := by decide +kernel
theorem d_L_300 : decode code 300 = .ok (.invokevirtual 47, 3) := by decide +kernel
theorem d_L_303 : decode code 303 = .ok (.if_icmp .eq 209, 3) := by decide +kernel
theorem d_L_306 : decode code 306 = .ok (.iconst 0, 1) := by decide +kernel
theorem d_L_307 : decode code 307 = .ok (.ireturn, 1) := by decide +kernel
theorem d_L_308 : decode code 308 = .ok (.aload_n 1, 1) := by decide +kernel
theorem d_L_309 : decode code 309 = .ok (.invokevirtual 48, 3) := by decide +kernel
theorem d_L_312 : decode code 312 = .ok (.aload_n 2, 1) := by decide +kernel
theorem d_L_313 : decode code 313 = .ok (.invokevirtual 51, 3) := by decide +kernel
theorem d_L_316 : decode code 316 = .ok (.if_icmp .eq 196, 3) := by decide +kernel
theorem d_L_319 : decode code 319 = .ok (.iconst 0, 1) := by decide +kernel
theorem d_L_320 : decode code 320 = .ok (.ireturn, 1) := by decide +kernel
theorem d_L_321 : decode code 321 = .ok (.aload_n 1, 1) := by decide +kernel
theorem d_L_322 : decode code 322 = .ok (.invokevirtual 52, 3) := by decide +kernel
theorem d_L_325 : decode code 325 = .ok (.aload_n 2, 1) := by decide +kernel
theorem d_L_326 : decode code 326 = .ok (.invokevirtual 55, 3) := by decide +kernel
theorem d_L_329 : decode code 329 = .ok (.if_icmp .eq 183, 3) := by decide +kernel
theorem d_L_332 : decode code 332 = .ok (.iconst 0, 1) := by decide +kernel
theorem d_L_333 : decode code 333 = .ok (.ireturn, 1) := by decide +kernel
theorem d_L_334 : decode code 334 = .ok (.aload_n 1, 1) := by decide +kernel
theorem d_L_335 : decode code 335 = .ok (.aload_n 0, 1) := by decide +kernel
theorem d_L_336 : decode code 336 = .ok (.iload_n 3, 1) := by decide +kernel
theorem d_L_337 : decode code 337 = .ok (.iconst 1, 1) := by decide +kernel
theorem d_L_338 : decode code 338 = .ok (.iadd, 1) := by decide +kernel
theorem d_L_339 : decode code 339 = .ok (.iaload, 1) := by decide +kernel
theorem d_L_340 : decode code 340 = .ok (.invokevirtual 56, 3) := by decide +kernel
theorem d_L_343 : decode code 343 = .ok (.aload_n 2, 1) := by decide +kernel
theorem d_L_344 : decode code 344 = .ok (.aload_n 0, 1) := by decide +kernel
theorem d_L_345 : decode code 345 = .ok (.iload_n 3, 1) := by decide +kernel
theorem d_L_346 : decode code 346 = .ok (.iconst 1, 1) := by decide +kernel
theorem d_L_347 : decode code 347 = .ok (.iadd, 1) := by decide +kernel
theorem d_L_348 : decode code 348 = .ok (.iaload, 1) := by decide +kernel
theorem d_L_349 : decode code 349 = .ok (.invokevirtual 59, 3) := by decide +kernel
theorem d_L_352 : decode code 352 = .ok (.if_icmp .eq 160, 3) := by decide +kernel
theorem d_L_355 : decode code 355 = .ok (.iconst 0, 1) := by decide +kernel
theorem d_L_356 : decode code 356 = .ok (.ireturn, 1) := by decide +kernel
theorem d_L_357 : decode code 357 = .ok (.aload_n 1, 1) := by decide +kernel
theorem d_L_358 : decode code 358 = .ok (.aload_n 0, 1) := by decide +kernel
theorem d_L_359 : decode code 359 = .ok (.iload_n 3, 1) := by decide +kernel
theorem d_L_360 : decode code 360 = .ok (.iconst 1, 1) := by decide +kernel
theorem d_L_361 : decode code 361 = .ok (.iadd, 1) := by decide +kernel
theorem d_L_362 : decode code 362 = .ok (.iaload, 1) := by decide +kernel
theorem d_L_363 : decode code 363 = .ok (.invokevirtual 60, 3) := by decide +kernel
theorem d_L_366 : decode code 366 = .ok (.aload_n 2, 1) := by decide +kernel
theorem d_L_367 : decode code 367 = .ok (.aload_n 0, 1) := by decide +kernel
theorem d_L_368 : decode code 368 = .ok (.iload_n 3, 1) := by decide +kernel
theorem d_L_369 : decode code 369 = .ok (.iconst 1, 1) := by decide +kernel
theorem d_L_370 : decode code 370 = .ok (.iadd, 1) := by decide +kernel
theorem d_L_371 : decode code 371 = .ok (.iaload, 1) := by decide +kernel
theorem d_L_372 : decode code 372 = .ok (.invokevirtual 63, 3) := by decide +kernel
theorem d_L_375 : decode code 375 = .ok (.if_icmp .eq 137, 3) := by decide +kernel
theorem d_L_378 : decode code 378 = .ok (.iconst 0, 1) := by decide +kernel
theorem d_L_379 : decode code 379 = .ok (.ireturn, 1) := by decide +kernel
theorem d_L_380 : decode code 380 = .ok (.aload_n 1, 1) := by decide +kernel
theorem d_L_381 : decode code 381 = .ok (.invokevirtual 64, 3) := by decide +kernel
theorem d_L_384 : decode code 384 = .ok (.aload_n 2, 1) := by decide +kernel
theorem d_L_385 : decode code 385 = .ok (.invokevirtual 67, 3) := by decide +kernel
theorem d_L_388 : decode code 388 = .ok (.if_icmp .eq 124, 3) := by decide +kernel
theorem d_L_391 : decode code 391 = .ok (.iconst 0, 1) := by decide +kernel
theorem d_L_392 : decode code 392 = .ok (.ireturn, 1) := by decide +kernel
theorem d_L_393 : decode code 393 = .ok (.aload_n 1, 1) := by decide +kernel
theorem d_L_394 : decode code 394 = .ok (.aload_n 0, 1) := by decide +kernel
theorem d_L_395 : decode code 395 = .ok (.iload_n 3, 1) := by decide +kernel
theorem d_L_396 : decode code 396 = .ok (.iconst 1, 1) := by decide +kernel
theorem d_L_397 : decode code 397 = .ok (.iadd, 1) := by decide +kernel
theorem d_L_398 : decode code 398 = .ok (.iaload, 1) := by decide +kernel
theorem d_L_399 : decode code 399 = .ok (.aload_n 0, 1) := by decide +kernel
theorem d_L_400 : decode code 400 = .ok (.iload_n 3, 1) := by decide +kernel
theorem d_L_401 : decode code 401 = .ok (.iconst 2, 1) := by decide +kernel
theorem d_L_402 : decode code 402 = .ok (.iadd, 1) := by decide +kernel
theorem d_L_403 : decode code 403 = .ok (.iaload, 1) := by decide +kernel
theorem d_L_404 : decode code 404 = .ok (.invokevirtual 68, 3) := by decide +kernel
theorem d_L_407 : decode code 407 = .ok (.aload_n 2, 1) := by decide +kernel
theorem d_L_408 : decode code 408 = .ok (.aload_n 0, 1) := by decide +kernel
theorem d_L_409 : decode code 409 = .ok (.iload_n 3, 1) := by decide +kernel
theorem d_L_410 : decode code 410 = .ok (.iconst 1, 1) := by decide +kernel
theorem d_L_411 : decode code 411 = .ok (.iadd, 1) := by decide +kernel
theorem d_L_412 : decode code 412 = .ok (.iaload, 1) := by decide +kernel
theorem d_L_413 : decode code 413 = .ok (.aload_n 0, 1) := by decide +kernel
theorem d_L_414 : decode code 414 = .ok (.iload_n 3, 1) := by decide +kernel
theorem d_L_415 : decode code 415 = .ok (.iconst 2, 1) := by decide +kernel
theorem d_L_416 : decode code 416 = .ok (.iadd, 1) := by decide +kernel
theorem d_L_417 : decode code 417 = .ok (.iaload, 1) := by decide +kernel
theorem d_L_418 : decode code 418 = .ok (.invokevirtual 71, 3) := by decide +kernel
theorem d_L_421 : decode code 421 = .ok (.if_icmp .eq 91, 3) := by decide +kernel
theorem d_L_424 : decode code 424 = .ok (.iconst 0, 1) := by decide +kernel
theorem d_L_425 : decode code 425 = .ok (.ireturn, 1) := by decide +kernel
theorem d_L_426 : decode code 426 = .ok (.aload_n 1, 1) := by decide +kernel
theorem d_L_427 : decode code 427 = .ok (.invokevirtual 72, 3) := by decide +kernel
theorem d_L_430 : decode code 430 = .ok (.aload_n 2, 1) := by decide +kernel
theorem d_L_431 : decode code 431 = .ok (.invokevirtual 75, 3) := by decide +kernel
theorem d_L_434 : decode code 434 = .ok (.if_icmp .eq 78, 3) := by decide +kernel
theorem d_L_437 : decode code 437 = .ok (.iconst 0, 1) := by decide +kernel
theorem d_L_438 : decode code 438 = .ok (.ireturn, 1) := by decide +kernel
theorem d_L_439 : decode code 439 = .ok (.aload_n 1, 1) := by decide +kernel
theorem d_L_440 : decode code 440 = .ok (.aload_n 0, 1) := by decide +kernel
theorem d_L_441 : decode code 441 = .ok (.iload_n 3, 1) := by decide +kernel
theorem d_L_442 : decode code 442 = .ok (.iconst 1, 1) := by decide +kernel
theorem d_L_443 : decode code 443 = .ok (.iadd, 1) := by decide +kernel
theorem d_L_444 : decode code 444 = .ok (.iaload, 1) := by decide +kernel
theorem d_L_445 : decode code 445 = .ok (.invokevirtual 76, 3) := by decide +kernel
theorem d_L_448 : decode code 448 = .ok (.aload_n 2, 1) := by decide +kernel
theorem d_L_449 : decode code 449 = .ok (.aload_n 0, 1) := by decide +kernel
theorem d_L_450 : decode code 450 = .ok (.iload_n 3, 1) := by decide +kernel
theorem d_L_451 : decode code 451 = .ok (.iconst 1, 1) := by decide +kernel
theorem d_L_452 : decode code 452 = .ok (.iadd, 1) := by decide +kernel
theorem d_L_453 : decode code 453 = .ok (.iaload, 1) := by decide +kernel
theorem d_L_454 : decode code 454 = .ok (.invokevirtual 79, 3) := by decide +kernel
theorem d_L_457 : decode code 457 = .ok (.if_icmp .eq 55, 3) := by decide +kernel
theorem d_L_460 : decode code 460 = .ok (.iconst 0, 1) := by decide +kernel
theorem d_L_461 : decode code 461 = .ok (.ireturn, 1) := by decide +kernel
theorem d_L_462 : decode code 462 = .ok (.aload_n 1, 1) := by decide +kernel
theorem d_L_463 : decode code 463 = .ok (.invokevirtual 80, 3) := by decide +kernel
theorem d_L_466 : decode code 466 = .ok (.aload_n 2, 1) := by decide +kernel
theorem d_L_467 : decode code 467 = .ok (.invokevirtual 83, 3) := by decide +kernel
theorem d_L_470 : decode code 470 = .ok (.if_icmp .eq 42, 3) := by decide +kernel
theorem d_L_473 : decode code 473 = .ok (.iconst 0, 1) := by decide +kernel
theorem d_L_474 : decode code 474 = .ok (.ireturn, 1) := by decide +kernel
theorem d_L_475 : decode code 475 = .ok (.aload_n 1, 1) := by decide +kernel
theorem d_L_476 : decode code 476 = .ok (.aload_n 0, 1) := by decide +kernel
theorem d_L_477 : decode code 477 = .ok (.iload_n 3, 1) := by decide +kernel
theorem d_L_478 : decode code 478 = .ok (.iconst 1, 1) := by decide +kernel
theorem d_L_479 : decode code 479 = .ok (.iadd, 1) := by decide +kernel
theorem d_L_480 : decode code 480 = .ok (.iaload, 1) := by decide +kernel
theorem d_L_481 : decode code 481 = .ok (.invokevirtual 84, 3) := by decide +kernel
theorem d_L_484 : decode code 484 = .ok (.aload_n 2, 1) := by decide +kernel
theorem d_L_485 : decode code 485 = .ok (.aload_n 0, 1) := by decide +kernel
theorem d_L_486 : decode code 486 = .ok (.iload_n 3, 1) := by decide +kernel
theorem d_L_487 : decode code 487 = .ok (.iconst 1, 1) := by decide +kernel
theorem d_L_488 : decode code 488 = .ok (.iadd, 1) := by decide +kernel
theorem d_L_489 : decode code 489 = .ok (.iaload, 1) := by decide +kernel
theorem d_L_490 : decode code 490 = .ok (.invokevirtual 87, 3) := by decide +kernel
theorem d_L_493 : decode code 493 = .ok (.if_icmp .eq 19, 3) := by decide +kernel
theorem d_L_496 : decode code 496 = .ok (.iconst 0, 1) := by decide +kernel
theorem d_L_497 : decode code 497 = .ok (.ireturn, 1) := by decide +kernel
theorem d_L_498 : decode code 498 = .ok (.aload_n 1, 1) := by decide +kernel
theorem d_L_499 : decode code 499 = .ok (.invokevirtual 88, 3) := by decide +kernel
theorem d_L_502 : decode code 502 = .ok (.aload_n 2, 1) := by decide +kernel
theorem d_L_503 : decode code 503 = .ok (.invokevirtual 92, 3) := by decide +kernel
theorem d_L_506 : decode code 506 = .ok (.lcmp, 1) := by decide +kernel
theorem d_L_507 : decode code 507 = .ok (.ifCond .eq 5, 3) := by decide +kernel
theorem d_L_510 : decode code 510 = .ok (.iconst 0, 1) := by decide +kernel
theorem d_L_511 : decode code 511 = .ok (.ireturn, 1) := by decide +kernel
theorem d_L_512 : decode code 512 = .ok (.iinc 3 3, 3) := by decide +kernel
theorem d_L_515 : decode code 515 = .ok (.goto (-497), 3) := by decide +kernel
theorem d_L_518 : decode code 518 = .ok (.iconst 1, 1) := by decide +kernel
theorem d_L_519 : decode code 519 = .ok (.ireturn, 1) := by decide +kernel
theorem lk_L_13 : Cond.methodLink R_law 13 me_A_load.1 ∈ gw := (gw_t2 (List.mem_of_getElem? (i := 91) rfl) rfl)
theorem lk_L_17 : Cond.methodLink R_law 17 me_M_load.1 ∈ gw := (gw_t4 (List.mem_of_getElem? (i := 226) rfl) rfl)
theorem lk_L_18 : Cond.methodLink R_law 18 me_A_rule.1 ∈ gw := (gw_t2 (List.mem_of_getElem? (i := 99) rfl) rfl)
theorem lk_L_22 : Cond.methodLink R_law 22 me_M_rule.1 ∈ gw := (gw_t4 (List.mem_of_getElem? (i := 230) rfl) rfl)
theorem lk_L_23 : Cond.methodLink R_law 23 me_A_next.1 ∈ gw := (gw_t2 (List.mem_of_getElem? (i := 226) rfl) rfl)
theorem lk_L_26 : Cond.methodLink R_law 26 me_M_next.1 ∈ gw := (gw_t5 (List.mem_of_getElem? (i := 56) rfl) rfl)
theorem lk_L_27 : Cond.methodLink R_law 27 me_A_ring.1 ∈ gw := (gw_t2 (List.mem_of_getElem? (i := 230) rfl) rfl)
theorem lk_L_30 : Cond.methodLink R_law 30 me_M_ring.1 ∈ gw := (gw_t5 (List.mem_of_getElem? (i := 60) rfl) rfl)
theorem lk_L_31 : Cond.methodLink R_law 31 me_A_set.1 ∈ gw := (gw_t2 (List.mem_of_getElem? (i := 239) rfl) rfl)
theorem lk_L_35 : Cond.methodLink R_law 35 me_M_set.1 ∈ gw := (gw_t5 (List.mem_of_getElem? (i := 64) rfl) rfl)
theorem lk_L_36 : Cond.methodLink R_law 36 me_A_get.1 ∈ gw := (gw_t3 (List.mem_of_getElem? (i := 11) rfl) rfl)
theorem lk_L_39 : Cond.methodLink R_law 39 me_M_get.1 ∈ gw := (gw_t5 (List.mem_of_getElem? (i := 68) rfl) rfl)
theorem lk_L_40 : Cond.methodLink R_law 40 me_A_step.1 ∈ gw := (gw_t3 (List.mem_of_getElem? (i := 15) rfl) rfl)
theorem lk_L_43 : Cond.methodLink R_law 43 me_M_step.1 ∈ gw := (gw_t5 (List.mem_of_getElem? (i := 72) rfl) rfl)
theorem lk_L_44 : Cond.methodLink R_law 44 me_A_population.1 ∈ gw := (gw_t3 (List.mem_of_getElem? (i := 38) rfl) rfl)
theorem lk_L_47 : Cond.methodLink R_law 47 me_M_population.1 ∈ gw := (gw_t5 (List.mem_of_getElem? (i := 80) rfl) rfl)
theorem lk_L_48 : Cond.methodLink R_law 48 me_A_surjective.1 ∈ gw := (gw_t3 (List.mem_of_getElem? (i := 46) rfl) rfl)
theorem lk_L_51 : Cond.methodLink R_law 51 me_M_surjective.1 ∈ gw := (gw_t5 (List.mem_of_getElem? (i := 84) rfl) rfl)
theorem lk_L_52 : Cond.methodLink R_law 52 me_A_injective.1 ∈ gw := (gw_t3 (List.mem_of_getElem? (i := 73) rfl) rfl)
theorem lk_L_55 : Cond.methodLink R_law 55 me_M_injective.1 ∈ gw := (gw_t5 (List.mem_of_getElem? (i := 104) rfl) rfl)
theorem lk_L_56 : Cond.methodLink R_law 56 me_A_inverse.1 ∈ gw := (gw_t3 (List.mem_of_getElem? (i := 95) rfl) rfl)
theorem lk_L_59 : Cond.methodLink R_law 59 me_M_inverse.1 ∈ gw := (gw_t5 (List.mem_of_getElem? (i := 112) rfl) rfl)
theorem lk_L_60 : Cond.methodLink R_law 60 me_A_undo.1 ∈ gw := (gw_t3 (List.mem_of_getElem? (i := 130) rfl) rfl)
theorem lk_L_63 : Cond.methodLink R_law 63 me_M_undo.1 ∈ gw := (gw_t5 (List.mem_of_getElem? (i := 128) rfl) rfl)
theorem lk_L_64 : Cond.methodLink R_law 64 me_A_conserved.1 ∈ gw := (gw_t3 (List.mem_of_getElem? (i := 138) rfl) rfl)
theorem lk_L_67 : Cond.methodLink R_law 67 me_M_conserved.1 ∈ gw := (gw_t5 (List.mem_of_getElem? (i := 132) rfl) rfl)
theorem lk_L_68 : Cond.methodLink R_law 68 me_A_weight.1 ∈ gw := (gw_t3 (List.mem_of_getElem? (i := 179) rfl) rfl)
theorem lk_L_71 : Cond.methodLink R_law 71 me_M_weight.1 ∈ gw := (gw_t5 (List.mem_of_getElem? (i := 159) rfl) rfl)
theorem lk_L_72 : Cond.methodLink R_law 72 me_A_orphan.1 ∈ gw := (gw_t3 (List.mem_of_getElem? (i := 188) rfl) rfl)
theorem lk_L_75 : Cond.methodLink R_law 75 me_M_orphan.1 ∈ gw := (gw_t5 (List.mem_of_getElem? (i := 163) rfl) rfl)
theorem lk_L_76 : Cond.methodLink R_law 76 me_A_orphanAt.1 ∈ gw := (gw_t3 (List.mem_of_getElem? (i := 220) rfl) rfl)
theorem lk_L_79 : Cond.methodLink R_law 79 me_M_orphanAt.1 ∈ gw := (gw_t5 (List.mem_of_getElem? (i := 181) rfl) rfl)
theorem lk_L_80 : Cond.methodLink R_law 80 me_A_before.1 ∈ gw := (gw_t3 (List.mem_of_getElem? (i := 228) rfl) rfl)
theorem lk_L_83 : Cond.methodLink R_law 83 me_M_before.1 ∈ gw := (gw_t5 (List.mem_of_getElem? (i := 185) rfl) rfl)
theorem lk_L_84 : Cond.methodLink R_law 84 me_A_beforeAt.1 ∈ gw := (gw_t4 (List.mem_of_getElem? (i := 23) rfl) rfl)
theorem lk_L_87 : Cond.methodLink R_law 87 me_M_beforeAt.1 ∈ gw := (gw_t5 (List.mem_of_getElem? (i := 209) rfl) rfl)
theorem lk_L_88 : Cond.methodLink R_law 88 me_A_ways.1 ∈ gw := (gw_t4 (List.mem_of_getElem? (i := 32) rfl) rfl)
theorem lk_L_92 : Cond.methodLink R_law 92 me_M_ways.1 ∈ gw := (gw_t5 (List.mem_of_getElem? (i := 213) rfl) rfl)
/-- what a step of the law asks of the two -/
def lSt (l : Launch) (v1 v2 : gs_V) (n : Nat) (σ1 σ2 : gs_S) (Post : gs_S → gs_S → Prop) : Prop := ∀ x y : Int32, Post σ1 σ2 ∧ lOi l v1 v2 n me_A_load me_M_load [.int x] σ1 σ2 Post ∧ lOi l v1 v2 n me_A_rule me_M_rule [] σ1 σ2 Post ∧ lOi l v1 v2 n me_A_next me_M_next [.int x] σ1 σ2 Post ∧ lOi l v1 v2 n me_A_ring me_M_ring [.int x] σ1 σ2 Post ∧ lOi l v1 v2 n me_A_set me_M_set [.int x, .int y] σ1 σ2 Post ∧ lOi l v1 v2 n me_A_get me_M_get [.int x] σ1 σ2 Post ∧ lOi l v1 v2 n me_A_step me_M_step [.int x] σ1 σ2 Post ∧ lOi l v1 v2 n me_A_population me_M_population [.int x] σ1 σ2 Post ∧ lOi l v1 v2 n me_A_surjective me_M_surjective [] σ1 σ2 Post ∧ lOi l v1 v2 n me_A_injective me_M_injective [] σ1 σ2 Post ∧ lOi l v1 v2 n me_A_inverse me_M_inverse [.int x] σ1 σ2 Post ∧ lOi l v1 v2 n me_A_undo me_M_undo [.int x] σ1 σ2 Post ∧ lOi l v1 v2 n me_A_conserved me_M_conserved [] σ1 σ2 Post ∧ lOi l v1 v2 n me_A_weight me_M_weight [.int x, .int y] σ1 σ2 Post ∧ lOi l v1 v2 n me_A_orphan me_M_orphan [] σ1 σ2 Post ∧ lOi l v1 v2 n me_A_orphanAt me_M_orphanAt [.int x] σ1 σ2 Post ∧ lOi l v1 v2 n me_A_before me_M_before [] σ1 σ2 Post ∧ lOi l v1 v2 n me_A_beforeAt me_M_beforeAt [.int x] σ1 σ2 Post ∧ lOl l v1 v2 n me_A_ways me_M_ways [] σ1 σ2 Post
section LL
variable {l : Launch} {v1 v2 : gs_V} {b L : Nat} {xs : Nat → Int32} {n : Nat}
set_option maxRecDepth 20000 in
set_option maxHeartbeats 1000000 in
theorem c_L_0 {i : Nat} {σ1 σ2 : gs_S} {Post : gs_S → gs_S → Prop} (hn : n ≤ 2000) (hi : 3 * i + 3 ≤ L) (hL : L < 2 ^ 30) (h : ∀ x y : Int32, lOi l v1 v2 n me_A_load me_M_load [.int x] σ1 σ2 Post) (k : ∀ σ1' σ2', Post σ1' σ2' → lG l v1 v2 b L xs 512 [(0, .ref b), (1, .ref (v1.2.2 0)), (2, .ref (v2.2.2 0)), (3, .int (nI (3 * i)))] [] σ1' σ2') : lG l v1 v2 b L xs 124 [(0, .ref b), (1, .ref (v1.2.2 0)), (2, .ref (v2.2.2 0)), (3, .int (nI (3 * i)))] [] σ1 σ2 := by
  have e1 : nI (3 * i) + 1 = nI (3 * i + 1) := nI_1 _
  have e2 : nI (3 * i) + 2 = nI (3 * i + 2) := nI_add (3 * i) 2
  have c1 : (nI (3 * i + 1)).toNatClampNeg = 3 * i + 1 := nI_clamp (by omega)
  have c2 : (nI (3 * i + 2)).toNatClampNeg = 3 * i + 2 := nI_clamp (by omega)
  have h := h (xs (3 * i + 1)) (xs (3 * i + 2))
  refine l_aload_n d_L_124 1 rfl rfl ?_
  refine l_aload_n d_L_125 0 rfl rfl ?_
  refine l_iload_n d_L_126 3 rfl rfl ?_
  refine l_iconst d_L_127 (x := 1) (by decide) ?_
  refine l_iadd d_L_128 ?_
  rw [e1]
  refine l_sld d_L_129 (vp_in_nI (by omega) (by omega)) ?_
  rw [c1]
  refine l_callCi (av := [.int (xs (3 * i + 1))]) (rest := []) d_L_130 Y_A_load lk_L_13 rfl rfl I_A_load rfl hn (Nat.le_of_ble_eq_true rfl) rfl h (fun r1 σ1 h => ?_)
  refine l_aload_n d_L_133 2 rfl rfl ?_
  refine l_aload_n d_L_134 0 rfl rfl ?_
  refine l_iload_n d_L_135 3 rfl rfl ?_
  refine l_iconst d_L_136 (x := 1) (by decide) ?_
  refine l_iadd d_L_137 ?_
  rw [e1]
  refine l_sld d_L_138 (vp_in_nI (by omega) (by omega)) ?_
  rw [c1]
  refine l_callMi (av := [.int (xs (3 * i + 1))]) (rest := [.int r1]) d_L_139 Y_M_load lk_L_17 rfl rfl I_M_load rfl hn (Nat.le_of_ble_eq_true rfl) rfl h (fun r2 σ2 h => ?_)
  exact l_icmp_eq (tgt := 512) d_L_142 rfl h.1 (k _ _ h.2)
set_option maxRecDepth 20000 in
set_option maxHeartbeats 1000000 in
theorem c_L_1 {i : Nat} {σ1 σ2 : gs_S} {Post : gs_S → gs_S → Prop} (hn : n ≤ 2000) (hi : 3 * i + 3 ≤ L) (hL : L < 2 ^ 30) (h : ∀ x y : Int32, lOi l v1 v2 n me_A_rule me_M_rule [] σ1 σ2 Post) (k : ∀ σ1' σ2', Post σ1' σ2' → lG l v1 v2 b L xs 512 [(0, .ref b), (1, .ref (v1.2.2 0)), (2, .ref (v2.2.2 0)), (3, .int (nI (3 * i)))] [] σ1' σ2') : lG l v1 v2 b L xs 147 [(0, .ref b), (1, .ref (v1.2.2 0)), (2, .ref (v2.2.2 0)), (3, .int (nI (3 * i)))] [] σ1 σ2 := by
  have e1 : nI (3 * i) + 1 = nI (3 * i + 1) := nI_1 _
  have e2 : nI (3 * i) + 2 = nI (3 * i + 2) := nI_add (3 * i) 2
  have c1 : (nI (3 * i + 1)).toNatClampNeg = 3 * i + 1 := nI_clamp (by omega)
  have c2 : (nI (3 * i + 2)).toNatClampNeg = 3 * i + 2 := nI_clamp (by omega)
  have h := h (xs (3 * i + 1)) (xs (3 * i + 2))
  refine l_aload_n d_L_147 1 rfl rfl ?_
  refine l_callCi (av := []) (rest := []) d_L_148 Y_A_rule lk_L_18 rfl rfl I_A_rule rfl hn (Nat.le_of_ble_eq_true rfl) rfl h (fun r1 σ1 h => ?_)
  refine l_aload_n d_L_151 2 rfl rfl ?_
  refine l_callMi (av := []) (rest := [.int r1]) d_L_152 Y_M_rule lk_L_22 rfl rfl I_M_rule rfl hn (Nat.le_of_ble_eq_true rfl) rfl h (fun r2 σ2 h => ?_)
  exact l_icmp_eq (tgt := 512) d_L_155 rfl h.1 (k _ _ h.2)
set_option maxRecDepth 20000 in
set_option maxHeartbeats 1000000 in
theorem c_L_2 {i : Nat} {σ1 σ2 : gs_S} {Post : gs_S → gs_S → Prop} (hn : n ≤ 2000) (hi : 3 * i + 3 ≤ L) (hL : L < 2 ^ 30) (h : ∀ x y : Int32, lOi l v1 v2 n me_A_next me_M_next [.int x] σ1 σ2 Post) (k : ∀ σ1' σ2', Post σ1' σ2' → lG l v1 v2 b L xs 512 [(0, .ref b), (1, .ref (v1.2.2 0)), (2, .ref (v2.2.2 0)), (3, .int (nI (3 * i)))] [] σ1' σ2') : lG l v1 v2 b L xs 160 [(0, .ref b), (1, .ref (v1.2.2 0)), (2, .ref (v2.2.2 0)), (3, .int (nI (3 * i)))] [] σ1 σ2 := by
  have e1 : nI (3 * i) + 1 = nI (3 * i + 1) := nI_1 _
  have e2 : nI (3 * i) + 2 = nI (3 * i + 2) := nI_add (3 * i) 2
  have c1 : (nI (3 * i + 1)).toNatClampNeg = 3 * i + 1 := nI_clamp (by omega)
  have c2 : (nI (3 * i + 2)).toNatClampNeg = 3 * i + 2 := nI_clamp (by omega)
  have h := h (xs (3 * i + 1)) (xs (3 * i + 2))
  refine l_aload_n d_L_160 1 rfl rfl ?_
  refine l_aload_n d_L_161 0 rfl rfl ?_
  refine l_iload_n d_L_162 3 rfl rfl ?_
  refine l_iconst d_L_163 (x := 1) (by decide) ?_
  refine l_iadd d_L_164 ?_
  rw [e1]
  refine l_sld d_L_165 (vp_in_nI (by omega) (by omega)) ?_
  rw [c1]
  refine l_callCi (av := [.int (xs (3 * i + 1))]) (rest := []) d_L_166 Y_A_next lk_L_23 rfl rfl I_A_next rfl hn (Nat.le_of_ble_eq_true rfl) rfl h (fun r1 σ1 h => ?_)
  refine l_aload_n d_L_169 2 rfl rfl ?_
  refine l_aload_n d_L_170 0 rfl rfl ?_
  refine l_iload_n d_L_171 3 rfl rfl ?_
  refine l_iconst d_L_172 (x := 1) (by decide) ?_
  refine l_iadd d_L_173 ?_
  rw [e1]
  refine l_sld d_L_174 (vp_in_nI (by omega) (by omega)) ?_
  rw [c1]
  refine l_callMi (av := [.int (xs (3 * i + 1))]) (rest := [.int r1]) d_L_175 Y_M_next lk_L_26 rfl rfl I_M_next rfl hn (Nat.le_of_ble_eq_true rfl) rfl h (fun r2 σ2 h => ?_)
  exact l_icmp_eq (tgt := 512) d_L_178 rfl h.1 (k _ _ h.2)
set_option maxRecDepth 20000 in
set_option maxHeartbeats 1000000 in
theorem c_L_3 {i : Nat} {σ1 σ2 : gs_S} {Post : gs_S → gs_S → Prop} (hn : n ≤ 2000) (hi : 3 * i + 3 ≤ L) (hL : L < 2 ^ 30) (h : ∀ x y : Int32, lOi l v1 v2 n me_A_ring me_M_ring [.int x] σ1 σ2 Post) (k : ∀ σ1' σ2', Post σ1' σ2' → lG l v1 v2 b L xs 512 [(0, .ref b), (1, .ref (v1.2.2 0)), (2, .ref (v2.2.2 0)), (3, .int (nI (3 * i)))] [] σ1' σ2') : lG l v1 v2 b L xs 183 [(0, .ref b), (1, .ref (v1.2.2 0)), (2, .ref (v2.2.2 0)), (3, .int (nI (3 * i)))] [] σ1 σ2 := by
  have e1 : nI (3 * i) + 1 = nI (3 * i + 1) := nI_1 _
  have e2 : nI (3 * i) + 2 = nI (3 * i + 2) := nI_add (3 * i) 2
  have c1 : (nI (3 * i + 1)).toNatClampNeg = 3 * i + 1 := nI_clamp (by omega)
  have c2 : (nI (3 * i + 2)).toNatClampNeg = 3 * i + 2 := nI_clamp (by omega)
  have h := h (xs (3 * i + 1)) (xs (3 * i + 2))
  refine l_aload_n d_L_183 1 rfl rfl ?_
  refine l_aload_n d_L_184 0 rfl rfl ?_
  refine l_iload_n d_L_185 3 rfl rfl ?_
  refine l_iconst d_L_186 (x := 1) (by decide) ?_
  refine l_iadd d_L_187 ?_
  rw [e1]
  refine l_sld d_L_188 (vp_in_nI (by omega) (by omega)) ?_
  rw [c1]
  refine l_callCi (av := [.int (xs (3 * i + 1))]) (rest := []) d_L_189 Y_A_ring lk_L_27 rfl rfl I_A_ring rfl hn (Nat.le_of_ble_eq_true rfl) rfl h (fun r1 σ1 h => ?_)
  refine l_aload_n d_L_192 2 rfl rfl ?_
  refine l_aload_n d_L_193 0 rfl rfl ?_
  refine l_iload_n d_L_194 3 rfl rfl ?_
  refine l_iconst d_L_195 (x := 1) (by decide) ?_
  refine l_iadd d_L_196 ?_
  rw [e1]
  refine l_sld d_L_197 (vp_in_nI (by omega) (by omega)) ?_
  rw [c1]
  refine l_callMi (av := [.int (xs (3 * i + 1))]) (rest := [.int r1]) d_L_198 Y_M_ring lk_L_30 rfl rfl I_M_ring rfl hn (Nat.le_of_ble_eq_true rfl) rfl h (fun r2 σ2 h => ?_)
  exact l_icmp_eq (tgt := 512) d_L_201 rfl h.1 (k _ _ h.2)
set_option maxRecDepth 20000 in
set_option maxHeartbeats 1000000 in
theorem c_L_4 {i : Nat} {σ1 σ2 : gs_S} {Post : gs_S → gs_S → Prop} (hn : n ≤ 2000) (hi : 3 * i + 3 ≤ L) (hL : L < 2 ^ 30) (h : ∀ x y : Int32, lOi l v1 v2 n me_A_set me_M_set [.int x, .int y] σ1 σ2 Post) (k : ∀ σ1' σ2', Post σ1' σ2' → lG l v1 v2 b L xs 512 [(0, .ref b), (1, .ref (v1.2.2 0)), (2, .ref (v2.2.2 0)), (3, .int (nI (3 * i)))] [] σ1' σ2') : lG l v1 v2 b L xs 206 [(0, .ref b), (1, .ref (v1.2.2 0)), (2, .ref (v2.2.2 0)), (3, .int (nI (3 * i)))] [] σ1 σ2 := by
  have e1 : nI (3 * i) + 1 = nI (3 * i + 1) := nI_1 _
  have e2 : nI (3 * i) + 2 = nI (3 * i + 2) := nI_add (3 * i) 2
  have c1 : (nI (3 * i + 1)).toNatClampNeg = 3 * i + 1 := nI_clamp (by omega)
  have c2 : (nI (3 * i + 2)).toNatClampNeg = 3 * i + 2 := nI_clamp (by omega)
  have h := h (xs (3 * i + 1)) (xs (3 * i + 2))
  refine l_aload_n d_L_206 1 rfl rfl ?_
  refine l_aload_n d_L_207 0 rfl rfl ?_
  refine l_iload_n d_L_208 3 rfl rfl ?_
  refine l_iconst d_L_209 (x := 1) (by decide) ?_
  refine l_iadd d_L_210 ?_
  rw [e1]
  refine l_sld d_L_211 (vp_in_nI (by omega) (by omega)) ?_
  rw [c1]
  refine l_aload_n d_L_212 0 rfl rfl ?_
  refine l_iload_n d_L_213 3 rfl rfl ?_
  refine l_iconst d_L_214 (x := 2) (by decide) ?_
  refine l_iadd d_L_215 ?_
  rw [e2]
  refine l_sld d_L_216 (vp_in_nI (by omega) (by omega)) ?_
  rw [c2]
  refine l_callCi (av := [.int (xs (3 * i + 1)), .int (xs (3 * i + 2))]) (rest := []) d_L_217 Y_A_set lk_L_31 rfl rfl I_A_set rfl hn (Nat.le_of_ble_eq_true rfl) rfl h (fun r1 σ1 h => ?_)
  refine l_aload_n d_L_220 2 rfl rfl ?_
  refine l_aload_n d_L_221 0 rfl rfl ?_
  refine l_iload_n d_L_222 3 rfl rfl ?_
  refine l_iconst d_L_223 (x := 1) (by decide) ?_
  refine l_iadd d_L_224 ?_
  rw [e1]
  refine l_sld d_L_225 (vp_in_nI (by omega) (by omega)) ?_
  rw [c1]
  refine l_aload_n d_L_226 0 rfl rfl ?_
  refine l_iload_n d_L_227 3 rfl rfl ?_
  refine l_iconst d_L_228 (x := 2) (by decide) ?_
  refine l_iadd d_L_229 ?_
  rw [e2]
  refine l_sld d_L_230 (vp_in_nI (by omega) (by omega)) ?_
  rw [c2]
  refine l_callMi (av := [.int (xs (3 * i + 1)), .int (xs (3 * i + 2))]) (rest := [.int r1]) d_L_231 Y_M_set lk_L_35 rfl rfl I_M_set rfl hn (Nat.le_of_ble_eq_true rfl) rfl h (fun r2 σ2 h => ?_)
  exact l_icmp_eq (tgt := 512) d_L_234 rfl h.1 (k _ _ h.2)
set_option maxRecDepth 20000 in
set_option maxHeartbeats 1000000 in
theorem c_L_5 {i : Nat} {σ1 σ2 : gs_S} {Post : gs_S → gs_S → Prop} (hn : n ≤ 2000) (hi : 3 * i + 3 ≤ L) (hL : L < 2 ^ 30) (h : ∀ x y : Int32, lOi l v1 v2 n me_A_get me_M_get [.int x] σ1 σ2 Post) (k : ∀ σ1' σ2', Post σ1' σ2' → lG l v1 v2 b L xs 512 [(0, .ref b), (1, .ref (v1.2.2 0)), (2, .ref (v2.2.2 0)), (3, .int (nI (3 * i)))] [] σ1' σ2') : lG l v1 v2 b L xs 239 [(0, .ref b), (1, .ref (v1.2.2 0)), (2, .ref (v2.2.2 0)), (3, .int (nI (3 * i)))] [] σ1 σ2 := by
  have e1 : nI (3 * i) + 1 = nI (3 * i + 1) := nI_1 _
  have e2 : nI (3 * i) + 2 = nI (3 * i + 2) := nI_add (3 * i) 2
  have c1 : (nI (3 * i + 1)).toNatClampNeg = 3 * i + 1 := nI_clamp (by omega)
  have c2 : (nI (3 * i + 2)).toNatClampNeg = 3 * i + 2 := nI_clamp (by omega)
  have h := h (xs (3 * i + 1)) (xs (3 * i + 2))
  refine l_aload_n d_L_239 1 rfl rfl ?_
  refine l_aload_n d_L_240 0 rfl rfl ?_
  refine l_iload_n d_L_241 3 rfl rfl ?_
  refine l_iconst d_L_242 (x := 1) (by decide) ?_
  refine l_iadd d_L_243 ?_
  rw [e1]
  refine l_sld d_L_244 (vp_in_nI (by omega) (by omega)) ?_
  rw [c1]
  refine l_callCi (av := [.int (xs (3 * i + 1))]) (rest := []) d_L_245 Y_A_get lk_L_36 rfl rfl I_A_get rfl hn (Nat.le_of_ble_eq_true rfl) rfl h (fun r1 σ1 h => ?_)
  refine l_aload_n d_L_248 2 rfl rfl ?_
  refine l_aload_n d_L_249 0 rfl rfl ?_
  refine l_iload_n d_L_250 3 rfl rfl ?_
  refine l_iconst d_L_251 (x := 1) (by decide) ?_
  refine l_iadd d_L_252 ?_
  rw [e1]
  refine l_sld d_L_253 (vp_in_nI (by omega) (by omega)) ?_
  rw [c1]
  refine l_callMi (av := [.int (xs (3 * i + 1))]) (rest := [.int r1]) d_L_254 Y_M_get lk_L_39 rfl rfl I_M_get rfl hn (Nat.le_of_ble_eq_true rfl) rfl h (fun r2 σ2 h => ?_)
  exact l_icmp_eq (tgt := 512) d_L_257 rfl h.1 (k _ _ h.2)
set_option maxRecDepth 20000 in
set_option maxHeartbeats 1000000 in
theorem c_L_6 {i : Nat} {σ1 σ2 : gs_S} {Post : gs_S → gs_S → Prop} (hn : n ≤ 2000) (hi : 3 * i + 3 ≤ L) (hL : L < 2 ^ 30) (h : ∀ x y : Int32, lOi l v1 v2 n me_A_step me_M_step [.int x] σ1 σ2 Post) (k : ∀ σ1' σ2', Post σ1' σ2' → lG l v1 v2 b L xs 512 [(0, .ref b), (1, .ref (v1.2.2 0)), (2, .ref (v2.2.2 0)), (3, .int (nI (3 * i)))] [] σ1' σ2') : lG l v1 v2 b L xs 262 [(0, .ref b), (1, .ref (v1.2.2 0)), (2, .ref (v2.2.2 0)), (3, .int (nI (3 * i)))] [] σ1 σ2 := by
  have e1 : nI (3 * i) + 1 = nI (3 * i + 1) := nI_1 _
  have e2 : nI (3 * i) + 2 = nI (3 * i + 2) := nI_add (3 * i) 2
  have c1 : (nI (3 * i + 1)).toNatClampNeg = 3 * i + 1 := nI_clamp (by omega)
  have c2 : (nI (3 * i + 2)).toNatClampNeg = 3 * i + 2 := nI_clamp (by omega)
  have h := h (xs (3 * i + 1)) (xs (3 * i + 2))
  refine l_aload_n d_L_262 1 rfl rfl ?_
  refine l_aload_n d_L_263 0 rfl rfl ?_
  refine l_iload_n d_L_264 3 rfl rfl ?_
  refine l_iconst d_L_265 (x := 1) (by decide) ?_
  refine l_iadd d_L_266 ?_
  rw [e1]
  refine l_sld d_L_267 (vp_in_nI (by omega) (by omega)) ?_
  rw [c1]
  refine l_callCi (av := [.int (xs (3 * i + 1))]) (rest := []) d_L_268 Y_A_step lk_L_40 rfl rfl I_A_step rfl hn (Nat.le_of_ble_eq_true rfl) rfl h (fun r1 σ1 h => ?_)
  refine l_aload_n d_L_271 2 rfl rfl ?_
  refine l_aload_n d_L_272 0 rfl rfl ?_
  refine l_iload_n d_L_273 3 rfl rfl ?_
  refine l_iconst d_L_274 (x := 1) (by decide) ?_
  refine l_iadd d_L_275 ?_
  rw [e1]
  refine l_sld d_L_276 (vp_in_nI (by omega) (by omega)) ?_
  rw [c1]
  refine l_callMi (av := [.int (xs (3 * i + 1))]) (rest := [.int r1]) d_L_277 Y_M_step lk_L_43 rfl rfl I_M_step rfl hn (Nat.le_of_ble_eq_true rfl) rfl h (fun r2 σ2 h => ?_)
  exact l_icmp_eq (tgt := 512) d_L_280 rfl h.1 (k _ _ h.2)
set_option maxRecDepth 20000 in
set_option maxHeartbeats 1000000 in
theorem c_L_7 {i : Nat} {σ1 σ2 : gs_S} {Post : gs_S → gs_S → Prop} (hn : n ≤ 2000) (hi : 3 * i + 3 ≤ L) (hL : L < 2 ^ 30) (h : ∀ x y : Int32, lOi l v1 v2 n me_A_population me_M_population [.int x] σ1 σ2 Post) (k : ∀ σ1' σ2', Post σ1' σ2' → lG l v1 v2 b L xs 512 [(0, .ref b), (1, .ref (v1.2.2 0)), (2, .ref (v2.2.2 0)), (3, .int (nI (3 * i)))] [] σ1' σ2') : lG l v1 v2 b L xs 285 [(0, .ref b), (1, .ref (v1.2.2 0)), (2, .ref (v2.2.2 0)), (3, .int (nI (3 * i)))] [] σ1 σ2 := by
  have e1 : nI (3 * i) + 1 = nI (3 * i + 1) := nI_1 _
  have e2 : nI (3 * i) + 2 = nI (3 * i + 2) := nI_add (3 * i) 2
  have c1 : (nI (3 * i + 1)).toNatClampNeg = 3 * i + 1 := nI_clamp (by omega)
  have c2 : (nI (3 * i + 2)).toNatClampNeg = 3 * i + 2 := nI_clamp (by omega)
  have h := h (xs (3 * i + 1)) (xs (3 * i + 2))
  refine l_aload_n d_L_285 1 rfl rfl ?_
  refine l_aload_n d_L_286 0 rfl rfl ?_
  refine l_iload_n d_L_287 3 rfl rfl ?_
  refine l_iconst d_L_288 (x := 1) (by decide) ?_
  refine l_iadd d_L_289 ?_
  rw [e1]
  refine l_sld d_L_290 (vp_in_nI (by omega) (by omega)) ?_
  rw [c1]
  refine l_callCi (av := [.int (xs (3 * i + 1))]) (rest := []) d_L_291 Y_A_population lk_L_44 rfl rfl I_A_population rfl hn (Nat.le_of_ble_eq_true rfl) rfl h (fun r1 σ1 h => ?_)
  refine l_aload_n d_L_294 2 rfl rfl ?_
  refine l_aload_n d_L_295 0 rfl rfl ?_
  refine l_iload_n d_L_296 3 rfl rfl ?_
  refine l_iconst d_L_297 (x := 1) (by decide) ?_
  refine l_iadd d_L_298 ?_
  rw [e1]
  refine l_sld d_L_299 (vp_in_nI (by omega) (by omega)) ?_
  rw [c1]
  refine l_callMi (av := [.int (xs (3 * i + 1))]) (rest := [.int r1]) d_L_300 Y_M_population lk_L_47 rfl rfl I_M_population rfl hn (Nat.le_of_ble_eq_true rfl) rfl h (fun r2 σ2 h => ?_)
  exact l_icmp_eq (tgt := 512) d_L_303 rfl h.1 (k _ _ h.2)
set_option maxRecDepth 20000 in
set_option maxHeartbeats 1000000 in
theorem c_L_8 {i : Nat} {σ1 σ2 : gs_S} {Post : gs_S → gs_S → Prop} (hn : n ≤ 2000) (hi : 3 * i + 3 ≤ L) (hL : L < 2 ^ 30) (h : ∀ x y : Int32, lOi l v1 v2 n me_A_surjective me_M_surjective [] σ1 σ2 Post) (k : ∀ σ1' σ2', Post σ1' σ2' → lG l v1 v2 b L xs 512 [(0, .ref b), (1, .ref (v1.2.2 0)), (2, .ref (v2.2.2 0)), (3, .int (nI (3 * i)))] [] σ1' σ2') : lG l v1 v2 b L xs 308 [(0, .ref b), (1, .ref (v1.2.2 0)), (2, .ref (v2.2.2 0)), (3, .int (nI (3 * i)))] [] σ1 σ2 := by
  have e1 : nI (3 * i) + 1 = nI (3 * i + 1) := nI_1 _
  have e2 : nI (3 * i) + 2 = nI (3 * i + 2) := nI_add (3 * i) 2
  have c1 : (nI (3 * i + 1)).toNatClampNeg = 3 * i + 1 := nI_clamp (by omega)
  have c2 : (nI (3 * i + 2)).toNatClampNeg = 3 * i + 2 := nI_clamp (by omega)
  have h := h (xs (3 * i + 1)) (xs (3 * i + 2))
  refine l_aload_n d_L_308 1 rfl rfl ?_
  refine l_callCi (av := []) (rest := []) d_L_309 Y_A_surjective lk_L_48 rfl rfl I_A_surjective rfl hn (Nat.le_of_ble_eq_true rfl) rfl h (fun r1 σ1 h => ?_)
  refine l_aload_n d_L_312 2 rfl rfl ?_
  refine l_callMi (av := []) (rest := [.int r1]) d_L_313 Y_M_surjective lk_L_51 rfl rfl I_M_surjective rfl hn (Nat.le_of_ble_eq_true rfl) rfl h (fun r2 σ2 h => ?_)
  exact l_icmp_eq (tgt := 512) d_L_316 rfl h.1 (k _ _ h.2)
set_option maxRecDepth 20000 in
set_option maxHeartbeats 1000000 in
theorem c_L_9 {i : Nat} {σ1 σ2 : gs_S} {Post : gs_S → gs_S → Prop} (hn : n ≤ 2000) (hi : 3 * i + 3 ≤ L) (hL : L < 2 ^ 30) (h : ∀ x y : Int32, lOi l v1 v2 n me_A_injective me_M_injective [] σ1 σ2 Post) (k : ∀ σ1' σ2', Post σ1' σ2' → lG l v1 v2 b L xs 512 [(0, .ref b), (1, .ref (v1.2.2 0)), (2, .ref (v2.2.2 0)), (3, .int (nI (3 * i)))] [] σ1' σ2') : lG l v1 v2 b L xs 321 [(0, .ref b), (1, .ref (v1.2.2 0)), (2, .ref (v2.2.2 0)), (3, .int (nI (3 * i)))] [] σ1 σ2 := by
  have e1 : nI (3 * i) + 1 = nI (3 * i + 1) := nI_1 _
  have e2 : nI (3 * i) + 2 = nI (3 * i + 2) := nI_add (3 * i) 2
  have c1 : (nI (3 * i + 1)).toNatClampNeg = 3 * i + 1 := nI_clamp (by omega)
  have c2 : (nI (3 * i + 2)).toNatClampNeg = 3 * i + 2 := nI_clamp (by omega)
  have h := h (xs (3 * i + 1)) (xs (3 * i + 2))
  refine l_aload_n d_L_321 1 rfl rfl ?_
  refine l_callCi (av := []) (rest := []) d_L_322 Y_A_injective lk_L_52 rfl rfl I_A_injective rfl hn (Nat.le_of_ble_eq_true rfl) rfl h (fun r1 σ1 h => ?_)
  refine l_aload_n d_L_325 2 rfl rfl ?_
  refine l_callMi (av := []) (rest := [.int r1]) d_L_326 Y_M_injective lk_L_55 rfl rfl I_M_injective rfl hn (Nat.le_of_ble_eq_true rfl) rfl h (fun r2 σ2 h => ?_)
  exact l_icmp_eq (tgt := 512) d_L_329 rfl h.1 (k _ _ h.2)
set_option maxRecDepth 20000 in
set_option maxHeartbeats 1000000 in
theorem c_L_10 {i : Nat} {σ1 σ2 : gs_S} {Post : gs_S → gs_S → Prop} (hn : n ≤ 2000) (hi : 3 * i + 3 ≤ L) (hL : L < 2 ^ 30) (h : ∀ x y : Int32, lOi l v1 v2 n me_A_inverse me_M_inverse [.int x] σ1 σ2 Post) (k : ∀ σ1' σ2', Post σ1' σ2' → lG l v1 v2 b L xs 512 [(0, .ref b), (1, .ref (v1.2.2 0)), (2, .ref (v2.2.2 0)), (3, .int (nI (3 * i)))] [] σ1' σ2') : lG l v1 v2 b L xs 334 [(0, .ref b), (1, .ref (v1.2.2 0)), (2, .ref (v2.2.2 0)), (3, .int (nI (3 * i)))] [] σ1 σ2 := by
  have e1 : nI (3 * i) + 1 = nI (3 * i + 1) := nI_1 _
  have e2 : nI (3 * i) + 2 = nI (3 * i + 2) := nI_add (3 * i) 2
  have c1 : (nI (3 * i + 1)).toNatClampNeg = 3 * i + 1 := nI_clamp (by omega)
  have c2 : (nI (3 * i + 2)).toNatClampNeg = 3 * i + 2 := nI_clamp (by omega)
  have h := h (xs (3 * i + 1)) (xs (3 * i + 2))
  refine l_aload_n d_L_334 1 rfl rfl ?_
  refine l_aload_n d_L_335 0 rfl rfl ?_
  refine l_iload_n d_L_336 3 rfl rfl ?_
  refine l_iconst d_L_337 (x := 1) (by decide) ?_
  refine l_iadd d_L_338 ?_
  rw [e1]
  refine l_sld d_L_339 (vp_in_nI (by omega) (by omega)) ?_
  rw [c1]
  refine l_callCi (av := [.int (xs (3 * i + 1))]) (rest := []) d_L_340 Y_A_inverse lk_L_56 rfl rfl I_A_inverse rfl hn (Nat.le_of_ble_eq_true rfl) rfl h (fun r1 σ1 h => ?_)
  refine l_aload_n d_L_343 2 rfl rfl ?_
  refine l_aload_n d_L_344 0 rfl rfl ?_
  refine l_iload_n d_L_345 3 rfl rfl ?_
  refine l_iconst d_L_346 (x := 1) (by decide) ?_
  refine l_iadd d_L_347 ?_
  rw [e1]
  refine l_sld d_L_348 (vp_in_nI (by omega) (by omega)) ?_
  rw [c1]
  refine l_callMi (av := [.int (xs (3 * i + 1))]) (rest := [.int r1]) d_L_349 Y_M_inverse lk_L_59 rfl rfl I_M_inverse rfl hn (Nat.le_of_ble_eq_true rfl) rfl h (fun r2 σ2 h => ?_)
  exact l_icmp_eq (tgt := 512) d_L_352 rfl h.1 (k _ _ h.2)
set_option maxRecDepth 20000 in
set_option maxHeartbeats 1000000 in
theorem c_L_11 {i : Nat} {σ1 σ2 : gs_S} {Post : gs_S → gs_S → Prop} (hn : n ≤ 2000) (hi : 3 * i + 3 ≤ L) (hL : L < 2 ^ 30) (h : ∀ x y : Int32, lOi l v1 v2 n me_A_undo me_M_undo [.int x] σ1 σ2 Post) (k : ∀ σ1' σ2', Post σ1' σ2' → lG l v1 v2 b L xs 512 [(0, .ref b), (1, .ref (v1.2.2 0)), (2, .ref (v2.2.2 0)), (3, .int (nI (3 * i)))] [] σ1' σ2') : lG l v1 v2 b L xs 357 [(0, .ref b), (1, .ref (v1.2.2 0)), (2, .ref (v2.2.2 0)), (3, .int (nI (3 * i)))] [] σ1 σ2 := by
  have e1 : nI (3 * i) + 1 = nI (3 * i + 1) := nI_1 _
  have e2 : nI (3 * i) + 2 = nI (3 * i + 2) := nI_add (3 * i) 2
  have c1 : (nI (3 * i + 1)).toNatClampNeg = 3 * i + 1 := nI_clamp (by omega)
  have c2 : (nI (3 * i + 2)).toNatClampNeg = 3 * i + 2 := nI_clamp (by omega)
  have h := h (xs (3 * i + 1)) (xs (3 * i + 2))
  refine l_aload_n d_L_357 1 rfl rfl ?_
  refine l_aload_n d_L_358 0 rfl rfl ?_
  refine l_iload_n d_L_359 3 rfl rfl ?_
  refine l_iconst d_L_360 (x := 1) (by decide) ?_
  refine l_iadd d_L_361 ?_
  rw [e1]
  refine l_sld d_L_362 (vp_in_nI (by omega) (by omega)) ?_
  rw [c1]
  refine l_callCi (av := [.int (xs (3 * i + 1))]) (rest := []) d_L_363 Y_A_undo lk_L_60 rfl rfl I_A_undo rfl hn (Nat.le_of_ble_eq_true rfl) rfl h (fun r1 σ1 h => ?_)
  refine l_aload_n d_L_366 2 rfl rfl ?_
  refine l_aload_n d_L_367 0 rfl rfl ?_
  refine l_iload_n d_L_368 3 rfl rfl ?_
  refine l_iconst d_L_369 (x := 1) (by decide) ?_
  refine l_iadd d_L_370 ?_
  rw [e1]
  refine l_sld d_L_371 (vp_in_nI (by omega) (by omega)) ?_
  rw [c1]
  refine l_callMi (av := [.int (xs (3 * i + 1))]) (rest := [.int r1]) d_L_372 Y_M_undo lk_L_63 rfl rfl I_M_undo rfl hn (Nat.le_of_ble_eq_true rfl) rfl h (fun r2 σ2 h => ?_)
  exact l_icmp_eq (tgt := 512) d_L_375 rfl h.1 (k _ _ h.2)
set_option maxRecDepth 20000 in
set_option maxHeartbeats 1000000 in
theorem c_L_12 {i : Nat} {σ1 σ2 : gs_S} {Post : gs_S → gs_S → Prop} (hn : n ≤ 2000) (hi : 3 * i + 3 ≤ L) (hL : L < 2 ^ 30) (h : ∀ x y : Int32, lOi l v1 v2 n me_A_conserved me_M_conserved [] σ1 σ2 Post) (k : ∀ σ1' σ2', Post σ1' σ2' → lG l v1 v2 b L xs 512 [(0, .ref b), (1, .ref (v1.2.2 0)), (2, .ref (v2.2.2 0)), (3, .int (nI (3 * i)))] [] σ1' σ2') : lG l v1 v2 b L xs 380 [(0, .ref b), (1, .ref (v1.2.2 0)), (2, .ref (v2.2.2 0)), (3, .int (nI (3 * i)))] [] σ1 σ2 := by
  have e1 : nI (3 * i) + 1 = nI (3 * i + 1) := nI_1 _
  have e2 : nI (3 * i) + 2 = nI (3 * i + 2) := nI_add (3 * i) 2
  have c1 : (nI (3 * i + 1)).toNatClampNeg = 3 * i + 1 := nI_clamp (by omega)
  have c2 : (nI (3 * i + 2)).toNatClampNeg = 3 * i + 2 := nI_clamp (by omega)
  have h := h (xs (3 * i + 1)) (xs (3 * i + 2))
  refine l_aload_n d_L_380 1 rfl rfl ?_
  refine l_callCi (av := []) (rest := []) d_L_381 Y_A_conserved lk_L_64 rfl rfl I_A_conserved rfl hn (Nat.le_of_ble_eq_true rfl) rfl h (fun r1 σ1 h => ?_)
  refine l_aload_n d_L_384 2 rfl rfl ?_
  refine l_callMi (av := []) (rest := [.int r1]) d_L_385 Y_M_conserved lk_L_67 rfl rfl I_M_conserved rfl hn (Nat.le_of_ble_eq_true rfl) rfl h (fun r2 σ2 h => ?_)
  exact l_icmp_eq (tgt := 512) d_L_388 rfl h.1 (k _ _ h.2)
set_option maxRecDepth 20000 in
set_option maxHeartbeats 1000000 in
theorem c_L_13 {i : Nat} {σ1 σ2 : gs_S} {Post : gs_S → gs_S → Prop} (hn : n ≤ 2000) (hi : 3 * i + 3 ≤ L) (hL : L < 2 ^ 30) (h : ∀ x y : Int32, lOi l v1 v2 n me_A_weight me_M_weight [.int x, .int y] σ1 σ2 Post) (k : ∀ σ1' σ2', Post σ1' σ2' → lG l v1 v2 b L xs 512 [(0, .ref b), (1, .ref (v1.2.2 0)), (2, .ref (v2.2.2 0)), (3, .int (nI (3 * i)))] [] σ1' σ2') : lG l v1 v2 b L xs 393 [(0, .ref b), (1, .ref (v1.2.2 0)), (2, .ref (v2.2.2 0)), (3, .int (nI (3 * i)))] [] σ1 σ2 := by
  have e1 : nI (3 * i) + 1 = nI (3 * i + 1) := nI_1 _
  have e2 : nI (3 * i) + 2 = nI (3 * i + 2) := nI_add (3 * i) 2
  have c1 : (nI (3 * i + 1)).toNatClampNeg = 3 * i + 1 := nI_clamp (by omega)
  have c2 : (nI (3 * i + 2)).toNatClampNeg = 3 * i + 2 := nI_clamp (by omega)
  have h := h (xs (3 * i + 1)) (xs (3 * i + 2))
  refine l_aload_n d_L_393 1 rfl rfl ?_
  refine l_aload_n d_L_394 0 rfl rfl ?_
  refine l_iload_n d_L_395 3 rfl rfl ?_
  refine l_iconst d_L_396 (x := 1) (by decide) ?_
  refine l_iadd d_L_397 ?_
  rw [e1]
  refine l_sld d_L_398 (vp_in_nI (by omega) (by omega)) ?_
  rw [c1]
  refine l_aload_n d_L_399 0 rfl rfl ?_
  refine l_iload_n d_L_400 3 rfl rfl ?_
  refine l_iconst d_L_401 (x := 2) (by decide) ?_
  refine l_iadd d_L_402 ?_
  rw [e2]
  refine l_sld d_L_403 (vp_in_nI (by omega) (by omega)) ?_
  rw [c2]
  refine l_callCi (av := [.int (xs (3 * i + 1)), .int (xs (3 * i + 2))]) (rest := []) d_L_404 Y_A_weight lk_L_68 rfl rfl I_A_weight rfl hn (Nat.le_of_ble_eq_true rfl) rfl h (fun r1 σ1 h => ?_)
  refine l_aload_n d_L_407 2 rfl rfl ?_
  refine l_aload_n d_L_408 0 rfl rfl ?_
  refine l_iload_n d_L_409 3 rfl rfl ?_
  refine l_iconst d_L_410 (x := 1) (by decide) ?_
  refine l_iadd d_L_411 ?_
  rw [e1]
  refine l_sld d_L_412 (vp_in_nI (by omega) (by omega)) ?_
  rw [c1]
  refine l_aload_n d_L_413 0 rfl rfl ?_
  refine l_iload_n d_L_414 3 rfl rfl ?_
  refine l_iconst d_L_415 (x := 2) (by decide) ?_
  refine l_iadd d_L_416 ?_
  rw [e2]
  refine l_sld d_L_417 (vp_in_nI (by omega) (by omega)) ?_
  rw [c2]
  refine l_callMi (av := [.int (xs (3 * i + 1)), .int (xs (3 * i + 2))]) (rest := [.int r1]) d_L_418 Y_M_weight lk_L_71 rfl rfl I_M_weight rfl hn (Nat.le_of_ble_eq_true rfl) rfl h (fun r2 σ2 h => ?_)
  exact l_icmp_eq (tgt := 512) d_L_421 rfl h.1 (k _ _ h.2)
set_option maxRecDepth 20000 in
set_option maxHeartbeats 1000000 in
theorem c_L_14 {i : Nat} {σ1 σ2 : gs_S} {Post : gs_S → gs_S → Prop} (hn : n ≤ 2000) (hi : 3 * i + 3 ≤ L) (hL : L < 2 ^ 30) (h : ∀ x y : Int32, lOi l v1 v2 n me_A_orphan me_M_orphan [] σ1 σ2 Post) (k : ∀ σ1' σ2', Post σ1' σ2' → lG l v1 v2 b L xs 512 [(0, .ref b), (1, .ref (v1.2.2 0)), (2, .ref (v2.2.2 0)), (3, .int (nI (3 * i)))] [] σ1' σ2') : lG l v1 v2 b L xs 426 [(0, .ref b), (1, .ref (v1.2.2 0)), (2, .ref (v2.2.2 0)), (3, .int (nI (3 * i)))] [] σ1 σ2 := by
  have e1 : nI (3 * i) + 1 = nI (3 * i + 1) := nI_1 _
  have e2 : nI (3 * i) + 2 = nI (3 * i + 2) := nI_add (3 * i) 2
  have c1 : (nI (3 * i + 1)).toNatClampNeg = 3 * i + 1 := nI_clamp (by omega)
  have c2 : (nI (3 * i + 2)).toNatClampNeg = 3 * i + 2 := nI_clamp (by omega)
  have h := h (xs (3 * i + 1)) (xs (3 * i + 2))
  refine l_aload_n d_L_426 1 rfl rfl ?_
  refine l_callCi (av := []) (rest := []) d_L_427 Y_A_orphan lk_L_72 rfl rfl I_A_orphan rfl hn (Nat.le_of_ble_eq_true rfl) rfl h (fun r1 σ1 h => ?_)
  refine l_aload_n d_L_430 2 rfl rfl ?_
  refine l_callMi (av := []) (rest := [.int r1]) d_L_431 Y_M_orphan lk_L_75 rfl rfl I_M_orphan rfl hn (Nat.le_of_ble_eq_true rfl) rfl h (fun r2 σ2 h => ?_)
  exact l_icmp_eq (tgt := 512) d_L_434 rfl h.1 (k _ _ h.2)
set_option maxRecDepth 20000 in
set_option maxHeartbeats 1000000 in
theorem c_L_15 {i : Nat} {σ1 σ2 : gs_S} {Post : gs_S → gs_S → Prop} (hn : n ≤ 2000) (hi : 3 * i + 3 ≤ L) (hL : L < 2 ^ 30) (h : ∀ x y : Int32, lOi l v1 v2 n me_A_orphanAt me_M_orphanAt [.int x] σ1 σ2 Post) (k : ∀ σ1' σ2', Post σ1' σ2' → lG l v1 v2 b L xs 512 [(0, .ref b), (1, .ref (v1.2.2 0)), (2, .ref (v2.2.2 0)), (3, .int (nI (3 * i)))] [] σ1' σ2') : lG l v1 v2 b L xs 439 [(0, .ref b), (1, .ref (v1.2.2 0)), (2, .ref (v2.2.2 0)), (3, .int (nI (3 * i)))] [] σ1 σ2 := by
  have e1 : nI (3 * i) + 1 = nI (3 * i + 1) := nI_1 _
  have e2 : nI (3 * i) + 2 = nI (3 * i + 2) := nI_add (3 * i) 2
  have c1 : (nI (3 * i + 1)).toNatClampNeg = 3 * i + 1 := nI_clamp (by omega)
  have c2 : (nI (3 * i + 2)).toNatClampNeg = 3 * i + 2 := nI_clamp (by omega)
  have h := h (xs (3 * i + 1)) (xs (3 * i + 2))
  refine l_aload_n d_L_439 1 rfl rfl ?_
  refine l_aload_n d_L_440 0 rfl rfl ?_
  refine l_iload_n d_L_441 3 rfl rfl ?_
  refine l_iconst d_L_442 (x := 1) (by decide) ?_
  refine l_iadd d_L_443 ?_
  rw [e1]
  refine l_sld d_L_444 (vp_in_nI (by omega) (by omega)) ?_
  rw [c1]
  refine l_callCi (av := [.int (xs (3 * i + 1))]) (rest := []) d_L_445 Y_A_orphanAt lk_L_76 rfl rfl I_A_orphanAt rfl hn (Nat.le_of_ble_eq_true rfl) rfl h (fun r1 σ1 h => ?_)
  refine l_aload_n d_L_448 2 rfl rfl ?_
  refine l_aload_n d_L_449 0 rfl rfl ?_
  refine l_iload_n d_L_450 3 rfl rfl ?_
  refine l_iconst d_L_451 (x := 1) (by decide) ?_
  refine l_iadd d_L_452 ?_
  rw [e1]
  refine l_sld d_L_453 (vp_in_nI (by omega) (by omega)) ?_
  rw [c1]
  refine l_callMi (av := [.int (xs (3 * i + 1))]) (rest := [.int r1]) d_L_454 Y_M_orphanAt lk_L_79 rfl rfl I_M_orphanAt rfl hn (Nat.le_of_ble_eq_true rfl) rfl h (fun r2 σ2 h => ?_)
  exact l_icmp_eq (tgt := 512) d_L_457 rfl h.1 (k _ _ h.2)
set_option maxRecDepth 20000 in
set_option maxHeartbeats 1000000 in
theorem c_L_16 {i : Nat} {σ1 σ2 : gs_S} {Post : gs_S → gs_S → Prop} (hn : n ≤ 2000) (hi : 3 * i + 3 ≤ L) (hL : L < 2 ^ 30) (h : ∀ x y : Int32, lOi l v1 v2 n me_A_before me_M_before [] σ1 σ2 Post) (k : ∀ σ1' σ2', Post σ1' σ2' → lG l v1 v2 b L xs 512 [(0, .ref b), (1, .ref (v1.2.2 0)), (2, .ref (v2.2.2 0)), (3, .int (nI (3 * i)))] [] σ1' σ2') : lG l v1 v2 b L xs 462 [(0, .ref b), (1, .ref (v1.2.2 0)), (2, .ref (v2.2.2 0)), (3, .int (nI (3 * i)))] [] σ1 σ2 := by
  have e1 : nI (3 * i) + 1 = nI (3 * i + 1) := nI_1 _
  have e2 : nI (3 * i) + 2 = nI (3 * i + 2) := nI_add (3 * i) 2
  have c1 : (nI (3 * i + 1)).toNatClampNeg = 3 * i + 1 := nI_clamp (by omega)
  have c2 : (nI (3 * i + 2)).toNatClampNeg = 3 * i + 2 := nI_clamp (by omega)
  have h := h (xs (3 * i + 1)) (xs (3 * i + 2))
  refine l_aload_n d_L_462 1 rfl rfl ?_
  refine l_callCi (av := []) (rest := []) d_L_463 Y_A_before lk_L_80 rfl rfl I_A_before rfl hn (Nat.le_of_ble_eq_true rfl) rfl h (fun r1 σ1 h => ?_)
  refine l_aload_n d_L_466 2 rfl rfl ?_
  refine l_callMi (av := []) (rest := [.int r1]) d_L_467 Y_M_before lk_L_83 rfl rfl I_M_before rfl hn (Nat.le_of_ble_eq_true rfl) rfl h (fun r2 σ2 h => ?_)
  exact l_icmp_eq (tgt := 512) d_L_470 rfl h.1 (k _ _ h.2)
set_option maxRecDepth 20000 in
set_option maxHeartbeats 1000000 in
theorem c_L_17 {i : Nat} {σ1 σ2 : gs_S} {Post : gs_S → gs_S → Prop} (hn : n ≤ 2000) (hi : 3 * i + 3 ≤ L) (hL : L < 2 ^ 30) (h : ∀ x y : Int32, lOi l v1 v2 n me_A_beforeAt me_M_beforeAt [.int x] σ1 σ2 Post) (k : ∀ σ1' σ2', Post σ1' σ2' → lG l v1 v2 b L xs 512 [(0, .ref b), (1, .ref (v1.2.2 0)), (2, .ref (v2.2.2 0)), (3, .int (nI (3 * i)))] [] σ1' σ2') : lG l v1 v2 b L xs 475 [(0, .ref b), (1, .ref (v1.2.2 0)), (2, .ref (v2.2.2 0)), (3, .int (nI (3 * i)))] [] σ1 σ2 := by
  have e1 : nI (3 * i) + 1 = nI (3 * i + 1) := nI_1 _
  have e2 : nI (3 * i) + 2 = nI (3 * i + 2) := nI_add (3 * i) 2
  have c1 : (nI (3 * i + 1)).toNatClampNeg = 3 * i + 1 := nI_clamp (by omega)
  have c2 : (nI (3 * i + 2)).toNatClampNeg = 3 * i + 2 := nI_clamp (by omega)
  have h := h (xs (3 * i + 1)) (xs (3 * i + 2))
  refine l_aload_n d_L_475 1 rfl rfl ?_
  refine l_aload_n d_L_476 0 rfl rfl ?_
  refine l_iload_n d_L_477 3 rfl rfl ?_
  refine l_iconst d_L_478 (x := 1) (by decide) ?_
  refine l_iadd d_L_479 ?_
  rw [e1]
  refine l_sld d_L_480 (vp_in_nI (by omega) (by omega)) ?_
  rw [c1]
  refine l_callCi (av := [.int (xs (3 * i + 1))]) (rest := []) d_L_481 Y_A_beforeAt lk_L_84 rfl rfl I_A_beforeAt rfl hn (Nat.le_of_ble_eq_true rfl) rfl h (fun r1 σ1 h => ?_)
  refine l_aload_n d_L_484 2 rfl rfl ?_
  refine l_aload_n d_L_485 0 rfl rfl ?_
  refine l_iload_n d_L_486 3 rfl rfl ?_
  refine l_iconst d_L_487 (x := 1) (by decide) ?_
  refine l_iadd d_L_488 ?_
  rw [e1]
  refine l_sld d_L_489 (vp_in_nI (by omega) (by omega)) ?_
  rw [c1]
  refine l_callMi (av := [.int (xs (3 * i + 1))]) (rest := [.int r1]) d_L_490 Y_M_beforeAt lk_L_87 rfl rfl I_M_beforeAt rfl hn (Nat.le_of_ble_eq_true rfl) rfl h (fun r2 σ2 h => ?_)
  exact l_icmp_eq (tgt := 512) d_L_493 rfl h.1 (k _ _ h.2)
set_option maxRecDepth 20000 in
set_option maxHeartbeats 1000000 in
theorem c_L_18 {i : Nat} {σ1 σ2 : gs_S} {Post : gs_S → gs_S → Prop} (hn : n ≤ 2000) (hi : 3 * i + 3 ≤ L) (hL : L < 2 ^ 30) (h : ∀ x y : Int32, lOl l v1 v2 n me_A_ways me_M_ways [] σ1 σ2 Post) (k : ∀ σ1' σ2', Post σ1' σ2' → lG l v1 v2 b L xs 512 [(0, .ref b), (1, .ref (v1.2.2 0)), (2, .ref (v2.2.2 0)), (3, .int (nI (3 * i)))] [] σ1' σ2') : lG l v1 v2 b L xs 498 [(0, .ref b), (1, .ref (v1.2.2 0)), (2, .ref (v2.2.2 0)), (3, .int (nI (3 * i)))] [] σ1 σ2 := by
  have e1 : nI (3 * i) + 1 = nI (3 * i + 1) := nI_1 _
  have e2 : nI (3 * i) + 2 = nI (3 * i + 2) := nI_add (3 * i) 2
  have c1 : (nI (3 * i + 1)).toNatClampNeg = 3 * i + 1 := nI_clamp (by omega)
  have c2 : (nI (3 * i + 2)).toNatClampNeg = 3 * i + 2 := nI_clamp (by omega)
  have h := h (xs (3 * i + 1)) (xs (3 * i + 2))
  refine l_aload_n d_L_498 1 rfl rfl ?_
  refine l_callCl (av := []) (rest := []) d_L_499 Y_A_ways lk_L_88 rfl rfl I_A_ways rfl hn (Nat.le_of_ble_eq_true rfl) rfl h (fun r1 σ1 h => ?_)
  refine l_aload_n d_L_502 2 rfl rfl ?_
  refine l_callMl (av := []) (rest := [.long r1]) d_L_503 Y_M_ways lk_L_92 rfl rfl I_M_ways rfl hn (Nat.le_of_ble_eq_true rfl) rfl h (fun r2 σ2 h => ?_)
  refine l_lcmp d_L_506 ?_
  exact l_if_eq (tgt := 512) d_L_507 rfl (g_cmp_eq.mpr h.1) (k _ _ h.2)
set_option maxRecDepth 20000 in
set_option maxHeartbeats 2000000 in
theorem l_loop {Rel : Nat → gs_S → gs_S → Prop} (hn : n ≤ 2000) (hL : L < 2 ^ 30) (hst : ∀ i σ1 σ2, 3 * i + 3 ≤ L → Rel i σ1 σ2 → lSt l v1 v2 n σ1 σ2 (Rel (i + 1))) : ∀ (m i : Nat) (σ1 σ2 : gs_S), L ≤ 3 * i + m → 3 * i ≤ L + 3 → Rel i σ1 σ2 → lG l v1 v2 b L xs 18 [(0, .ref b), (1, .ref (v1.2.2 0)), (2, .ref (v2.2.2 0)), (3, .int (nI (3 * i)))] [] σ1 σ2 := by
  intro m
  induction m with
  | zero =>
    intro i σ1 σ2 hm hi hR
    refine l_iload_n d_L_18 3 rfl rfl ?_
    refine l_aload_n d_L_19 0 rfl rfl ?_
    refine l_slen d_L_20 ?_
    refine l_iconst d_L_21 (x := 3) (by decide) ?_
    refine l_isub d_L_22 ?_
    refine l_icmp_gt (tgt := 518) d_L_23 rfl (fun _ => ?_) (fun h => ?_)
    · exact l_iconst d_L_518 (x := 1) (by decide) (l_ret d_L_519)
    · exfalso
      apply h
      rw [Int32.lt_iff_toInt_lt, nI_toInt (by omega)]
      have e3 := pk_sub_toInt (a := L) (b := 3) hL (by decide)
      have e4 : (Int32.ofNat L - 3).toInt = (L : Int) - 3 := e3
      rw [e4]
      omega
  | succ m ih =>
    intro i σ1 σ2 hm hi hR
    refine l_iload_n d_L_18 3 rfl rfl ?_
    refine l_aload_n d_L_19 0 rfl rfl ?_
    refine l_slen d_L_20 ?_
    refine l_iconst d_L_21 (x := 3) (by decide) ?_
    refine l_isub d_L_22 ?_
    refine l_icmp_gt (tgt := 518) d_L_23 rfl (fun _ => ?_) (fun h => ?_)
    · exact l_iconst d_L_518 (x := 1) (by decide) (l_ret d_L_519)
    · have hi3 : 3 * i + 3 ≤ L := by
        rw [Int32.lt_iff_toInt_lt, nI_toInt (by omega)] at h
        have e3 := pk_sub_toInt (a := L) (b := 3) hL (by decide)
        have e4 : (Int32.ofNat L - 3).toInt = (L : Int) - 3 := e3
        rw [e4] at h
        omega
      have hs := hst i σ1 σ2 hi3 hR
      have go : ∀ τ1 τ2, Rel (i + 1) τ1 τ2 → lG l v1 v2 b L xs 512 [(0, .ref b), (1, .ref (v1.2.2 0)), (2, .ref (v2.2.2 0)), (3, .int (nI (3 * i)))] [] τ1 τ2 := by
        intro τ1 τ2 hR'
        refine l_iinc (L' := [(3, .int (nI (3 * (i + 1)))), (0, .ref b), (1, .ref (v1.2.2 0)), (2, .ref (v2.2.2 0))]) d_L_512 3 rfl (nI_add (3 * i) 3) (by decide) rfl ?_
        refine l_goto (tgt := 18) d_L_515 rfl ?_
        exact l_sub [1, 2, 3, 0] rfl (ih (i + 1) τ1 τ2 (by omega) (by omega) hR')
      refine l_aload_n d_L_26 0 rfl rfl ?_
      refine l_iload_n d_L_27 3 rfl rfl ?_
      refine l_sld d_L_28 (vp_in_nI (by omega) (by omega)) ?_
      refine l_bipush d_L_29 (x := 31) (by decide) ?_
      refine l_iand d_L_31 ?_
      obtain ⟨j, hj, ej⟩ := pk_andE (xs (nI (3 * i)).toNatClampNeg) (m := 31) 5 (by decide)
      rw [ej]
      have tj : (nI j).toInt = (j : Int) := nI_toInt (by omega)
      by_cases h19 : 19 ≤ j
      · exact l_tabOut (tgt := 512) d_L_32 (Or.inr (by rw [tj]; omega)) rfl (go _ _ (hs 0 0).1)
      · have hs' := fun x y => (hs x y).2
        by_cases h0 : j = 0
        · subst h0
          exact l_tabIn (tgt := 124) (off := 92) d_L_32 (by rw [tj]; decide) (by rw [tj]; decide) (by rw [tj]; decide) rfl (c_L_0 hn hi3 hL (fun x y => (hs' x y).1) go)
        by_cases h1 : j = 1
        · subst h1
          exact l_tabIn (tgt := 147) (off := 115) d_L_32 (by rw [tj]; decide) (by rw [tj]; decide) (by rw [tj]; decide) rfl (c_L_1 hn hi3 hL (fun x y => (hs' x y).2.1) go)
        by_cases h2 : j = 2
        · subst h2
          exact l_tabIn (tgt := 160) (off := 128) d_L_32 (by rw [tj]; decide) (by rw [tj]; decide) (by rw [tj]; decide) rfl (c_L_2 hn hi3 hL (fun x y => (hs' x y).2.2.1) go)
        by_cases h3 : j = 3
        · subst h3
          exact l_tabIn (tgt := 183) (off := 151) d_L_32 (by rw [tj]; decide) (by rw [tj]; decide) (by rw [tj]; decide) rfl (c_L_3 hn hi3 hL (fun x y => (hs' x y).2.2.2.1) go)
        by_cases h4 : j = 4
        · subst h4
          exact l_tabIn (tgt := 206) (off := 174) d_L_32 (by rw [tj]; decide) (by rw [tj]; decide) (by rw [tj]; decide) rfl (c_L_4 hn hi3 hL (fun x y => (hs' x y).2.2.2.2.1) go)
        by_cases h5 : j = 5
        · subst h5
          exact l_tabIn (tgt := 239) (off := 207) d_L_32 (by rw [tj]; decide) (by rw [tj]; decide) (by rw [tj]; decide) rfl (c_L_5 hn hi3 hL (fun x y => (hs' x y).2.2.2.2.2.1) go)
        by_cases h6 : j = 6
        · subst h6
          exact l_tabIn (tgt := 262) (off := 230) d_L_32 (by rw [tj]; decide) (by rw [tj]; decide) (by rw [tj]; decide) rfl (c_L_6 hn hi3 hL (fun x y => (hs' x y).2.2.2.2.2.2.1) go)
        by_cases h7 : j = 7
        · subst h7
          exact l_tabIn (tgt := 285) (off := 253) d_L_32 (by rw [tj]; decide) (by rw [tj]; decide) (by rw [tj]; decide) rfl (c_L_7 hn hi3 hL (fun x y => (hs' x y).2.2.2.2.2.2.2.1) go)
        by_cases h8 : j = 8
        · subst h8
          exact l_tabIn (tgt := 308) (off := 276) d_L_32 (by rw [tj]; decide) (by rw [tj]; decide) (by rw [tj]; decide) rfl (c_L_8 hn hi3 hL (fun x y => (hs' x y).2.2.2.2.2.2.2.2.1) go)
        by_cases h9 : j = 9
        · subst h9
          exact l_tabIn (tgt := 321) (off := 289) d_L_32 (by rw [tj]; decide) (by rw [tj]; decide) (by rw [tj]; decide) rfl (c_L_9 hn hi3 hL (fun x y => (hs' x y).2.2.2.2.2.2.2.2.2.1) go)
        by_cases h10 : j = 10
        · subst h10
          exact l_tabIn (tgt := 334) (off := 302) d_L_32 (by rw [tj]; decide) (by rw [tj]; decide) (by rw [tj]; decide) rfl (c_L_10 hn hi3 hL (fun x y => (hs' x y).2.2.2.2.2.2.2.2.2.2.1) go)
        by_cases h11 : j = 11
        · subst h11
          exact l_tabIn (tgt := 357) (off := 325) d_L_32 (by rw [tj]; decide) (by rw [tj]; decide) (by rw [tj]; decide) rfl (c_L_11 hn hi3 hL (fun x y => (hs' x y).2.2.2.2.2.2.2.2.2.2.2.1) go)
        by_cases h12 : j = 12
        · subst h12
          exact l_tabIn (tgt := 380) (off := 348) d_L_32 (by rw [tj]; decide) (by rw [tj]; decide) (by rw [tj]; decide) rfl (c_L_12 hn hi3 hL (fun x y => (hs' x y).2.2.2.2.2.2.2.2.2.2.2.2.1) go)
        by_cases h13 : j = 13
        · subst h13
          exact l_tabIn (tgt := 393) (off := 361) d_L_32 (by rw [tj]; decide) (by rw [tj]; decide) (by rw [tj]; decide) rfl (c_L_13 hn hi3 hL (fun x y => (hs' x y).2.2.2.2.2.2.2.2.2.2.2.2.2.1) go)
        by_cases h14 : j = 14
        · subst h14
          exact l_tabIn (tgt := 426) (off := 394) d_L_32 (by rw [tj]; decide) (by rw [tj]; decide) (by rw [tj]; decide) rfl (c_L_14 hn hi3 hL (fun x y => (hs' x y).2.2.2.2.2.2.2.2.2.2.2.2.2.2.1) go)
        by_cases h15 : j = 15
        · subst h15
          exact l_tabIn (tgt := 439) (off := 407) d_L_32 (by rw [tj]; decide) (by rw [tj]; decide) (by rw [tj]; decide) rfl (c_L_15 hn hi3 hL (fun x y => (hs' x y).2.2.2.2.2.2.2.2.2.2.2.2.2.2.2.1) go)
        by_cases h16 : j = 16
        · subst h16
          exact l_tabIn (tgt := 462) (off := 430) d_L_32 (by rw [tj]; decide) (by rw [tj]; decide) (by rw [tj]; decide) rfl (c_L_16 hn hi3 hL (fun x y => (hs' x y).2.2.2.2.2.2.2.2.2.2.2.2.2.2.2.2.1) go)
        by_cases h17 : j = 17
        · subst h17
          exact l_tabIn (tgt := 475) (off := 443) d_L_32 (by rw [tj]; decide) (by rw [tj]; decide) (by rw [tj]; decide) rfl (c_L_17 hn hi3 hL (fun x y => (hs' x y).2.2.2.2.2.2.2.2.2.2.2.2.2.2.2.2.2.1) go)
        by_cases h18 : j = 18
        · subst h18
          exact l_tabIn (tgt := 498) (off := 466) d_L_32 (by rw [tj]; decide) (by rw [tj]; decide) (by rw [tj]; decide) rfl (c_L_18 hn hi3 hL (fun x y => (hs' x y).2.2.2.2.2.2.2.2.2.2.2.2.2.2.2.2.2.2) go)
        omega
end LL
theorem lk_L_9 : Cond.methodLink R_law 9 me_A_init.1 ∈ gw := (gw_t1 (List.mem_of_getElem? (i := 16) rfl) rfl)
theorem lk_L_12 : Cond.methodLink R_law 12 me_M_init.1 ∈ gw := (gw_t4 (List.mem_of_getElem? (i := 58) rfl) rfl)
theorem im_A : Cond.instanceMethod me_A_init.1 ∈ gw := (gw_t1 (List.mem_of_getElem? (i := 17) rfl) rfl)
theorem im_M : Cond.instanceMethod me_M_init.1 ∈ gw := (gw_t4 (List.mem_of_getElem? (i := 59) rfl) rfl)
theorem nw_L_7 : Cond.classLink R_law 7 "LineRules" ∈ gw ∧ Cond.instantiable "LineRules" 8 ∈ gw ∧ Cond.initialized "LineRules" ∈ gw := ⟨(gw_t1 (List.mem_of_getElem? (i := 14) rfl) rfl), (gw_t1 (List.mem_of_getElem? (i := 15) rfl) rfl), (gw_t1 (List.mem_of_getElem? (i := 1) rfl) rfl)⟩
theorem nw_L_10 : Cond.classLink R_law 10 "LineRulesModel" ∈ gw ∧ Cond.instantiable "LineRulesModel" 54 ∈ gw ∧ Cond.initialized "LineRulesModel" ∈ gw := ⟨(gw_t4 (List.mem_of_getElem? (i := 56) rfl) rfl), (gw_t4 (List.mem_of_getElem? (i := 57) rfl) rfl), (gw_t1 (List.mem_of_getElem? (i := 10) rfl) rfl)⟩
theorem ki_0 : Cond.instantiable "LineRules" 8 ∈ gw := (gw_t1 (List.mem_of_getElem? (i := 15) rfl) rfl)
theorem ki_1 : Cond.instantiable "LineRules$Text" 9 ∈ gw := (gw_t1 (List.mem_of_getElem? (i := 23) rfl) rfl)
theorem ki_2 : Cond.instantiable "LineRules$Rule" 10 ∈ gw := (gw_t1 (List.mem_of_getElem? (i := 59) rfl) rfl)
theorem ki_3 : Cond.instantiable "LineRules$Ring" 5 ∈ gw := (gw_t1 (List.mem_of_getElem? (i := 127) rfl) rfl)
theorem ki_4 : Cond.instantiable "LineRules$Pairs" 7 ∈ gw := (gw_t1 (List.mem_of_getElem? (i := 153) rfl) rfl)
theorem ki_5 : Cond.instantiable "LineRules$Inverse" 6 ∈ gw := (gw_t1 (List.mem_of_getElem? (i := 181) rfl) rfl)
theorem ki_6 : Cond.instantiable "LineRules$Weights" 6 ∈ gw := (gw_t1 (List.mem_of_getElem? (i := 206) rfl) rfl)
theorem ki_7 : Cond.instantiable "LineRules$Orphan" 10 ∈ gw := (gw_t1 (List.mem_of_getElem? (i := 233) rfl) rfl)
theorem ki_8 : Cond.instantiable "LineRules$Past" 10 ∈ gw := (gw_t2 (List.mem_of_getElem? (i := 30) rfl) rfl)
theorem ki_9 : Cond.instantiable "LineRulesModel" 54 ∈ gw := (gw_t4 (List.mem_of_getElem? (i := 57) rfl) rfl)
theorem gw_ao : Cond.arrayOver (.array .long) ∈ tables_1 := (List.mem_append_left _ (List.mem_of_getElem? (i := 212) rfl))
theorem law_D {s : State} {args : Array Value} (hts : ∀ w ∈ lw_tbl, w.before args s = true) : ∃ D : va_G, ∀ (c : Nat) (q : vw_C), vwCl[c]? = some q → u_Kn s q.1 q.2.1 q.2.2 (D.1 c) (D.2 c) := by
  have hg : ∀ w ∈ gw, w.before args s = true := fun w h => hts w (gw_lw w h)
  have h1 : ∀ c : Nat, ∃ x : ClassId × (Nat → Nat), ∀ q : vw_C, vwCl[c]? = some q → u_Kn s q.1 q.2.1 q.2.2 x.1 x.2 := by
    intro c
    by_cases hc : c < 10
    · rcases (show c = 0 ∨ c = 1 ∨ c = 2 ∨ c = 3 ∨ c = 4 ∨ c = 5 ∨ c = 6 ∨ c = 7 ∨ c = 8 ∨ c = 9 by omega) with h | h | h | h | h | h | h | h | h | h <;> subst h
      · obtain ⟨cC, iS, h⟩ := u_known hg inX0 (hg _ ki_0); exact ⟨(cC, iS), fun q hq => by cases hq; exact h⟩
      · obtain ⟨cC, iS, h⟩ := u_known hg inX1 (hg _ ki_1); exact ⟨(cC, iS), fun q hq => by cases hq; exact h⟩
      · obtain ⟨cC, iS, h⟩ := u_known hg inX2 (hg _ ki_2); exact ⟨(cC, iS), fun q hq => by cases hq; exact h⟩
      · obtain ⟨cC, iS, h⟩ := u_known hg inX3 (hg _ ki_3); exact ⟨(cC, iS), fun q hq => by cases hq; exact h⟩
      · obtain ⟨cC, iS, h⟩ := u_known hg inX4 (hg _ ki_4); exact ⟨(cC, iS), fun q hq => by cases hq; exact h⟩
      · obtain ⟨cC, iS, h⟩ := u_known hg inX5 (hg _ ki_5); exact ⟨(cC, iS), fun q hq => by cases hq; exact h⟩
      · obtain ⟨cC, iS, h⟩ := u_known hg inX6 (hg _ ki_6); exact ⟨(cC, iS), fun q hq => by cases hq; exact h⟩
      · obtain ⟨cC, iS, h⟩ := u_known hg inX7 (hg _ ki_7); exact ⟨(cC, iS), fun q hq => by cases hq; exact h⟩
      · obtain ⟨cC, iS, h⟩ := u_known hg inX8 (hg _ ki_8); exact ⟨(cC, iS), fun q hq => by cases hq; exact h⟩
      · obtain ⟨cC, iS, h⟩ := u_known hg inX9 (hg _ ki_9); exact ⟨(cC, iS), fun q hq => by cases hq; exact h⟩
    · exact ⟨(0, fun _ => 0), fun q hq => by rw [List.getElem?_eq_none (by simp; omega)] at hq; cases hq⟩
  obtain ⟨f, hf⟩ := Classical.axiomOfChoice h1
  exact ⟨(fun c => (f c).1, fun c => (f c).2), hf⟩
theorem law_A {s : State} {args : Array Value} {ty : FieldType} (h : (Cond.arrayClass ty).before args s = true) : ∃ cA : ClassId, ArrOfT s cA ty ∧ s.vm.findClass ("[" ++ ty.toString) = some cA := by
  obtain ⟨cA, k, comp, h1, h2, h3⟩ := Cond.arrayClass_spec h
  exact ⟨cA, fun n z => ⟨fun k h => (by cases h), k, h2, comp, h3⟩, h1⟩
theorem law_K {s : State} {args : Array Value} (hts : ∀ w ∈ lw_tbl, w.before args s = true) : ∃ v : gs_V, ∀ ad : Nat → Nat, gs_K (v.1, v.2.1, ad) s := by
  obtain ⟨D, hD⟩ := law_D hts
  obtain ⟨a0, h0, g0⟩ := law_A (hts _ (gw_lw _ gw_ac_int))
  obtain ⟨a1, h1, g1⟩ := law_A (hts _ (gw_lw _ gw_ac_long))
  obtain ⟨a2, h2, g2⟩ := law_A (hts _ (gw_lw _ gw_ac_boolean))
  obtain ⟨a3, h3, g3⟩ := law_A (hts _ (gw_lw _ gw_ac_char))
  have ho : (Cond.arrayOver (.array .long)).before args s = true := hts _ (List.mem_append_right _ gw_ao)
  obtain ⟨comp, a4, k4, q1, q2, q3, q4, q5⟩ := arrayOverA_spec ho
  refine ⟨(D, (fun t => match t with | 0 => a0 | 1 => a1 | 2 => a2 | 3 => a3 | _ => a4), fun _ => 0), fun ad => ⟨⟨hD, ?_⟩, fun q hq => va_Nw.of rfl (hts _ (List.mem_append_right _ (gw_nt q hq))), ho⟩⟩
  intro k q hk
  have hk5 : k < 5 := (List.getElem?_eq_some_iff.mp hk).1
  rcases (show k = 0 ∨ k = 1 ∨ k = 2 ∨ k = 3 ∨ k = 4 by omega) with h | h | h | h | h <;> subst h <;> cases hk
  · exact ⟨h0, g0⟩
  · exact ⟨h1, g1⟩
  · exact ⟨h2, g2⟩
  · exact ⟨h3, g3⟩
  · exact ⟨fun n z => ⟨fun k h => (by cases h), k4, q3, comp, q4⟩, q5⟩
set_option maxRecDepth 100000 in
set_option maxHeartbeats 4000000 in
theorem whole_W {Rel : Nat → gs_S → gs_S → Prop} {p : Program} {e : Env} {s : State} {m : MethodId} {below : List Frame} {meth : Method} {c : Code} (l : Launch) {b L : Nat} {xs : Nat → Int32} (hL : L < 2 ^ 30) (h0 : Rel 0 sgC sgM) (hst : ∀ (v1 v2 : gs_V) i σ1 σ2, 3 * i + 3 ≤ L → Rel i σ1 σ2 → lSt l v1 v2 1000 σ1 σ2 (Rel (i + 1))) (C0 : lw_At p s m meth c b L xs) : W p l e room_1 s m #[Value.ref b] below meth c s.heap [] 0 0 (lw_Z below #[Value.ref b] s) (entryFrame m ([Value.ref b] : List Value).toArray 4) := by
  have C := C0
  obtain ⟨hx, hb, hr, hml, hown, hts, hX, hbl, hlk, -⟩ := C0
  obtain ⟨v0, hK0⟩ := law_K hts
  have hgs : ∀ w ∈ gw, w.before #[Value.ref b] s = true := fun w h => hts w (gw_lw w h)
  have hA : ∀ q, s.heap.size ≤ q → lA s q := fun q h => h
  have hS : va_S (lA s) s.heap s.heap [] := va_S.rf
  have hPe : va_P v0.1 vwCl [] s.heap := fun k q hk => by simp at hk
  have hDe : va_D (lA s) [] := ⟨fun i j p q hi => by simp at hi, fun k q hk => by simp at hk⟩
  have hl := lv_entry ([.ref b]) (n := 4) (Nat.le_of_ble_eq_true rfl)
  rw [lg_entry_eq]
  generalize (lg_sl ([.ref b]) ++ List.replicate (4 - (lg_sl ([.ref b])).length) Slot.unset).toArray = ls at hl ⊢
  have hl : lv_has ls 4 [(0, .ref b)] := hl
  have hK00 : va_K v0.1 vwCl (gs_t v0) s := (hK0 v0.2.2).1
  refine va_new (ci := 0) (fs := [.null, .null, .null, .null, .null, .null, .null, .null]) (C := "LineRules") (T := TX0) (N := 8) hx hb hgs inX0 tyX0 tyX0_ok hown (hgs _ nw_L_7.1) (hgs _ nw_L_7.2.1) (hgs _ nw_L_7.2.2) hK00 hPe hDe hS hA rfl (by decide +kernel) (by decide +kernel) (by decide +kernel) d_L_0 (fun q0 H hP hD hS => ?_)
  have hP : va_P v0.1 vwCl [(q0, .inr (0, [.null, .null, .null, .null, .null, .null, .null, .null]))] H := hP
  have hD : va_D (lA s) [(q0, .inr (0, [.null, .null, .null, .null, .null, .null, .null, .null]))] := hD
  refine lv_dup hx hb d_L_3 rfl ?_
  have hFc := va_free (wc := [(q0, .inr (0, [.null, .null, .null, .null, .null, .null, .null, .null]))]) hD hS hA [0] rfl
  have cb : CallB room_1 s #[Value.ref b] R_law 9 me_A_init.1 me_A_init.2.1 me_A_init.2.2.1 none (gs_h me_A_init :: gw) rm_A 41 4809 0 := callB_of 0 hts (lw_good Y_A_init.1) rfl rfl rfl (hgs _ Y_A_init.2.1) (hgs _ lk_L_9) Y_A_init.2.2.1 ⟨by decide +kernel, by decide +kernel⟩
  refine va_callv (va_runI (As := []) (rest := [.ref q0]) (b := q0) ⟨hx, hb, hml, hown, hts⟩ ((N_A (l := l) (v := v0) (h0 := q0)) H.size) ⟨cb, rfl, hgs _ im_A⟩ ⟨n_blind, fun U hU hW => ⟨rfl, by rw [hU], by rw [hU]; exact hP, gs_K_warm hW (hK0 v0.2.2), hD.weaken (fun _ _ _ _ => trivial)⟩⟩ rfl rfl hl.1 rfl (lv_room (Nat.le_of_ble_eq_true rfl)) d_L_4 ⟨by decide +kernel, by decide +kernel⟩) hS (fun q _ h => hFc q h) hFc (fun u1 t H1 locs1 ht hvm _ hB hz1 hk1 hS => ?_)
  rw [ht] at hB
  obtain ⟨hP1, hD1⟩ := hB
  have hD1 : va_D (lA s) (gs_w (v0.1, v0.2.1, gs_ad q0 u1) lyC 42 sgC) := hD1.weaken (fun _ _ _ h => hFc _ h)
  clear hP hD hFc hk1 hz1 cb
  generalize H1 = H at hP1 hS ⊢
  refine lv_astore_n (lv' := [(1, .ref q0), (0, .ref b)]) hx hb d_L_7 rfl hl (by decide) rfl (fun ls hl => ?_)
  refine va_new (ci := 9) (fs := [.int 0, .null, .int 0, .int 0, .int 0, .int 0, .null, .int 0, .null, .null, .int 0, .int 0, .int 0, .int 0, .null, .null, .null, .null, .null, .null, .null, .null, .null, .null, .null, .null, .null, .null, .int 0, .int 0, .null, .int 0, .int 0, .int 0, .null, .int 0, .int 0, .null, .null, .null, .null, .int 0, .int 0, .null, .null, .null, .null, .int 0, .int 0, .long 0, .null, .null, .null, .null]) (C := "LineRulesModel") (T := TX9) (N := 54) hx hb hgs inX9 tyX9 tyX9_ok hown (hgs _ nw_L_10.1) (hgs _ nw_L_10.2.1) (hgs _ nw_L_10.2.2) hK00 hP1 hD1 hS hA rfl (by decide +kernel) (by decide +kernel) (by decide +kernel) d_L_8 (fun q8 H' hP hD hS => ?_)
  have hlen : (gs_w (v0.1, v0.2.1, gs_ad q0 u1) lyC 42 sgC).length = 42 := gs_w_len
  have hlast : (gs_w (v0.1, v0.2.1, gs_ad q0 u1) lyC 42 sgC ++ [(q8, .inr (9, [.int 0, .null, .int 0, .int 0, .int 0, .int 0, .null, .int 0, .null, .null, .int 0, .int 0, .int 0, .int 0, .null, .null, .null, .null, .null, .null, .null, .null, .null, .null, .null, .null, .null, .null, .int 0, .int 0, .null, .int 0, .int 0, .int 0, .null, .int 0, .int 0, .null, .null, .null, .null, .int 0, .int 0, .null, .null, .null, .null, .int 0, .int 0, .long 0, .null, .null, .null, .null]))])[42]? = some (q8, .inr (9, [.int 0, .null, .int 0, .int 0, .int 0, .int 0, .null, .int 0, .null, .null, .int 0, .int 0, .int 0, .int 0, .null, .null, .null, .null, .null, .null, .null, .null, .null, .null, .null, .null, .null, .null, .int 0, .int 0, .null, .int 0, .int 0, .int 0, .null, .int 0, .int 0, .null, .null, .null, .null, .int 0, .int 0, .null, .null, .null, .null, .int 0, .int 0, .long 0, .null, .null, .null, .null])) := by
    rw [List.getElem?_append_right (by rw [hlen]; exact Nat.le_refl _), hlen]; rfl
  have hfst : ∀ (k : Nat) (x : Nat × va_E), (gs_w (v0.1, v0.2.1, gs_ad q0 u1) lyC 42 sgC)[k]? = some x → (gs_w (v0.1, v0.2.1, gs_ad q0 u1) lyC 42 sgC ++ [(q8, .inr (9, [.int 0, .null, .int 0, .int 0, .int 0, .int 0, .null, .int 0, .null, .null, .int 0, .int 0, .int 0, .int 0, .null, .null, .null, .null, .null, .null, .null, .null, .null, .null, .null, .null, .null, .null, .int 0, .int 0, .null, .int 0, .int 0, .int 0, .null, .int 0, .int 0, .null, .null, .null, .null, .int 0, .int 0, .null, .null, .null, .null, .int 0, .int 0, .long 0, .null, .null, .null, .null]))])[k]? = some x := fun k x hk => by
    rw [List.getElem?_append_left (List.getElem?_eq_some_iff.mp hk).1]; exact hk
  have hPC : va_P v0.1 vwCl (gs_w (v0.1, v0.2.1, gs_ad q0 u1) lyC 42 sgC) H' := fun k x hk => hP k x (hfst k x hk)
  have hne : ∀ (k : Nat) (x : Nat × va_E), (gs_w (v0.1, v0.2.1, gs_ad q0 u1) lyC 42 sgC)[k]? = some x → x.1 ≠ q8 := fun k x hk e => by
    have := hD.1 k 42 x _ (hfst k x hk) hlast e
    have h2 := (List.getElem?_eq_some_iff.mp hk).1
    omega
  have hP8 : va_P v0.1 vwCl [(q8, .inr (9, [.int 0, .null, .int 0, .int 0, .int 0, .int 0, .null, .int 0, .null, .null, .int 0, .int 0, .int 0, .int 0, .null, .null, .null, .null, .null, .null, .null, .null, .null, .null, .null, .null, .null, .null, .int 0, .int 0, .null, .int 0, .int 0, .int 0, .null, .int 0, .int 0, .null, .null, .null, .null, .int 0, .int 0, .null, .null, .null, .null, .int 0, .int 0, .long 0, .null, .null, .null, .null]))] H' := fun k x hk => by
    have h9 : k < 1 := (List.getElem?_eq_some_iff.mp hk).1
    rw [show k = 0 by omega] at hk
    cases hk
    exact hP 42 _ hlast
  have hD8 : va_D (lA s) [(q8, .inr (9, [.int 0, .null, .int 0, .int 0, .int 0, .int 0, .null, .int 0, .null, .null, .int 0, .int 0, .int 0, .int 0, .null, .null, .null, .null, .null, .null, .null, .null, .null, .null, .null, .null, .null, .null, .int 0, .int 0, .null, .int 0, .int 0, .int 0, .null, .int 0, .int 0, .null, .null, .null, .null, .int 0, .int 0, .null, .null, .null, .null, .int 0, .int 0, .long 0, .null, .null, .null, .null]))] := ⟨fun i j x y hi hj _ => by
    have h9 : i < 1 := (List.getElem?_eq_some_iff.mp hi).1
    have h8 : j < 1 := (List.getElem?_eq_some_iff.mp hj).1
    omega, fun k x hk => by
    have h9 : k < 1 := (List.getElem?_eq_some_iff.mp hk).1
    rw [show k = 0 by omega] at hk
    cases hk
    exact hD.2 42 _ hlast⟩
  refine lv_dup hx hb d_L_11 rfl ?_
  have hFc := va_free (wc := [(q8, .inr (9, [.int 0, .null, .int 0, .int 0, .int 0, .int 0, .null, .int 0, .null, .null, .int 0, .int 0, .int 0, .int 0, .null, .null, .null, .null, .null, .null, .null, .null, .null, .null, .null, .null, .null, .null, .int 0, .int 0, .null, .int 0, .int 0, .int 0, .null, .int 0, .int 0, .null, .null, .null, .null, .int 0, .int 0, .null, .null, .null, .null, .int 0, .int 0, .long 0, .null, .null, .null, .null]))]) hD8 hS hA [0] rfl
  have cb : CallB room_1 s #[Value.ref b] R_law 12 me_M_init.1 me_M_init.2.1 me_M_init.2.2.1 none (gs_h me_M_init :: gw) rm_M 32 7965 0 := callB_of 0 hts (lw_good Y_M_init.1) rfl rfl rfl (hgs _ Y_M_init.2.1) (hgs _ lk_L_12) Y_M_init.2.2.1 ⟨by decide +kernel, by decide +kernel⟩
  refine va_callv (va_runI (As := []) (rest := [.ref q8]) (b := q8) ⟨hx, hb, hml, hown, hts⟩ ((N_M (l := l) (v := v0) (h0 := q8)) H'.size) ⟨cb, rfl, hgs _ im_M⟩ ⟨n_blind, fun U hU hW => ⟨rfl, by rw [hU], by rw [hU]; exact hP8, gs_K_warm hW (hK0 v0.2.2), hD8.weaken (fun _ _ _ _ => trivial)⟩⟩ rfl rfl hl.1 rfl (lv_room (Nat.le_of_ble_eq_true rfl)) d_L_12 ⟨by decide +kernel, by decide +kernel⟩) hS (fun q _ h => hFc q h) hFc (fun u2 t H2 locs2 ht hvm _ hB hz1 hk1 hS => ?_)
  rw [ht] at hB
  obtain ⟨hP2, hD2'⟩ := hB
  have hD2 : va_D (lA s) (gs_w (v0.1, v0.2.1, gs_ad q8 u2) lyM 33 sgM) := hD2'.weaken (fun _ _ _ h => hFc _ h)
  have hPC2 : va_P v0.1 vwCl (gs_w (v0.1, v0.2.1, gs_ad q0 u1) lyC 42 sgC) H2 := hPC.kept (fun k x hk => by
    refine hk1 _ (hPC k x hk).lt (fun hA => ?_)
    rcases hA with ⟨j, e', hj⟩ | hA
    · have h9 : j < 1 := (List.getElem?_eq_some_iff.mp hj).1
      rw [show j = 0 by omega] at hj
      have e9 := congrArg (fun z : Option (Nat × va_E) => z.map Prod.fst) hj
      exact hne k x hk (Option.some.inj e9).symm
    · exact Nat.lt_irrefl _ (Nat.lt_of_lt_of_le (hPC k x hk).lt hA))
  have hap : ∀ i, i < 42 → ∀ j, j < 33 → gs_ad q0 u1 i ≠ gs_ad q8 u2 j := by
    intro i hi j hj e9
    have gi := gs_w_get (v := (v0.1, v0.2.1, gs_ad q0 u1)) (ly := lyC) (σ := sgC) hi
    have gj := gs_w_get (v := (v0.1, v0.2.1, gs_ad q8 u2)) (ly := lyM) (σ := sgM) hj
    have ha := hD2'.2 j _ gj
    have hlt := (hPC i _ gi).lt
    rcases ha with ⟨j2, e', hj2⟩ | ha
    · have h9 : j2 < 1 := (List.getElem?_eq_some_iff.mp hj2).1
      rw [show j2 = 0 by omega] at hj2
      have e8 := congrArg (fun z : Option (Nat × va_E) => z.map Prod.fst) hj2
      have e7 : q8 = gs_ad q8 u2 j := Option.some.inj e8
      exact hne i _ gi (e9.trans e7.symm)
    · have hlt' : gs_ad q0 u1 i < H'.size := hlt
      have ha' : H'.size ≤ gs_ad q8 u2 j := ha
      omega
  refine lv_astore_n (lv' := [(2, .ref q8), (1, .ref q0), (0, .ref b)]) hx hb d_L_15 rfl hl (by decide) rfl (fun ls hl => ?_)
  refine lv_iconst (v := 0) hx hb d_L_16 (by decide) ?_
  refine lv_istore_n (lv' := [(3, .int 0), (2, .ref q8), (1, .ref q0), (0, .ref b)]) hx hb d_L_17 rfl hl (by decide) rfl (fun ls hl => ?_)
  have hl : lv_has ls 4 [(0, .ref b), (1, .ref (((v0.1, v0.2.1, gs_ad q0 u1) : gs_V).2.2 0)), (2, .ref (((v0.1, v0.2.1, gs_ad q8 u2) : gs_V).2.2 0)), (3, .int (nI (3 * 0)))] := lv_sub hl [3, 2, 1, 0] rfl
  exact l_loop (Rel := Rel) (n := 1000) (v1 := (v0.1, v0.2.1, gs_ad q0 u1)) (v2 := (v0.1, v0.2.1, gs_ad q8 u2)) (by decide) hL (hst _ _) L 0 sgC sgM (by omega) (by omega) h0 p e s m below meth c ⟨C, hK0 _, hK0 _, fun σ => gs_D hD1, fun σ => gs_D hD2, hap⟩ ls H2 locs2 hl hPC2 hP2 hS
end
section
/-! Numbers alone from here on: what writing does to a state, and the small methods. -/
theorem pI_eq {σ : gs_S} {k j : Nat} {x : Int32} : (gs_pI σ k j x).1 k j = x := by simp [gs_pI, va_up, upd]
theorem pI_k {σ : gs_S} {k j k' : Nat} {x : Int32} (h : k' ≠ k) : (gs_pI σ k j x).1 k' = σ.1 k' := by simp [gs_pI, va_up, h]
theorem pI_j {σ : gs_S} {k j j' : Nat} {x : Int32} (h : j' ≠ j) : (gs_pI σ k j x).1 k j' = σ.1 k j' := by simp [gs_pI, va_up, upd, h]
theorem pI_row {σ : gs_S} {k j : Nat} {x : Int32} : (gs_pI σ k j x).1 k = upd (σ.1 k) j x := by simp [gs_pI, va_up]
theorem pI_2 {σ : gs_S} {k j : Nat} {x : Int32} : (gs_pI σ k j x).2 = σ.2 := rfl
theorem pL_1 {σ : gs_S} {k j : Nat} {x : Int64} : (gs_pL σ k j x).1 = σ.1 := rfl
theorem pL_3 {σ : gs_S} {k j : Nat} {x : Int64} : (gs_pL σ k j x).2.2 = σ.2.2 := rfl
theorem pL_eq {σ : gs_S} {k j : Nat} {x : Int64} : (gs_pL σ k j x).2.1 k j = x := by simp [gs_pL, va_up, vp_updL]
theorem pL_k {σ : gs_S} {k j k' : Nat} {x : Int64} (h : k' ≠ k) : (gs_pL σ k j x).2.1 k' = σ.2.1 k' := by simp [gs_pL, va_up, h]
theorem pL_row {σ : gs_S} {k j : Nat} {x : Int64} : (gs_pL σ k j x).2.1 k = vp_updL (σ.2.1 k) j x := by simp [gs_pL, va_up]
theorem pA_row {σ : gs_S} {k : Nat} {f : Nat → Int32} : (gs_pA σ k f).1 k = f := by simp [gs_pA, va_up]
theorem pA_k {σ : gs_S} {k k' : Nat} {f : Nat → Int32} (h : k' ≠ k) : (gs_pA σ k f).1 k' = σ.1 k' := by simp [gs_pA, va_up, h]
theorem pA_2 {σ : gs_S} {k : Nat} {f : Nat → Int32} : (gs_pA σ k f).2 = σ.2 := rfl
theorem pB_row {σ : gs_S} {k : Nat} {f : Nat → Int64} : (gs_pB σ k f).2.1 k = f := by simp [gs_pB, va_up]
theorem pB_k {σ : gs_S} {k k' : Nat} {f : Nat → Int64} (h : k' ≠ k) : (gs_pB σ k f).2.1 k' = σ.2.1 k' := by simp [gs_pB, va_up, h]
theorem pB_1 {σ : gs_S} {k : Nat} {f : Nat → Int64} : (gs_pB σ k f).1 = σ.1 := rfl
theorem pB_3 {σ : gs_S} {k : Nat} {f : Nat → Int64} : (gs_pB σ k f).2.2 = σ.2.2 := rfl
theorem pI_pA {σ : gs_S} {k j : Nat} {f : Nat → Int32} {x : Int32} : gs_pI (gs_pA σ k f) k j x = gs_pA σ k (upd f j x) := by
  simp only [gs_pI, gs_pA, gs_up1, bx_uu]
theorem pL_pB {σ : gs_S} {k j : Nat} {f : Nat → Int64} {x : Int64} : gs_pL (gs_pB σ k f) k j x = gs_pB σ k (vp_updL f j x) := by
  simp only [gs_pL, gs_pB, gs_up1, bx_uu]
theorem up_id {α : Type} (f : Nat → α) (k : Nat) : va_up f k (f k) = f := by
  funext j
  by_cases h : j = k
  · subst h; rw [gs_up1]
  · rw [gs_upn h]
theorem pA_id {σ : gs_S} {k : Nat} : gs_pA σ k (σ.1 k) = σ := by
  show (va_up σ.1 k (σ.1 k), σ.2) = σ
  rw [up_id]
theorem pB_id {σ : gs_S} {k : Nat} : gs_pB σ k (σ.2.1 k) = σ := by
  show (σ.1, va_up σ.2.1 k (σ.2.1 k), σ.2.2) = σ
  rw [up_id]
theorem pA_pA {σ : gs_S} {k : Nat} {f g : Nat → Int32} : gs_pA (gs_pA σ k f) k g = gs_pA σ k g := by
  show (va_up (va_up σ.1 k f) k g, σ.2) = _
  rw [bx_uu]; rfl
-- a filled row
def fl32 (f : Nat → Int32) (i : Nat) (x : Int32) : Nat → Int32 := fun j => if j < i then x else f j
def fl64 (f : Nat → Int64) (i : Nat) (x : Int64) : Nat → Int64 := fun j => if j < i then x else f j
theorem fl32_0 {f : Nat → Int32} {x : Int32} : fl32 f 0 x = f := by funext j; simp [fl32]
theorem fl64_0 {f : Nat → Int64} {x : Int64} : fl64 f 0 x = f := by funext j; simp [fl64]
theorem fl32_s {f : Nat → Int32} {x : Int32} {i : Nat} : upd (fl32 f i x) i x = fl32 f (i + 1) x := by
  funext j
  by_cases h : j = i
  · subst h; simp [upd, fl32]
  · simp only [upd, fl32, h, if_false]
    by_cases h2 : j < i
    · rw [if_pos h2, if_pos (by omega)]
    · rw [if_neg h2, if_neg (by omega)]
theorem fl64_s {f : Nat → Int64} {x : Int64} {i : Nat} : vp_updL (fl64 f i x) i x = fl64 f (i + 1) x := by
  funext j
  by_cases h : j = i
  · subst h; simp [vp_updL, fl64]
  · simp only [vp_updL, fl64, h, if_false]
    by_cases h2 : j < i
    · rw [if_pos h2, if_pos (by omega)]
    · rw [if_neg h2, if_neg (by omega)]
section K0
variable {l : Launch} {v v1 v2 : gs_V} {n : Nat} {σ σ1 σ2 : gs_S}
theorem k_fillI_loop {post : gs_S → Prop} {q len : Nat} {x : Int32} (hq : q < 42 ∧ lyC q = .inl (0, len, 0)) (hl : len < 2 ^ 31) (hp : post (gs_pA σ q (fl32 (σ.1 q) len x))) : ∀ d i, i + d = len → G_Y_fillI_5 l v n post (gs_pA σ q (fl32 (σ.1 q) i x)) q x (nI i) (Int32.ofNat len) := by
  intro d
  induction d with
  | zero =>
    intro i hi
    refine T_Y_fillI_5 hq ⟨fun _ => ?_, fun h => absurd (nI_le (a := len) (b := i) (by omega) (by omega)) h⟩
    rw [show i = len by omega]
    exact hp
  | succ d ih =>
    intro i hi
    refine T_Y_fillI_5 hq ⟨fun h => absurd h (nI_ge (by omega) hl), fun _ => ⟨vp_in_nI (by omega) hl, ?_⟩⟩
    rw [nI_clamp (by omega), pI_pA, fl32_s, nI_1]
    exact ih (i + 1) (by omega)
theorem k_fillI {post : gs_S → Prop} {q len : Nat} {x : Int32} (hq : q < 42 ∧ lyC q = .inl (0, len, 0)) (hl : len < 2 ^ 31) (hp : post (gs_pA σ q (fl32 (σ.1 q) len x))) : gM l v lyC 42 me_Y_fillI (n + 1) [.ref (v.2.2 q), .int x] σ (qV v lyC 42 post) := by
  refine E_Y_fillI (T_Y_fillI_0 hq ?_)
  have h := k_fillI_loop (l := l) (v := v) (n := n) hq hl hp len 0 (by omega)
  rw [fl32_0, pA_id] at h
  exact h
theorem k_fillJ_loop {post : gs_S → Prop} {q len : Nat} {x : Int64} (hq : q < 42 ∧ lyC q = .inl (1, len, 0)) (hl : len < 2 ^ 31) (hp : post (gs_pB σ q (fl64 (σ.2.1 q) len x))) : ∀ d i, i + d = len → G_Y_fillJ_6 l v n post (gs_pB σ q (fl64 (σ.2.1 q) i x)) q x (nI i) (Int32.ofNat len) := by
  intro d
  induction d with
  | zero =>
    intro i hi
    refine T_Y_fillJ_6 hq ⟨fun _ => ?_, fun h => absurd (nI_le (a := len) (b := i) (by omega) (by omega)) h⟩
    rw [show i = len by omega]
    exact hp
  | succ d ih =>
    intro i hi
    refine T_Y_fillJ_6 hq ⟨fun h => absurd h (nI_ge (by omega) hl), fun _ => ⟨vp_in_nI (by omega) hl, ?_⟩⟩
    rw [nI_clamp (by omega), pL_pB, fl64_s, nI_1]
    exact ih (i + 1) (by omega)
theorem k_fillJ {post : gs_S → Prop} {q len : Nat} {x : Int64} (hq : q < 42 ∧ lyC q = .inl (1, len, 0)) (hl : len < 2 ^ 31) (hp : post (gs_pB σ q (fl64 (σ.2.1 q) len x))) : gM l v lyC 42 me_Y_fillJ (n + 1) [.ref (v.2.2 q), .long x] σ (qV v lyC 42 post) := by
  refine E_Y_fillJ (T_Y_fillJ_0 hq ?_)
  have h := k_fillJ_loop (l := l) (v := v) (n := n) hq hl hp len 0 (by omega)
  rw [fl64_0, pB_id] at h
  exact h
theorem k_C_clear {post : gs_S → Prop} (hp : post (gs_pA σ 11 (fl32 (σ.1 11) 64 0))) : gM l v lyC 42 me_C_clear (n + 2) [.ref (v.2.2 10)] σ (qV v lyC 42 post) :=
  E_C_clear (T_C_clear_0 (k_fillI ⟨by decide, rfl⟩ (by decide) hp))
theorem k_H_forget {post : gs_S → Prop} (hp : post (gs_pI (gs_pI σ 37 6 0) 37 8 0)) : gM l v lyC 42 me_H_forget (n + 1) [.ref (v.2.2 37)] σ (qV v lyC 42 post) := E_H_forget (T_H_forget_0 hp)
theorem k_C_resize {post : gs_S → Prop} {x : Int32} (hp : post (gs_pA (gs_pI σ 10 1 x) 11 (fl32 (σ.1 11) 64 0))) : gM l v lyC 42 me_C_resize (n + 3) [.ref (v.2.2 10), .int x] σ (qV v lyC 42 post) :=
  E_C_resize (T_C_resize_0 (k_C_clear (by rw [pI_k (by decide)]; exact hp)))
theorem nar_b0 : narrow .boolean (.int 0) = .int 0 := rfl
theorem nar_b1 : narrow .boolean (.int 1) = .int 1 := rfl
theorem k_C_has {post : Int32 → gs_S → Prop} {x : Int32} (h0 : (x < 0 ∨ σ.1 10 1 ≤ x) → post 0 σ) (h1 : ¬ x < 0 → ¬ σ.1 10 1 ≤ x → post 1 σ) : gM l v lyC 42 me_C_has (n + 1) [.ref (v.2.2 10), .int x] σ (qI v lyC 42 post) :=
  E_C_has (T_C_has_0 ⟨fun h => T_C_has_16 (T_C_has_17 ⟨nar_b0, h0 (Or.inl h)⟩), fun h => ⟨fun h' => T_C_has_16 (T_C_has_17 ⟨nar_b0, h0 (Or.inr h')⟩), fun h' => T_C_has_17 ⟨nar_b1, h1 h h'⟩⟩⟩)
theorem k_R_hasState {post : Int32 → gs_S → Prop} {x : Int32} (h0 : (x < 0 ∨ σ.1 4 6 ≤ x) → post 0 σ) (h1 : ¬ x < 0 → ¬ σ.1 4 6 ≤ x → post 1 σ) : gM l v lyC 42 me_R_hasState (n + 1) [.ref (v.2.2 4), .int x] σ (qI v lyC 42 post) :=
  E_R_hasState (T_R_hasState_0 ⟨fun h => T_R_hasState_16 (T_R_hasState_17 ⟨nar_b0, h0 (Or.inl h)⟩), fun h => ⟨fun h' => T_R_hasState_16 (T_R_hasState_17 ⟨nar_b0, h0 (Or.inr h')⟩), fun h' => T_R_hasState_17 ⟨nar_b1, h1 h h'⟩⟩⟩)
/-! without a rule: the class's 'present' is 0, the reference's k is 0 -/
variable {Post : gs_S → gs_S → Prop} {x y : Int32}
theorem a_next (h1 : σ1.1 4 5 = 0) (h2 : σ2.1 0 2 = 0) (hP : Post σ1 σ2) : lOi l v1 v2 (n + 1) me_A_next me_M_next [.int x] σ1 σ2 Post :=
  E_A_next (T_A_next_0 ⟨fun _ => T_A_next_25 (E_M_next (T_M_next_0 ⟨fun _ => T_M_next_28 (T_M_next_29 ⟨rfl, hP⟩), fun h => absurd (by rw [h2]; decide) h⟩)), fun h => absurd h1 h⟩)
theorem a_set (h1 : σ1.1 4 5 = 0) (h2 : σ2.1 0 2 = 0) (hP : Post σ1 σ2) : lOi l v1 v2 (n + 1) me_A_set me_M_set [.int x, .int y] σ1 σ2 Post :=
  E_A_set (T_A_set_0 ⟨fun _ => T_A_set_32 (E_M_set (T_M_set_0 ⟨fun _ => T_M_set_31 ⟨rfl, hP⟩, fun h => absurd h2 h⟩)), fun h => absurd h1 h⟩)
theorem a_step (h1 : σ1.1 4 5 = 0) (h2 : σ2.1 0 2 = 0) (hP : Post σ1 σ2) : lOi l v1 v2 (n + 1) me_A_step me_M_step [.int x] σ1 σ2 Post :=
  E_A_step (T_A_step_0 ⟨fun _ => T_A_step_21 (E_M_step (T_M_step_0 ⟨fun _ => T_M_step_18 ⟨rfl, hP⟩, fun h => absurd h2 h⟩)), fun h => absurd h1 h⟩)
theorem a_population (h1 : σ1.1 4 5 = 0) (h2 : σ2.1 0 2 = 0) (hP : Post σ1 σ2) : lOi l v1 v2 (n + 1) me_A_population me_M_population [.int x] σ1 σ2 Post :=
  E_A_population (T_A_population_0 ⟨fun _ => T_A_population_21 (E_M_population (T_M_population_0 ⟨fun _ => T_M_population_19 ⟨rfl, hP⟩, fun h => absurd h2 h⟩)), fun h => absurd h1 h⟩)
theorem a_surjective (h1 : σ1.1 4 5 = 0) (h2 : σ2.1 0 2 = 0) (hP : Post σ1 σ2) : lOi l v1 v2 (n + 1) me_A_surjective me_M_surjective [] σ1 σ2 Post :=
  E_A_surjective (T_A_surjective_0 ⟨fun h => absurd h1 h, fun _ => E_M_surjective (T_M_surjective_0 ⟨fun h => absurd h2 h, fun _ => ⟨rfl, hP⟩⟩)⟩)
theorem a_injective (h1 : σ1.1 4 5 = 0) (h2 : σ2.1 0 2 = 0) (hP : Post σ1 σ2) : lOi l v1 v2 (n + 1) me_A_injective me_M_injective [] σ1 σ2 Post :=
  E_A_injective (T_A_injective_0 ⟨fun h => absurd h1 h, fun _ => E_M_injective (T_M_injective_0 ⟨fun h => absurd h2 h, fun _ => ⟨rfl, hP⟩⟩)⟩)
theorem a_inverse (h1 : σ1.1 4 5 = 0) (h2 : σ2.1 0 2 = 0) (hP : Post σ1 σ2) : lOi l v1 v2 (n + 1) me_A_inverse me_M_inverse [.int x] σ1 σ2 Post :=
  E_A_inverse (T_A_inverse_0 ⟨fun _ => T_A_inverse_19 (E_M_inverse (T_M_inverse_0 ⟨fun _ => T_M_inverse_16 ⟨rfl, hP⟩, fun h => absurd h2 h⟩)), fun h => absurd h1 h⟩)
theorem a_undo (h1 : σ1.1 4 5 = 0) (h2 : σ2.1 0 2 = 0) (hP : Post σ1 σ2) : lOi l v1 v2 (n + 1) me_A_undo me_M_undo [.int x] σ1 σ2 Post :=
  E_A_undo (T_A_undo_0 ⟨fun _ => T_A_undo_22 (E_M_undo (T_M_undo_0 ⟨fun h => absurd h2 h, fun _ => ⟨rfl, hP⟩⟩)), fun h => absurd h1 h⟩)
theorem a_conserved (h1 : σ1.1 4 5 = 0) (h2 : σ2.1 0 2 = 0) (hP : Post σ1 σ2) : lOi l v1 v2 (n + 1) me_A_conserved me_M_conserved [] σ1 σ2 Post :=
  E_A_conserved (T_A_conserved_0 ⟨fun _ => T_A_conserved_21 (E_M_conserved (T_M_conserved_0 ⟨fun h => absurd h2 h, fun _ => ⟨rfl, hP⟩⟩)), fun h => absurd h1 h⟩)
theorem a_weight (h1 : σ1.1 4 5 = 0) (h2 : σ2.1 0 2 = 0) (hP : Post σ1 σ2) : lOi l v1 v2 (n + 1) me_A_weight me_M_weight [.int x, .int y] σ1 σ2 Post :=
  E_A_weight (T_A_weight_0 ⟨fun _ => T_A_weight_23 (E_M_weight (T_M_weight_0 ⟨fun h => absurd h2 h, fun _ => ⟨rfl, hP⟩⟩)), fun h => absurd h1 h⟩)
theorem a_orphan (h1 : σ1.1 4 5 = 0) (h2 : σ2.1 0 2 = 0) (hP : Post σ1 σ2) : lOi l v1 v2 (n + 1) me_A_orphan me_M_orphan [] σ1 σ2 Post :=
  E_A_orphan (T_A_orphan_0 ⟨fun _ => T_A_orphan_21 (E_M_orphan (T_M_orphan_0 ⟨fun h => absurd h2 h, fun _ => ⟨rfl, hP⟩⟩)), fun h => absurd h1 h⟩)
theorem a_orphanAt (h1 : σ1.1 4 5 = 0) (h2 : σ2.1 0 2 = 0) (hP : Post σ1 σ2) : lOi l v1 v2 (n + 1) me_A_orphanAt me_M_orphanAt [.int x] σ1 σ2 Post :=
  E_A_orphanAt (T_A_orphanAt_0 ⟨fun _ => T_A_orphanAt_22 (E_M_orphanAt (T_M_orphanAt_0 ⟨fun h => absurd h2 h, fun _ => ⟨rfl, hP⟩⟩)), fun h => absurd h1 h⟩)
theorem a_before (h1 : σ1.1 4 5 = 0) (h2 : σ2.1 0 2 = 0) (hP : Post σ1 σ2) : lOi l v1 v2 (n + 1) me_A_before me_M_before [] σ1 σ2 Post :=
  E_A_before (T_A_before_0 ⟨fun h => absurd h1 h, fun _ => E_M_before (T_M_before_0 ⟨fun h => absurd h2 h, fun _ => ⟨rfl, hP⟩⟩)⟩)
theorem a_beforeAt (h1 : σ1.1 4 5 = 0) (h2 : σ2.1 0 2 = 0) (hP : Post σ1 σ2) : lOi l v1 v2 (n + 1) me_A_beforeAt me_M_beforeAt [.int x] σ1 σ2 Post :=
  E_A_beforeAt (T_A_beforeAt_0 ⟨fun _ => T_A_beforeAt_22 (E_M_beforeAt (T_M_beforeAt_0 ⟨fun h => absurd h2 h, fun _ => ⟨rfl, hP⟩⟩)), fun h => absurd h1 h⟩)
theorem a_ways (h1 : σ1.1 4 5 = 0) (h2 : σ2.1 0 2 = 0) (hP : Post σ1 σ2) : lOl l v1 v2 (n + 1) me_A_ways me_M_ways [] σ1 σ2 Post :=
  E_A_ways (T_A_ways_0 ⟨fun _ => T_A_ways_23 (E_M_ways (T_M_ways_0 ⟨fun h => absurd h2 h, fun _ => ⟨rfl, hP⟩⟩)), fun h => absurd h1 h⟩)
end K0
end
section
/-! The text, the ring: calls that need no rule. -/
theorem nI_rng {x : Int32} {a b : Nat} {A B : Int32} (hA : A.toInt = a) (hB : B.toInt = b) (h1 : ¬ x < A) (h2 : x ≤ B) : ∃ c : Nat, a ≤ c ∧ c ≤ b ∧ x = nI c := by
  rw [Int32.lt_iff_toInt_lt] at h1
  rw [Int32.le_iff_toInt_le] at h2
  have hm := x.toInt_lt
  refine ⟨x.toInt.toNat, by omega, by omega, ?_⟩
  apply Int32.toInt_inj.mp
  rw [nI_toInt (by omega)]
  omega
theorem nar_c {c : Nat} (h : c < 65536) : vp_nar .char (((nI c).toUInt32 % 65536).toInt32) = nI c := by
  rw [pk_vc, pk_char, pk_tn (by omega), Nat.mod_eq_of_lt h]
/-- the text: m characters t 0, t 1 .. -/
def rT (σ1 σ2 : gs_S) (m : Nat) (t : Nat → Nat) : Prop := m ≤ 64 ∧ σ1.1 1 2 = nI m ∧ σ2.1 0 0 = nI m ∧ ∀ j, j < m → 32 ≤ t j ∧ t j ≤ 126 ∧ σ1.1 2 j = nI (t j) ∧ σ2.1 1 j = nI (t j)
/-- the ring: c cells -/
def rR (σ1 σ2 : gs_S) (c : Nat) : Prop := 1 ≤ c ∧ c ≤ 64 ∧ σ1.1 10 1 = nI c ∧ σ2.1 0 7 = nI c ∧ ∀ j, j < 64 → σ1.1 11 j = σ2.1 3 j
section K1
variable {l : Launch} {v v1 v2 : gs_V} {n : Nat} {σ σ1 σ2 : gs_S} {Post : gs_S → gs_S → Prop} {x y : Int32}
theorem o_load {m : Nat} {t : Nat → Nat} (h : rT σ1 σ2 m t) (hP0 : Post σ1 σ2) (hP1 : ∀ c, m < 64 → 32 ≤ c → c ≤ 126 → Post (gs_pI (gs_pI σ1 2 m (nI c)) 1 2 (nI (m + 1))) (gs_pI (gs_pI σ2 1 m (nI c)) 0 0 (nI (m + 1)))) : lOi l v1 v2 (n + 2) me_A_load me_M_load [.int x] σ1 σ2 Post := by
  obtain ⟨hm, e1, e2, -⟩ := h
  refine E_A_load (T_A_load_0 (E_T_append (T_T_append_0 ⟨fun hx => T_T_append_12 ?_, fun hx => ⟨fun hy => ⟨fun h64 => ?_, fun h64 => ?_⟩, fun hy => T_T_append_12 ?_⟩⟩)))
  · exact E_M_load (T_M_load_0 ⟨fun _ => T_M_load_12 ⟨rfl, hP0⟩, fun h => absurd hx h⟩)
  · obtain ⟨c, hc1, hc2, rfl⟩ := nI_rng (a := 32) (b := 126) rfl rfl hx hy
    rw [e1] at h64 ⊢
    have hm64 : m < 64 := (nI_ltI (a := m) (b := 64) (by omega) (by decide)).mp h64
    refine ⟨vp_in_nI hm64 (by decide), ?_⟩
    rw [nI_clamp (by omega), nar_c (by omega), nI_1]
    refine E_M_load (T_M_load_0 ⟨fun h => absurd h hx, fun _ => ⟨fun _ => ⟨fun _ => ?_, fun h => ?_⟩, fun h => absurd hy h⟩⟩)
    · rw [e2]
      refine ⟨vp_in_nI hm64 (by decide), ?_⟩
      rw [nI_clamp (by omega), nI_1]
      exact ⟨rfl, hP1 c hm64 hc1 hc2⟩
    · rw [e2] at h
      have := (nI_eq (a := m) (b := 64) (by omega) (by decide)).mp h
      omega
  · rw [e1] at h64
    have hm64 : m = 64 := by
      rcases Nat.lt_or_ge m 64 with q | q
      · exact absurd ((nI_ltI (a := m) (b := 64) (by omega) (by decide)).mpr q) h64
      · omega
    refine E_M_load (T_M_load_0 ⟨fun h => absurd h hx, fun _ => ⟨fun _ => ⟨fun h => ?_, fun _ => ⟨rfl, hP0⟩⟩, fun h => absurd hy h⟩⟩)
    exact absurd (by rw [e2, hm64]; rfl) h
  · exact E_M_load (T_M_load_0 ⟨fun _ => T_M_load_12 ⟨rfl, hP0⟩, fun _ => ⟨fun h => absurd h hy, fun _ => T_M_load_12 ⟨rfl, hP0⟩⟩⟩)
theorem k_M_ring_loop {post : Int32 → gs_S → Prop} {z : Int32} (hp : post z (gs_pI (gs_pA σ 3 (fl32 (σ.1 3) 64 0)) 0 47 0)) : ∀ d i, i + d = 64 → G_M_ring_25 l v n post (gs_pA σ 3 (fl32 (σ.1 3) i 0)) z (nI i) := by
  intro d
  induction d with
  | zero =>
    intro i hi
    refine T_M_ring_25 ⟨fun _ => ?_, fun h => absurd (nI_le (a := 64) (b := i) (by omega) (by omega)) h⟩
    rw [show i = 64 by omega]
    exact hp
  | succ d ih =>
    intro i hi
    refine T_M_ring_25 ⟨fun h => absurd h (nI_ge (a := i) (b := 64) (by omega) (by decide)), fun _ => ⟨vp_in_nI (by omega) (by decide), ?_⟩⟩
    rw [nI_clamp (by omega), pI_pA, fl32_s, nI_1]
    exact ih (i + 1) (by omega)
/-- the worlds after ring(c) -/
def afC_ring (σ : gs_S) (c : Nat) : gs_S := gs_pI (gs_pI (gs_pA (gs_pI σ 10 1 (nI c)) 11 (fl32 (σ.1 11) 64 0)) 37 6 0) 37 8 0
def afM_ring (σ : gs_S) (c : Nat) : gs_S := gs_pI (gs_pA (gs_pI σ 0 7 (nI c)) 3 (fl32 (σ.1 3) 64 0)) 0 47 0
theorem o_ring {c : Nat} (h : rR σ1 σ2 c) (hP0 : Post σ1 σ2) (hP1 : ∀ c', 1 ≤ c' → c' ≤ 64 → Post (afC_ring σ1 c') (afM_ring σ2 c')) : lOi l v1 v2 (n + 4) me_A_ring me_M_ring [.int x] σ1 σ2 Post := by
  obtain ⟨hc1, hc2, e1, e2, -⟩ := h
  refine E_A_ring (T_A_ring_0 ⟨fun hx => T_A_ring_11 ?_, fun hx => ⟨fun hy => ?_, fun hy => T_A_ring_11 ?_⟩⟩)
  · exact E_M_ring (T_M_ring_0 ⟨fun _ => T_M_ring_11 ⟨rfl, hP0⟩, fun h => absurd hx h⟩)
  · obtain ⟨c', h1, h2, rfl⟩ := nI_rng (a := 1) (b := 64) rfl rfl hx hy
    refine k_C_resize (k_H_forget ?_)
    refine E_M_ring (T_M_ring_0 ⟨fun h => absurd h hx, fun _ => ⟨fun _ => ?_, fun h => absurd hy h⟩⟩)
    have hlp := k_M_ring_loop (l := l) (v := v2) (n := n + 3) (σ := gs_pI σ2 0 7 (nI c')) (z := σ2.1 0 7) (post := fun r' σ2' => σ1.1 10 1 = r' ∧ Post (afC_ring σ1 c') σ2') (by
      refine ⟨by rw [e1, e2], ?_⟩
      rw [pI_k (by decide)]
      exact hP1 c' h1 h2) 64 0 (by omega)
    rw [fl32_0, pA_id] at hlp
    exact hlp
  · exact E_M_ring (T_M_ring_0 ⟨fun _ => T_M_ring_11 ⟨rfl, hP0⟩, fun _ => ⟨fun h => absurd h hy, fun _ => T_M_ring_11 ⟨rfl, hP0⟩⟩⟩)
theorem o_get {c : Nat} (h : rR σ1 σ2 c) (hP0 : Post σ1 σ2) : lOi l v1 v2 (n + 2) me_A_get me_M_get [.int x] σ1 σ2 Post := by
  obtain ⟨hc1, hc2, e1, e2, e3⟩ := h
  refine E_A_get (T_A_get_0 (k_C_has (fun h => ⟨fun _ => T_A_get_24 ?_, fun h => absurd rfl h⟩) (fun h1 h2 => ⟨fun h => absurd h (by decide), fun _ => ?_⟩)))
  · rw [e1] at h
    rcases h with h | h
    · exact E_M_get (T_M_get_0 ⟨fun _ => T_M_get_21 (T_M_get_22 ⟨rfl, hP0⟩), fun h' => absurd h h'⟩)
    · exact E_M_get (T_M_get_0 ⟨fun _ => T_M_get_21 (T_M_get_22 ⟨rfl, hP0⟩), fun _ => ⟨fun _ => T_M_get_21 (T_M_get_22 ⟨rfl, hP0⟩), fun h' => absurd (by rw [e2]; exact h) h'⟩⟩)
  · rw [e1] at h2
    obtain ⟨j, hj, rfl⟩ : ∃ j : Nat, j < c ∧ x = nI j := by
      rcases pk_ix x (n := c) (by omega) with h | h | ⟨j, hj, rfl⟩
      · exact absurd h h1
      · exact absurd h h2
      · exact ⟨j, hj, rfl⟩
    refine ⟨vp_in_nI (by omega) (by decide), T_A_get_24 ?_⟩
    refine E_M_get (T_M_get_0 ⟨fun h => absurd h h1, fun _ => ⟨fun h => absurd (by rw [e2] at h; exact h) h2, fun _ => ⟨vp_in_nI (by omega) (by decide), T_M_get_22 ⟨?_, hP0⟩⟩⟩⟩)
    rw [nI_clamp (by omega)]
    exact e3 j (by omega)
/-- rule() of an empty text -/
theorem o_rule0 (e1 : σ1.1 1 2 = 0) (e2 : σ2.1 0 0 = 0) (hP : Post (gs_pI σ1 1 2 0) (gs_pI σ2 0 0 0)) : lOi l v1 v2 (n + 3) me_A_rule me_M_rule [] σ1 σ2 Post := by
  refine E_A_rule (T_A_rule_0 (E_T_readInto (T_T_readInto_0 (E_T_fault (T_T_fault_0 (T_T_fault_2 ⟨fun h => absurd h (by decide), fun _ => ⟨fun _ => T_T_fault_29 ⟨fun _ => T_T_readInto_15 ⟨fun h => absurd h (by decide), fun _ => ?_⟩, fun h => absurd h (by decide)⟩, fun h => absurd (by rw [e1]; decide) h⟩⟩))))))
  refine E_M_rule (T_M_rule_0 (E_M_readAll (T_M_readAll_0 ⟨fun _ => T_M_readAll_30 ⟨fun h => absurd h (by decide), fun _ => ⟨rfl, hP⟩⟩, fun h => absurd (by rw [e2]; decide) h⟩)))
end K1
end
section
theorem p1_step (l : Launch) (v1 v2 : gs_V) {Post : gs_S → gs_S → Prop} (hP : ∀ σ1 σ2, Post σ1 σ2) : lSt l v1 v2 1000 sgC sgM Post := by
  intro x y
  have h1 : sgC.1 4 5 = 0 := rfl
  have h2 : sgM.1 0 2 = 0 := rfl
  have hT : rT sgC sgM 0 (fun _ => 0) := ⟨by decide, rfl, rfl, fun j hj => absurd hj (Nat.not_lt_zero j)⟩
  have hR : rR sgC sgM 1 := ⟨by decide, by decide, rfl, rfl, fun j _ => rfl⟩
  exact ⟨hP _ _, o_load (n := 998) hT (hP _ _) (fun _ _ _ _ => hP _ _), o_rule0 (n := 997) rfl rfl (hP _ _), a_next (n := 999) h1 h2 (hP _ _), o_ring (n := 996) hR (hP _ _) (fun _ _ _ => hP _ _), a_set (n := 999) h1 h2 (hP _ _), o_get (n := 998) hR (hP _ _), a_step (n := 999) h1 h2 (hP _ _), a_population (n := 999) h1 h2 (hP _ _), a_surjective (n := 999) h1 h2 (hP _ _), a_injective (n := 999) h1 h2 (hP _ _), a_inverse (n := 999) h1 h2 (hP _ _), a_undo (n := 999) h1 h2 (hP _ _), a_conserved (n := 999) h1 h2 (hP _ _), a_weight (n := 999) h1 h2 (hP _ _), a_orphan (n := 999) h1 h2 (hP _ _), a_orphanAt (n := 999) h1 h2 (hP _ _), a_before (n := 999) h1 h2 (hP _ _), a_beforeAt (n := 999) h1 h2 (hP _ _), a_ways (n := 999) h1 h2 (hP _ _)⟩
end
section
/-- YOUR PART: from the entry, for every script of at most 3 ints, the law comes to its end with true -/
theorem whole_start {p : Program} {e : Env} {s : State} {m : MethodId} {below : List Frame} {meth : Method} {c : Code} (l : Launch) {b L : Nat} {xs : Nat → Int32} (hL : L ≤ 3) (C0 : lw_At p s m meth c b L xs) : W p l e room_1 s m #[Value.ref b] below meth c s.heap [] 0 0 (lw_Z below #[Value.ref b] s) (entryFrame m ([Value.ref b] : List Value).toArray 4) := by
  refine whole_W (Rel := fun i σ1 σ2 => i = 0 → σ1 = sgC ∧ σ2 = sgM) l (by omega) (fun _ => ⟨rfl, rfl⟩) (fun v1 v2 i σ1 σ2 hi hR => ?_) C0
  obtain ⟨rfl, rfl⟩ := hR (by omega)
  exact p1_step l v1 v2 (fun _ _ h => absurd h (Nat.succ_ne_zero i))
set_option maxHeartbeats 4000000 in
theorem lw_walk (l : Launch) (b : Addr) (xs : List Int32) : MetFree l x (headSpec (Jvm.Cond.code x code maxLocals ret :: tables_1) room_1) (lw_P b xs) (fun _ _ _ _ _ => True) lw_Q := by
  refine MetFree.of_bodyS (code := code) (maxLocals := maxLocals) (ret := ret) (by decide) ?_ ?_
  · intro args s m h hn
    obtain ⟨meth, c, h1, h2, h3, h4, h5, h6, -, -⟩ := Cond.code_spec hn (atoms_spec (ws := Jvm.Cond.code x code maxLocals ret :: tables_1) h _ List.mem_cons_self)
    exact ⟨meth, c, h1, h2, h3, h4, h5, h6⟩
  · intro p e s m args below meth c s₁ B hml0 hP _
    obtain ⟨rfl, hx, hbd, hgv⟩ := hP
    obtain ⟨scr, harrAt, hlist, hof, hsmall⟩ := hx
    obtain ⟨hcb, hkn, -, -⟩ := State.arrayAt?_spec harrAt
    have hown : s.vm.findClass R_law = some m.cls := findClass_of_methodNamed B.named
    have hts0 : ∀ c ∈ (Jvm.Cond.code x code maxLocals ret :: tables_1), c.before #[Value.ref b] s = true := atoms_spec (ws := Jvm.Cond.code x code maxLocals ret :: tables_1) B.pre
    have hts : ∀ w ∈ lw_tbl, w.before #[Value.ref b] s = true := k2_hts_sels lw_privs (fun w hw => hts0 w (List.mem_cons_of_mem _ hw)) lw_privs_ok
    have hml : c.maxLocals = 4 := B.maxLocals_eq (hts0 _ List.mem_cons_self)
    have X₀ : Stand p l e room_1 s m #[Value.ref b] below meth c s₁ [] 0 0 := Stand.of_body B
    have hh0 : s₁.heap = s.heap := by rw [B.state]; rfl
    have hsz : scr.slots.size = xs.length := by rw [← Array.length_toList, hlist, List.length_map]
    have hval : ∀ j : Nat, j < xs.length → scr.slots[j]? = some (.int (xs.getD j 0)) := fun j hj => by
      rw [← Array.getElem?_toList, hlist]
      simp [hj]
    have hbl : b < s.heap.size := (Array.getElem?_eq_some_iff.mp hcb).1
    have hX : va_X b xs.length (fun j => xs.getD j 0) s s.heap := ⟨scr, hcb, hof, hkn, hsz, hval⟩
    have K : W p l e room_1 s m #[Value.ref b] below meth c s₁.heap [] 0 0 (lw_Z below #[Value.ref b] s) (entryFrame m ([Value.ref b] : List Value).toArray 4) := by
      rw [hh0]
      exact whole_start l hbd ⟨B.exec, B.bytes, B.returns, hml, hown, hts, hX, hbl, B.notSynchronized, hgv⟩
    obtain ⟨t, a1, o, b1, b2, b3⟩ := K s₁ rfl X₀
    exact ⟨t, o, a1, b1, b2, b3⟩
theorem lw_pre_spec {args : Array Value} {s : State} (h : (Jvm.Cond.and given_1 narrow_1).before args s = true) (hr : rest_1_c.before args s = true) : ∃ (b : Addr) (xs : List Int32), lw_P b xs args s := by
  have hs := flat_of_before _ h
  have hq := flat_of_before _ hr
  have hc : (Cond.count 1).before args s = true := hs _ (by decide +kernel)
  have harr : (Cond.arrayOf (.arg 0) .int).before args s = true := hs _ (by decide +kernel)
  have hle : (Cond.le (.length (.arg 0)) (.int 3)).before args s = true := hs _ (by decide +kernel)
  have hlen : (Cond.isInt (.length (.arg 0))).before args s = true := hq _ (by decide +kernel)
  have hall : (Cond.all (.arg 0) (.isInt (.elem (.arg 0) (.index 0)))).before args s = true := hq _ (by decide +kernel)
  obtain ⟨b, xs, hb, hx⟩ := State.ints_of_pre rfl harr hlen hall
  have hsm : xs.length < 2 ^ 31 := hx.choose_spec.2.2.2
  have hev : (Term.length (.arg 0)).eval args s none [] s = some (.int xs.length.toInt32) := hx.length_eval hb
  have hv := Cond.le_ints hev (show (Term.int 3).eval args s none [] s = some (.int 3) from rfl)
  have hd : xs.length.toInt32 ≤ 3 := by
    simpa [Cond.before, Cond.holds, hv] using hle
  have hN : xs.length ≤ 3 := (Int32.ofNat_le_ofNat hsm (by decide)).mp (show Int32.ofNat xs.length ≤ Int32.ofNat 3 from hd)
  exact ⟨b, xs, Cond.one_arg hc (show args[0]? = some (.ref b) from hb), hx, hN, h⟩
theorem lw_comes (l : Launch) : Comes l x (Jvm.Cond.code x code maxLocals ret :: tables_1) room_1 (fun tb e args s => Calls_1 tb e args s ∧ rest_1 tb e args s ∧ Pre_1 tb e args s)
    (fun _ _ args s o t => lw_Q args s o t) := by
  intro p e ha hc hk s m args below hf hfit hheap happ hpre
  obtain ⟨b, xs, hP⟩ := lw_pre_spec hpre.2.2 hpre.2.1
  obtain ⟨k, o, h1, h2, h3, hQ⟩ := lw_walk l b xs p e ha hc hk s m args below hf ((Spec.applies_iff_loose hf).mp happ).1 hP trivial
  exact ⟨k, o, h1, h2, h3, hQ⟩
theorem lw_frame {s t : State} {o : Outcome} {args : Array Value} (h : Framed s o t [] 600000 7302250) :
    Framed s o t (fieldLocs frame_1_writes args s ++ arrayLocs frame_1_arrays args s ++ staticLocs frame_1_statics s) 600000 7302250 := h
theorem lw_limb (L : Cond) (hL : ∀ (args : Array Value) (s t : State), L.after args s (.returned (some (.int 1))) t = true) :
    ArmFor flags0 classFile x code maxLocals ret World_1 tables_1 room_1 Calls_1 rest_1 Pre_1
      (fun tb e a s o t => postC L tb e a s o t ∧ Framed s o t (fieldLocs frame_1_writes a s ++ arrayLocs frame_1_arrays a s ++ staticLocs frame_1_statics s) 600000 7302250) := by
  intro l _ _ _ p e ha hc hk s m args below hf hfit hheap happ hpre
  obtain ⟨k, o, h1, h2, h3, rfl, hF⟩ := lw_comes l p e ha hc hk s m args below hf hfit hheap happ hpre
  exact ⟨k, _, h1, h2, h3, hL args s _, lw_frame hF⟩
theorem i_vc : Claimed_1_1 ∧ Claimed_1_2 := ⟨lw_limb limb_1_1 (fun args s t => by simp [limb_1_1, Cond.after, Cond.holds, Cond.value]), lw_limb limb_1_2 (fun args s t => Cond.after_iff.mpr (by
  first | (rw [show limb_1_2 = Cond.eq .result (.int 1) from rfl, Cond.eq_ints (x := 1) (y := 1) rfl rfl]; simp; done) | (simp [limb_1_2, Cond.value, Term.eval]; done)))⟩
end
