section
-- ===== PART A: goes FIRST, ahead of the names: the tables' words, and 'selects' of the private methods out of them =====
/-- a private method of a class that the tables say can be made, by its rows of tables_1 -/
def lw_okq (q : MethodName × Nat) : Prop := (q.1.cls ≠ "java/lang/invoke/MethodHandle" ∧ q.1.cls ≠ "java/lang/invoke/VarHandle") ∧ Cond.instantiable q.1.cls q.2 ∈ tables_1 ∧ Cond.privateMethod q.1 ∈ tables_1 ∧ Cond.instanceMethod q.1 ∈ tables_1
theorem lw_p0 : lw_okq (⟨"LineRules$Text", "fault", "()I"⟩, 9) := ⟨⟨by decide +kernel, by decide +kernel⟩, List.mem_of_getElem? (i := 23) (by decide +kernel), List.mem_of_getElem? (i := 348) (by decide +kernel), List.mem_of_getElem? (i := 349) (by decide +kernel)⟩
theorem lw_p1 : lw_okq (⟨"LineRules$Text", "fitsHead", "(IC)Z"⟩, 9) := ⟨⟨by decide +kernel, by decide +kernel⟩, List.mem_of_getElem? (i := 23) (by decide +kernel), List.mem_of_getElem? (i := 352) (by decide +kernel), List.mem_of_getElem? (i := 353) (by decide +kernel)⟩
theorem lw_p2 : lw_okq (⟨"LineRules$Text", "digitsFault", "(I)I"⟩, 9) := ⟨⟨by decide +kernel, by decide +kernel⟩, List.mem_of_getElem? (i := 23) (by decide +kernel), List.mem_of_getElem? (i := 359) (by decide +kernel), List.mem_of_getElem? (i := 360) (by decide +kernel)⟩
theorem lw_p3 : lw_okq (⟨"LineRules$Text", "valueFor", "(I)I"⟩, 9) := ⟨⟨by decide +kernel, by decide +kernel⟩, List.mem_of_getElem? (i := 23) (by decide +kernel), List.mem_of_getElem? (i := 363) (by decide +kernel), List.mem_of_getElem? (i := 364) (by decide +kernel)⟩
theorem lw_p4 : lw_okq (⟨"LineRules$Text", "choice", "()I"⟩, 9) := ⟨⟨by decide +kernel, by decide +kernel⟩, List.mem_of_getElem? (i := 23) (by decide +kernel), List.mem_of_getElem? (i := 367) (by decide +kernel), List.mem_of_getElem? (i := 368) (by decide +kernel)⟩
theorem lw_p5 : lw_okq (⟨"LineRules$Text", "joined", "(I)I"⟩, 9) := ⟨⟨by decide +kernel, by decide +kernel⟩, List.mem_of_getElem? (i := 23) (by decide +kernel), List.mem_of_getElem? (i := 371) (by decide +kernel), List.mem_of_getElem? (i := 372) (by decide +kernel)⟩
theorem lw_p6 : lw_okq (⟨"LineRules$Text", "part", "()I"⟩, 9) := ⟨⟨by decide +kernel, by decide +kernel⟩, List.mem_of_getElem? (i := 23) (by decide +kernel), List.mem_of_getElem? (i := 375) (by decide +kernel), List.mem_of_getElem? (i := 376) (by decide +kernel)⟩
theorem lw_p7 : lw_okq (⟨"LineRules$Text", "here", "()C"⟩, 9) := ⟨⟨by decide +kernel, by decide +kernel⟩, List.mem_of_getElem? (i := 23) (by decide +kernel), List.mem_of_getElem? (i := 379) (by decide +kernel), List.mem_of_getElem? (i := 380) (by decide +kernel)⟩
theorem lw_p8 : lw_okq (⟨"LineRules$Text", "unturned", "()I"⟩, 9) := ⟨⟨by decide +kernel, by decide +kernel⟩, List.mem_of_getElem? (i := 23) (by decide +kernel), List.mem_of_getElem? (i := 383) (by decide +kernel), List.mem_of_getElem? (i := 384) (by decide +kernel)⟩
theorem lw_p9 : lw_okq (⟨"LineRules$Text", "bracket", "()I"⟩, 9) := ⟨⟨by decide +kernel, by decide +kernel⟩, List.mem_of_getElem? (i := 23) (by decide +kernel), List.mem_of_getElem? (i := 387) (by decide +kernel), List.mem_of_getElem? (i := 388) (by decide +kernel)⟩
theorem lw_p10 : lw_okq (⟨"LineRules$Text", "opens", "()Z"⟩, 9) := ⟨⟨by decide +kernel, by decide +kernel⟩, List.mem_of_getElem? (i := 23) (by decide +kernel), List.mem_of_getElem? (i := 391) (by decide +kernel), List.mem_of_getElem? (i := 392) (by decide +kernel)⟩
theorem lw_p11 : lw_okq (⟨"LineRules$Text", "together", "(ICI)I"⟩, 9) := ⟨⟨by decide +kernel, by decide +kernel⟩, List.mem_of_getElem? (i := 23) (by decide +kernel), List.mem_of_getElem? (i := 398) (by decide +kernel), List.mem_of_getElem? (i := 399) (by decide +kernel)⟩
theorem lw_p12 : lw_okq (⟨"LineRules$Text", "fill", "(LLineRules$Rule;)V"⟩, 9) := ⟨⟨by decide +kernel, by decide +kernel⟩, List.mem_of_getElem? (i := 23) (by decide +kernel), List.mem_of_getElem? (i := 408) (by decide +kernel), List.mem_of_getElem? (i := 409) (by decide +kernel)⟩
theorem lw_p13 : lw_okq (⟨"LineRules$Text", "made", "(I)I"⟩, 9) := ⟨⟨by decide +kernel, by decide +kernel⟩, List.mem_of_getElem? (i := 23) (by decide +kernel), List.mem_of_getElem? (i := 417) (by decide +kernel), List.mem_of_getElem? (i := 418) (by decide +kernel)⟩
theorem lw_p14 : lw_okq (⟨"LineRules$Text", "sumOf", "(I)I"⟩, 9) := ⟨⟨by decide +kernel, by decide +kernel⟩, List.mem_of_getElem? (i := 23) (by decide +kernel), List.mem_of_getElem? (i := 421) (by decide +kernel), List.mem_of_getElem? (i := 422) (by decide +kernel)⟩
theorem lw_p15 : lw_okq (⟨"LineRules$Rule", "enter", "(II)V"⟩, 10) := ⟨⟨by decide +kernel, by decide +kernel⟩, List.mem_of_getElem? (i := 59) (by decide +kernel), List.mem_of_getElem? (i := 432) (by decide +kernel), List.mem_of_getElem? (i := 433) (by decide +kernel)⟩
def lw_privs_1 : List (MethodName × Nat) := [(⟨"LineRules$Text", "fault", "()I"⟩, 9), (⟨"LineRules$Text", "fitsHead", "(IC)Z"⟩, 9), (⟨"LineRules$Text", "digitsFault", "(I)I"⟩, 9), (⟨"LineRules$Text", "valueFor", "(I)I"⟩, 9), (⟨"LineRules$Text", "choice", "()I"⟩, 9), (⟨"LineRules$Text", "joined", "(I)I"⟩, 9), (⟨"LineRules$Text", "part", "()I"⟩, 9), (⟨"LineRules$Text", "here", "()C"⟩, 9), (⟨"LineRules$Text", "unturned", "()I"⟩, 9), (⟨"LineRules$Text", "bracket", "()I"⟩, 9), (⟨"LineRules$Text", "opens", "()Z"⟩, 9), (⟨"LineRules$Text", "together", "(ICI)I"⟩, 9), (⟨"LineRules$Text", "fill", "(LLineRules$Rule;)V"⟩, 9), (⟨"LineRules$Text", "made", "(I)I"⟩, 9), (⟨"LineRules$Text", "sumOf", "(I)I"⟩, 9), (⟨"LineRules$Rule", "enter", "(II)V"⟩, 10)]
theorem lw_r1 : ∀ q ∈ lw_privs_1, lw_okq q := List.forall_mem_cons.mpr ⟨lw_p0, List.forall_mem_cons.mpr ⟨lw_p1, List.forall_mem_cons.mpr ⟨lw_p2, List.forall_mem_cons.mpr ⟨lw_p3, List.forall_mem_cons.mpr ⟨lw_p4, List.forall_mem_cons.mpr ⟨lw_p5, List.forall_mem_cons.mpr ⟨lw_p6, List.forall_mem_cons.mpr ⟨lw_p7, List.forall_mem_cons.mpr ⟨lw_p8, List.forall_mem_cons.mpr ⟨lw_p9, List.forall_mem_cons.mpr ⟨lw_p10, List.forall_mem_cons.mpr ⟨lw_p11, List.forall_mem_cons.mpr ⟨lw_p12, List.forall_mem_cons.mpr ⟨lw_p13, List.forall_mem_cons.mpr ⟨lw_p14, List.forall_mem_cons.mpr ⟨lw_p15, fun _ h => absurd h List.not_mem_nil⟩⟩⟩⟩⟩⟩⟩⟩⟩⟩⟩⟩⟩⟩⟩⟩
theorem lw_p16 : lw_okq (⟨"LineRules$Ring", "stepOnce", "()V"⟩, 5) := ⟨⟨by decide +kernel, by decide +kernel⟩, List.mem_of_getElem? (i := 127) (by decide +kernel), List.mem_of_getElem? (i := 507) (by decide +kernel), List.mem_of_getElem? (i := 508) (by decide +kernel)⟩
theorem lw_p17 : lw_okq (⟨"LineRules$Pairs", "partAndMeet", "()Z"⟩, 7) := ⟨⟨by decide +kernel, by decide +kernel⟩, List.mem_of_getElem? (i := 153) (by decide +kernel), List.mem_of_getElem? (i := 535) (by decide +kernel), List.mem_of_getElem? (i := 536) (by decide +kernel)⟩
theorem lw_p18 : lw_okq (⟨"LineRules$Pairs", "partAt", "(I)V"⟩, 7) := ⟨⟨by decide +kernel, by decide +kernel⟩, List.mem_of_getElem? (i := 153) (by decide +kernel), List.mem_of_getElem? (i := 540) (by decide +kernel), List.mem_of_getElem? (i := 541) (by decide +kernel)⟩
theorem lw_p19 : lw_okq (⟨"LineRules$Pairs", "meetsBehind", "(IJ)Z"⟩, 7) := ⟨⟨by decide +kernel, by decide +kernel⟩, List.mem_of_getElem? (i := 153) (by decide +kernel), List.mem_of_getElem? (i := 546) (by decide +kernel), List.mem_of_getElem? (i := 547) (by decide +kernel)⟩
theorem lw_p20 : lw_okq (⟨"LineRules$Pairs", "stayApart", "()Z"⟩, 7) := ⟨⟨by decide +kernel, by decide +kernel⟩, List.mem_of_getElem? (i := 153) (by decide +kernel), List.mem_of_getElem? (i := 563) (by decide +kernel), List.mem_of_getElem? (i := 564) (by decide +kernel)⟩
theorem lw_p21 : lw_okq (⟨"LineRules$Pairs", "lasting", "(I)J"⟩, 7) := ⟨⟨by decide +kernel, by decide +kernel⟩, List.mem_of_getElem? (i := 153) (by decide +kernel), List.mem_of_getElem? (i := 572) (by decide +kernel), List.mem_of_getElem? (i := 573) (by decide +kernel)⟩
theorem lw_p22 : lw_okq (⟨"LineRules$Inverse", "find", "()V"⟩, 6) := ⟨⟨by decide +kernel, by decide +kernel⟩, List.mem_of_getElem? (i := 181) (by decide +kernel), List.mem_of_getElem? (i := 584) (by decide +kernel), List.mem_of_getElem? (i := 585) (by decide +kernel)⟩
theorem lw_p23 : lw_okq (⟨"LineRules$Inverse", "placesTold", "(I)I"⟩, 6) := ⟨⟨by decide +kernel, by decide +kernel⟩, List.mem_of_getElem? (i := 181) (by decide +kernel), List.mem_of_getElem? (i := 589) (by decide +kernel), List.mem_of_getElem? (i := 590) (by decide +kernel)⟩
theorem lw_p24 : lw_okq (⟨"LineRules$Inverse", "madeOf", "(II)I"⟩, 6) := ⟨⟨by decide +kernel, by decide +kernel⟩, List.mem_of_getElem? (i := 181) (by decide +kernel), List.mem_of_getElem? (i := 595) (by decide +kernel), List.mem_of_getElem? (i := 596) (by decide +kernel)⟩
theorem lw_p25 : lw_okq (⟨"LineRules$Inverse", "samePlaces", "(III)I"⟩, 6) := ⟨⟨by decide +kernel, by decide +kernel⟩, List.mem_of_getElem? (i := 181) (by decide +kernel), List.mem_of_getElem? (i := 599) (by decide +kernel), List.mem_of_getElem? (i := 600) (by decide +kernel)⟩
theorem lw_p26 : lw_okq (⟨"LineRules$Inverse", "takeLeast", "(II)V"⟩, 6) := ⟨⟨by decide +kernel, by decide +kernel⟩, List.mem_of_getElem? (i := 181) (by decide +kernel), List.mem_of_getElem? (i := 603) (by decide +kernel), List.mem_of_getElem? (i := 604) (by decide +kernel)⟩
theorem lw_p27 : lw_okq (⟨"LineRules$Weights", "find", "()V"⟩, 6) := ⟨⟨by decide +kernel, by decide +kernel⟩, List.mem_of_getElem? (i := 206) (by decide +kernel), List.mem_of_getElem? (i := 627) (by decide +kernel), List.mem_of_getElem? (i := 628) (by decide +kernel)⟩
theorem lw_p28 : lw_okq (⟨"LineRules$Weights", "writeEquation", "(I)V"⟩, 6) := ⟨⟨by decide +kernel, by decide +kernel⟩, List.mem_of_getElem? (i := 206) (by decide +kernel), List.mem_of_getElem? (i := 632) (by decide +kernel), List.mem_of_getElem? (i := 633) (by decide +kernel)⟩
theorem lw_p29 : lw_okq (⟨"LineRules$Weights", "addGain", "(II)V"⟩, 6) := ⟨⟨by decide +kernel, by decide +kernel⟩, List.mem_of_getElem? (i := 206) (by decide +kernel), List.mem_of_getElem? (i := 637) (by decide +kernel), List.mem_of_getElem? (i := 638) (by decide +kernel)⟩
theorem lw_p30 : lw_okq (⟨"LineRules$Weights", "tie", "()V"⟩, 6) := ⟨⟨by decide +kernel, by decide +kernel⟩, List.mem_of_getElem? (i := 206) (by decide +kernel), List.mem_of_getElem? (i := 641) (by decide +kernel), List.mem_of_getElem? (i := 642) (by decide +kernel)⟩
theorem lw_p31 : lw_okq (⟨"LineRules$Weights", "shorten", "([J)V"⟩, 6) := ⟨⟨by decide +kernel, by decide +kernel⟩, List.mem_of_getElem? (i := 206) (by decide +kernel), List.mem_of_getElem? (i := 646) (by decide +kernel), List.mem_of_getElem? (i := 647) (by decide +kernel)⟩
def lw_privs_2 : List (MethodName × Nat) := [(⟨"LineRules$Ring", "stepOnce", "()V"⟩, 5), (⟨"LineRules$Pairs", "partAndMeet", "()Z"⟩, 7), (⟨"LineRules$Pairs", "partAt", "(I)V"⟩, 7), (⟨"LineRules$Pairs", "meetsBehind", "(IJ)Z"⟩, 7), (⟨"LineRules$Pairs", "stayApart", "()Z"⟩, 7), (⟨"LineRules$Pairs", "lasting", "(I)J"⟩, 7), (⟨"LineRules$Inverse", "find", "()V"⟩, 6), (⟨"LineRules$Inverse", "placesTold", "(I)I"⟩, 6), (⟨"LineRules$Inverse", "madeOf", "(II)I"⟩, 6), (⟨"LineRules$Inverse", "samePlaces", "(III)I"⟩, 6), (⟨"LineRules$Inverse", "takeLeast", "(II)V"⟩, 6), (⟨"LineRules$Weights", "find", "()V"⟩, 6), (⟨"LineRules$Weights", "writeEquation", "(I)V"⟩, 6), (⟨"LineRules$Weights", "addGain", "(II)V"⟩, 6), (⟨"LineRules$Weights", "tie", "()V"⟩, 6), (⟨"LineRules$Weights", "shorten", "([J)V"⟩, 6)]
theorem lw_r2 : ∀ q ∈ lw_privs_2, lw_okq q := List.forall_mem_cons.mpr ⟨lw_p16, List.forall_mem_cons.mpr ⟨lw_p17, List.forall_mem_cons.mpr ⟨lw_p18, List.forall_mem_cons.mpr ⟨lw_p19, List.forall_mem_cons.mpr ⟨lw_p20, List.forall_mem_cons.mpr ⟨lw_p21, List.forall_mem_cons.mpr ⟨lw_p22, List.forall_mem_cons.mpr ⟨lw_p23, List.forall_mem_cons.mpr ⟨lw_p24, List.forall_mem_cons.mpr ⟨lw_p25, List.forall_mem_cons.mpr ⟨lw_p26, List.forall_mem_cons.mpr ⟨lw_p27, List.forall_mem_cons.mpr ⟨lw_p28, List.forall_mem_cons.mpr ⟨lw_p29, List.forall_mem_cons.mpr ⟨lw_p30, List.forall_mem_cons.mpr ⟨lw_p31, fun _ h => absurd h List.not_mem_nil⟩⟩⟩⟩⟩⟩⟩⟩⟩⟩⟩⟩⟩⟩⟩⟩
theorem lw_p32 : lw_okq (⟨"LineRules$Weights", "writeWeight", "(I[J)V"⟩, 6) := ⟨⟨by decide +kernel, by decide +kernel⟩, List.mem_of_getElem? (i := 206) (by decide +kernel), List.mem_of_getElem? (i := 656) (by decide +kernel), List.mem_of_getElem? (i := 657) (by decide +kernel)⟩
theorem lw_p33 : lw_okq (⟨"LineRules$Orphan", "find", "()V"⟩, 10) := ⟨⟨by decide +kernel, by decide +kernel⟩, List.mem_of_getElem? (i := 233) (by decide +kernel), List.mem_of_getElem? (i := 677) (by decide +kernel), List.mem_of_getElem? (i := 678) (by decide +kernel)⟩
theorem lw_p34 : lw_okq (⟨"LineRules$Orphan", "search", "()I"⟩, 10) := ⟨⟨by decide +kernel, by decide +kernel⟩, List.mem_of_getElem? (i := 233) (by decide +kernel), List.mem_of_getElem? (i := 682) (by decide +kernel), List.mem_of_getElem? (i := 683) (by decide +kernel)⟩
theorem lw_p35 : lw_okq (⟨"LineRules$Orphan", "meet", "(JII)V"⟩, 10) := ⟨⟨by decide +kernel, by decide +kernel⟩, List.mem_of_getElem? (i := 233) (by decide +kernel), List.mem_of_getElem? (i := 687) (by decide +kernel), List.mem_of_getElem? (i := 688) (by decide +kernel)⟩
theorem lw_p36 : lw_okq (⟨"LineRules$Orphan", "spread", "(J)V"⟩, 10) := ⟨⟨by decide +kernel, by decide +kernel⟩, List.mem_of_getElem? (i := 233) (by decide +kernel), List.mem_of_getElem? (i := 691) (by decide +kernel), List.mem_of_getElem? (i := 692) (by decide +kernel)⟩
theorem lw_p37 : lw_okq (⟨"LineRules$Orphan", "write", "(II)I"⟩, 10) := ⟨⟨by decide +kernel, by decide +kernel⟩, List.mem_of_getElem? (i := 233) (by decide +kernel), List.mem_of_getElem? (i := 697) (by decide +kernel), List.mem_of_getElem? (i := 698) (by decide +kernel)⟩
theorem lw_p38 : lw_okq (⟨"LineRules$Past", "find", "()V"⟩, 10) := ⟨⟨by decide +kernel, by decide +kernel⟩, List.mem_of_getElem? (i := 270) (by decide +kernel), List.mem_of_getElem? (i := 717) (by decide +kernel), List.mem_of_getElem? (i := 718) (by decide +kernel)⟩
theorem lw_p39 : lw_okq (⟨"LineRules$Past", "comesBackTo", "(I)Z"⟩, 10) := ⟨⟨by decide +kernel, by decide +kernel⟩, List.mem_of_getElem? (i := 270) (by decide +kernel), List.mem_of_getElem? (i := 721) (by decide +kernel), List.mem_of_getElem? (i := 722) (by decide +kernel)⟩
theorem lw_p40 : lw_okq (⟨"LineRules$Past", "due", "(I)I"⟩, 10) := ⟨⟨by decide +kernel, by decide +kernel⟩, List.mem_of_getElem? (i := 270) (by decide +kernel), List.mem_of_getElem? (i := 725) (by decide +kernel), List.mem_of_getElem? (i := 726) (by decide +kernel)⟩
theorem lw_p41 : lw_okq (⟨"LineRules$Past", "leadingInto", "(JI)J"⟩, 10) := ⟨⟨by decide +kernel, by decide +kernel⟩, List.mem_of_getElem? (i := 270) (by decide +kernel), List.mem_of_getElem? (i := 730) (by decide +kernel), List.mem_of_getElem? (i := 731) (by decide +kernel)⟩
theorem lw_p42 : lw_okq (⟨"LineRules$Past", "trace", "(I)V"⟩, 10) := ⟨⟨by decide +kernel, by decide +kernel⟩, List.mem_of_getElem? (i := 270) (by decide +kernel), List.mem_of_getElem? (i := 735) (by decide +kernel), List.mem_of_getElem? (i := 736) (by decide +kernel)⟩
theorem lw_p43 : lw_okq (⟨"LineRules$Past", "leastCell", "(II)I"⟩, 10) := ⟨⟨by decide +kernel, by decide +kernel⟩, List.mem_of_getElem? (i := 270) (by decide +kernel), List.mem_of_getElem? (i := 739) (by decide +kernel), List.mem_of_getElem? (i := 740) (by decide +kernel)⟩
theorem lw_p44 : lw_okq (⟨"LineRules$Past", "walksBackTo", "(I)J"⟩, 10) := ⟨⟨by decide +kernel, by decide +kernel⟩, List.mem_of_getElem? (i := 270) (by decide +kernel), List.mem_of_getElem? (i := 761) (by decide +kernel), List.mem_of_getElem? (i := 762) (by decide +kernel)⟩
theorem lw_p45 : lw_okq (⟨"LineRules$Past", "goOn", "(I)V"⟩, 10) := ⟨⟨by decide +kernel, by decide +kernel⟩, List.mem_of_getElem? (i := 270) (by decide +kernel), List.mem_of_getElem? (i := 766) (by decide +kernel), List.mem_of_getElem? (i := 767) (by decide +kernel)⟩
theorem lw_p46 : lw_okq (⟨"LineRulesModel", "readAll", "()I"⟩, 54) := ⟨⟨by decide +kernel, by decide +kernel⟩, List.mem_of_getElem? (i := 777) (by decide +kernel), List.mem_of_getElem? (i := 955) (by decide +kernel), List.mem_of_getElem? (i := 956) (by decide +kernel)⟩
theorem lw_p47 : lw_okq (⟨"LineRulesModel", "readRow", "(I)I"⟩, 54) := ⟨⟨by decide +kernel, by decide +kernel⟩, List.mem_of_getElem? (i := 777) (by decide +kernel), List.mem_of_getElem? (i := 962) (by decide +kernel), List.mem_of_getElem? (i := 963) (by decide +kernel)⟩
def lw_privs_3 : List (MethodName × Nat) := [(⟨"LineRules$Weights", "writeWeight", "(I[J)V"⟩, 6), (⟨"LineRules$Orphan", "find", "()V"⟩, 10), (⟨"LineRules$Orphan", "search", "()I"⟩, 10), (⟨"LineRules$Orphan", "meet", "(JII)V"⟩, 10), (⟨"LineRules$Orphan", "spread", "(J)V"⟩, 10), (⟨"LineRules$Orphan", "write", "(II)I"⟩, 10), (⟨"LineRules$Past", "find", "()V"⟩, 10), (⟨"LineRules$Past", "comesBackTo", "(I)Z"⟩, 10), (⟨"LineRules$Past", "due", "(I)I"⟩, 10), (⟨"LineRules$Past", "leadingInto", "(JI)J"⟩, 10), (⟨"LineRules$Past", "trace", "(I)V"⟩, 10), (⟨"LineRules$Past", "leastCell", "(II)I"⟩, 10), (⟨"LineRules$Past", "walksBackTo", "(I)J"⟩, 10), (⟨"LineRules$Past", "goOn", "(I)V"⟩, 10), (⟨"LineRulesModel", "readAll", "()I"⟩, 54), (⟨"LineRulesModel", "readRow", "(I)I"⟩, 54)]
theorem lw_r3 : ∀ q ∈ lw_privs_3, lw_okq q := List.forall_mem_cons.mpr ⟨lw_p32, List.forall_mem_cons.mpr ⟨lw_p33, List.forall_mem_cons.mpr ⟨lw_p34, List.forall_mem_cons.mpr ⟨lw_p35, List.forall_mem_cons.mpr ⟨lw_p36, List.forall_mem_cons.mpr ⟨lw_p37, List.forall_mem_cons.mpr ⟨lw_p38, List.forall_mem_cons.mpr ⟨lw_p39, List.forall_mem_cons.mpr ⟨lw_p40, List.forall_mem_cons.mpr ⟨lw_p41, List.forall_mem_cons.mpr ⟨lw_p42, List.forall_mem_cons.mpr ⟨lw_p43, List.forall_mem_cons.mpr ⟨lw_p44, List.forall_mem_cons.mpr ⟨lw_p45, List.forall_mem_cons.mpr ⟨lw_p46, List.forall_mem_cons.mpr ⟨lw_p47, fun _ h => absurd h List.not_mem_nil⟩⟩⟩⟩⟩⟩⟩⟩⟩⟩⟩⟩⟩⟩⟩⟩
theorem lw_p48 : lw_okq (⟨"LineRulesModel", "work", "(I)I"⟩, 54) := ⟨⟨by decide +kernel, by decide +kernel⟩, List.mem_of_getElem? (i := 777) (by decide +kernel), List.mem_of_getElem? (i := 966) (by decide +kernel), List.mem_of_getElem? (i := 967) (by decide +kernel)⟩
theorem lw_p49 : lw_okq (⟨"LineRulesModel", "fresh", "(I)V"⟩, 54) := ⟨⟨by decide +kernel, by decide +kernel⟩, List.mem_of_getElem? (i := 777) (by decide +kernel), List.mem_of_getElem? (i := 970) (by decide +kernel), List.mem_of_getElem? (i := 971) (by decide +kernel)⟩
theorem lw_p50 : lw_okq (⟨"LineRulesModel", "begins", "(II)Z"⟩, 54) := ⟨⟨by decide +kernel, by decide +kernel⟩, List.mem_of_getElem? (i := 777) (by decide +kernel), List.mem_of_getElem? (i := 974) (by decide +kernel), List.mem_of_getElem? (i := 975) (by decide +kernel)⟩
theorem lw_p51 : lw_okq (⟨"LineRulesModel", "operand", "(I)V"⟩, 54) := ⟨⟨by decide +kernel, by decide +kernel⟩, List.mem_of_getElem? (i := 777) (by decide +kernel), List.mem_of_getElem? (i := 978) (by decide +kernel), List.mem_of_getElem? (i := 979) (by decide +kernel)⟩
theorem lw_p52 : lw_okq (⟨"LineRulesModel", "open", "(II)V"⟩, 54) := ⟨⟨by decide +kernel, by decide +kernel⟩, List.mem_of_getElem? (i := 777) (by decide +kernel), List.mem_of_getElem? (i := 982) (by decide +kernel), List.mem_of_getElem? (i := 983) (by decide +kernel)⟩
theorem lw_p53 : lw_okq (⟨"LineRulesModel", "goesOn", "(I)Z"⟩, 54) := ⟨⟨by decide +kernel, by decide +kernel⟩, List.mem_of_getElem? (i := 777) (by decide +kernel), List.mem_of_getElem? (i := 986) (by decide +kernel), List.mem_of_getElem? (i := 987) (by decide +kernel)⟩
theorem lw_p54 : lw_okq (⟨"LineRulesModel", "endProduct", "()V"⟩, 54) := ⟨⟨by decide +kernel, by decide +kernel⟩, List.mem_of_getElem? (i := 777) (by decide +kernel), List.mem_of_getElem? (i := 990) (by decide +kernel), List.mem_of_getElem? (i := 991) (by decide +kernel)⟩
theorem lw_p55 : lw_okq (⟨"LineRulesModel", "endSum", "()I"⟩, 54) := ⟨⟨by decide +kernel, by decide +kernel⟩, List.mem_of_getElem? (i := 777) (by decide +kernel), List.mem_of_getElem? (i := 994) (by decide +kernel), List.mem_of_getElem? (i := 995) (by decide +kernel)⟩
theorem lw_p56 : lw_okq (⟨"LineRulesModel", "endTest", "()V"⟩, 54) := ⟨⟨by decide +kernel, by decide +kernel⟩, List.mem_of_getElem? (i := 777) (by decide +kernel), List.mem_of_getElem? (i := 998) (by decide +kernel), List.mem_of_getElem? (i := 999) (by decide +kernel)⟩
theorem lw_p57 : lw_okq (⟨"LineRulesModel", "endBoth", "()V"⟩, 54) := ⟨⟨by decide +kernel, by decide +kernel⟩, List.mem_of_getElem? (i := 777) (by decide +kernel), List.mem_of_getElem? (i := 1002) (by decide +kernel), List.mem_of_getElem? (i := 1003) (by decide +kernel)⟩
theorem lw_p58 : lw_okq (⟨"LineRulesModel", "endEither", "()I"⟩, 54) := ⟨⟨by decide +kernel, by decide +kernel⟩, List.mem_of_getElem? (i := 777) (by decide +kernel), List.mem_of_getElem? (i := 1006) (by decide +kernel), List.mem_of_getElem? (i := 1007) (by decide +kernel)⟩
theorem lw_p59 : lw_okq (⟨"LineRulesModel", "endChoice", "()I"⟩, 54) := ⟨⟨by decide +kernel, by decide +kernel⟩, List.mem_of_getElem? (i := 777) (by decide +kernel), List.mem_of_getElem? (i := 1010) (by decide +kernel), List.mem_of_getElem? (i := 1011) (by decide +kernel)⟩
theorem lw_p60 : lw_okq (⟨"LineRulesModel", "turn", "()V"⟩, 54) := ⟨⟨by decide +kernel, by decide +kernel⟩, List.mem_of_getElem? (i := 777) (by decide +kernel), List.mem_of_getElem? (i := 1037) (by decide +kernel), List.mem_of_getElem? (i := 1038) (by decide +kernel)⟩
theorem lw_p61 : lw_okq (⟨"LineRulesModel", "makesAll", "()Z"⟩, 54) := ⟨⟨by decide +kernel, by decide +kernel⟩, List.mem_of_getElem? (i := 777) (by decide +kernel), List.mem_of_getElem? (i := 1049) (by decide +kernel), List.mem_of_getElem? (i := 1050) (by decide +kernel)⟩
theorem lw_p62 : lw_okq (⟨"LineRulesModel", "losesSomewhere", "()Z"⟩, 54) := ⟨⟨by decide +kernel, by decide +kernel⟩, List.mem_of_getElem? (i := 777) (by decide +kernel), List.mem_of_getElem? (i := 1053) (by decide +kernel), List.mem_of_getElem? (i := 1054) (by decide +kernel)⟩
theorem lw_p63 : lw_okq (⟨"LineRulesModel", "comesFrom", "(II)Z"⟩, 54) := ⟨⟨by decide +kernel, by decide +kernel⟩, List.mem_of_getElem? (i := 777) (by decide +kernel), List.mem_of_getElem? (i := 1057) (by decide +kernel), List.mem_of_getElem? (i := 1058) (by decide +kernel)⟩
def lw_privs_4 : List (MethodName × Nat) := [(⟨"LineRulesModel", "work", "(I)I"⟩, 54), (⟨"LineRulesModel", "fresh", "(I)V"⟩, 54), (⟨"LineRulesModel", "begins", "(II)Z"⟩, 54), (⟨"LineRulesModel", "operand", "(I)V"⟩, 54), (⟨"LineRulesModel", "open", "(II)V"⟩, 54), (⟨"LineRulesModel", "goesOn", "(I)Z"⟩, 54), (⟨"LineRulesModel", "endProduct", "()V"⟩, 54), (⟨"LineRulesModel", "endSum", "()I"⟩, 54), (⟨"LineRulesModel", "endTest", "()V"⟩, 54), (⟨"LineRulesModel", "endBoth", "()V"⟩, 54), (⟨"LineRulesModel", "endEither", "()I"⟩, 54), (⟨"LineRulesModel", "endChoice", "()I"⟩, 54), (⟨"LineRulesModel", "turn", "()V"⟩, 54), (⟨"LineRulesModel", "makesAll", "()Z"⟩, 54), (⟨"LineRulesModel", "losesSomewhere", "()Z"⟩, 54), (⟨"LineRulesModel", "comesFrom", "(II)Z"⟩, 54)]
theorem lw_r4 : ∀ q ∈ lw_privs_4, lw_okq q := List.forall_mem_cons.mpr ⟨lw_p48, List.forall_mem_cons.mpr ⟨lw_p49, List.forall_mem_cons.mpr ⟨lw_p50, List.forall_mem_cons.mpr ⟨lw_p51, List.forall_mem_cons.mpr ⟨lw_p52, List.forall_mem_cons.mpr ⟨lw_p53, List.forall_mem_cons.mpr ⟨lw_p54, List.forall_mem_cons.mpr ⟨lw_p55, List.forall_mem_cons.mpr ⟨lw_p56, List.forall_mem_cons.mpr ⟨lw_p57, List.forall_mem_cons.mpr ⟨lw_p58, List.forall_mem_cons.mpr ⟨lw_p59, List.forall_mem_cons.mpr ⟨lw_p60, List.forall_mem_cons.mpr ⟨lw_p61, List.forall_mem_cons.mpr ⟨lw_p62, List.forall_mem_cons.mpr ⟨lw_p63, fun _ h => absurd h List.not_mem_nil⟩⟩⟩⟩⟩⟩⟩⟩⟩⟩⟩⟩⟩⟩⟩⟩
theorem lw_p64 : lw_okq (⟨"LineRulesModel", "leadsOn", "(IIZZ)Z"⟩, 54) := ⟨⟨by decide +kernel, by decide +kernel⟩, List.mem_of_getElem? (i := 777) (by decide +kernel), List.mem_of_getElem? (i := 1061) (by decide +kernel), List.mem_of_getElem? (i := 1062) (by decide +kernel)⟩
theorem lw_p65 : lw_okq (⟨"LineRulesModel", "anyPair", "()Z"⟩, 54) := ⟨⟨by decide +kernel, by decide +kernel⟩, List.mem_of_getElem? (i := 777) (by decide +kernel), List.mem_of_getElem? (i := 1069) (by decide +kernel), List.mem_of_getElem? (i := 1070) (by decide +kernel)⟩
theorem lw_p66 : lw_okq (⟨"LineRulesModel", "findInverse", "()V"⟩, 54) := ⟨⟨by decide +kernel, by decide +kernel⟩, List.mem_of_getElem? (i := 777) (by decide +kernel), List.mem_of_getElem? (i := 1077) (by decide +kernel), List.mem_of_getElem? (i := 1078) (by decide +kernel)⟩
theorem lw_p67 : lw_okq (⟨"LineRulesModel", "tells", "(II)Z"⟩, 54) := ⟨⟨by decide +kernel, by decide +kernel⟩, List.mem_of_getElem? (i := 777) (by decide +kernel), List.mem_of_getElem? (i := 1081) (by decide +kernel), List.mem_of_getElem? (i := 1082) (by decide +kernel)⟩
theorem lw_p68 : lw_okq (⟨"LineRulesModel", "madeOf", "(II)I"⟩, 54) := ⟨⟨by decide +kernel, by decide +kernel⟩, List.mem_of_getElem? (i := 777) (by decide +kernel), List.mem_of_getElem? (i := 1085) (by decide +kernel), List.mem_of_getElem? (i := 1086) (by decide +kernel)⟩
theorem lw_p69 : lw_okq (⟨"LineRulesModel", "findWeights", "()V"⟩, 54) := ⟨⟨by decide +kernel, by decide +kernel⟩, List.mem_of_getElem? (i := 777) (by decide +kernel), List.mem_of_getElem? (i := 1097) (by decide +kernel), List.mem_of_getElem? (i := 1098) (by decide +kernel)⟩
theorem lw_p70 : lw_okq (⟨"LineRulesModel", "equation", "(I)V"⟩, 54) := ⟨⟨by decide +kernel, by decide +kernel⟩, List.mem_of_getElem? (i := 777) (by decide +kernel), List.mem_of_getElem? (i := 1101) (by decide +kernel), List.mem_of_getElem? (i := 1102) (by decide +kernel)⟩
theorem lw_p71 : lw_okq (⟨"LineRulesModel", "keep", "()V"⟩, 54) := ⟨⟨by decide +kernel, by decide +kernel⟩, List.mem_of_getElem? (i := 777) (by decide +kernel), List.mem_of_getElem? (i := 1105) (by decide +kernel), List.mem_of_getElem? (i := 1106) (by decide +kernel)⟩
theorem lw_p72 : lw_okq (⟨"LineRulesModel", "reduce", "(II)V"⟩, 54) := ⟨⟨by decide +kernel, by decide +kernel⟩, List.mem_of_getElem? (i := 777) (by decide +kernel), List.mem_of_getElem? (i := 1109) (by decide +kernel), List.mem_of_getElem? (i := 1110) (by decide +kernel)⟩
theorem lw_p73 : lw_okq (⟨"LineRulesModel", "clearRow", "(I)V"⟩, 54) := ⟨⟨by decide +kernel, by decide +kernel⟩, List.mem_of_getElem? (i := 777) (by decide +kernel), List.mem_of_getElem? (i := 1116) (by decide +kernel), List.mem_of_getElem? (i := 1117) (by decide +kernel)⟩
theorem lw_p74 : lw_okq (⟨"LineRulesModel", "findOrphan", "()V"⟩, 54) := ⟨⟨by decide +kernel, by decide +kernel⟩, List.mem_of_getElem? (i := 777) (by decide +kernel), List.mem_of_getElem? (i := 1128) (by decide +kernel), List.mem_of_getElem? (i := 1129) (by decide +kernel)⟩
theorem lw_p75 : lw_okq (⟨"LineRulesModel", "behind", "(JI)J"⟩, 54) := ⟨⟨by decide +kernel, by decide +kernel⟩, List.mem_of_getElem? (i := 777) (by decide +kernel), List.mem_of_getElem? (i := 1134) (by decide +kernel), List.mem_of_getElem? (i := 1135) (by decide +kernel)⟩
theorem lw_p76 : lw_okq (⟨"LineRulesModel", "spell", "(II)V"⟩, 54) := ⟨⟨by decide +kernel, by decide +kernel⟩, List.mem_of_getElem? (i := 777) (by decide +kernel), List.mem_of_getElem? (i := 1138) (by decide +kernel), List.mem_of_getElem? (i := 1139) (by decide +kernel)⟩
theorem lw_p77 : lw_okq (⟨"LineRulesModel", "findBefore", "()V"⟩, 54) := ⟨⟨by decide +kernel, by decide +kernel⟩, List.mem_of_getElem? (i := 777) (by decide +kernel), List.mem_of_getElem? (i := 1150) (by decide +kernel), List.mem_of_getElem? (i := 1151) (by decide +kernel)⟩
theorem lw_p78 : lw_okq (⟨"LineRulesModel", "lookBack", "(I)V"⟩, 54) := ⟨⟨by decide +kernel, by decide +kernel⟩, List.mem_of_getElem? (i := 777) (by decide +kernel), List.mem_of_getElem? (i := 1154) (by decide +kernel), List.mem_of_getElem? (i := 1155) (by decide +kernel)⟩
theorem lw_p79 : lw_okq (⟨"LineRulesModel", "wanted", "(I)I"⟩, 54) := ⟨⟨by decide +kernel, by decide +kernel⟩, List.mem_of_getElem? (i := 777) (by decide +kernel), List.mem_of_getElem? (i := 1158) (by decide +kernel), List.mem_of_getElem? (i := 1159) (by decide +kernel)⟩
def lw_privs_5 : List (MethodName × Nat) := [(⟨"LineRulesModel", "leadsOn", "(IIZZ)Z"⟩, 54), (⟨"LineRulesModel", "anyPair", "()Z"⟩, 54), (⟨"LineRulesModel", "findInverse", "()V"⟩, 54), (⟨"LineRulesModel", "tells", "(II)Z"⟩, 54), (⟨"LineRulesModel", "madeOf", "(II)I"⟩, 54), (⟨"LineRulesModel", "findWeights", "()V"⟩, 54), (⟨"LineRulesModel", "equation", "(I)V"⟩, 54), (⟨"LineRulesModel", "keep", "()V"⟩, 54), (⟨"LineRulesModel", "reduce", "(II)V"⟩, 54), (⟨"LineRulesModel", "clearRow", "(I)V"⟩, 54), (⟨"LineRulesModel", "findOrphan", "()V"⟩, 54), (⟨"LineRulesModel", "behind", "(JI)J"⟩, 54), (⟨"LineRulesModel", "spell", "(II)V"⟩, 54), (⟨"LineRulesModel", "findBefore", "()V"⟩, 54), (⟨"LineRulesModel", "lookBack", "(I)V"⟩, 54), (⟨"LineRulesModel", "wanted", "(I)I"⟩, 54)]
theorem lw_r5 : ∀ q ∈ lw_privs_5, lw_okq q := List.forall_mem_cons.mpr ⟨lw_p64, List.forall_mem_cons.mpr ⟨lw_p65, List.forall_mem_cons.mpr ⟨lw_p66, List.forall_mem_cons.mpr ⟨lw_p67, List.forall_mem_cons.mpr ⟨lw_p68, List.forall_mem_cons.mpr ⟨lw_p69, List.forall_mem_cons.mpr ⟨lw_p70, List.forall_mem_cons.mpr ⟨lw_p71, List.forall_mem_cons.mpr ⟨lw_p72, List.forall_mem_cons.mpr ⟨lw_p73, List.forall_mem_cons.mpr ⟨lw_p74, List.forall_mem_cons.mpr ⟨lw_p75, List.forall_mem_cons.mpr ⟨lw_p76, List.forall_mem_cons.mpr ⟨lw_p77, List.forall_mem_cons.mpr ⟨lw_p78, List.forall_mem_cons.mpr ⟨lw_p79, fun _ h => absurd h List.not_mem_nil⟩⟩⟩⟩⟩⟩⟩⟩⟩⟩⟩⟩⟩⟩⟩⟩
theorem lw_p80 : lw_okq (⟨"LineRulesModel", "spellRing", "(I)V"⟩, 54) := ⟨⟨by decide +kernel, by decide +kernel⟩, List.mem_of_getElem? (i := 777) (by decide +kernel), List.mem_of_getElem? (i := 1162) (by decide +kernel), List.mem_of_getElem? (i := 1163) (by decide +kernel)⟩
theorem lw_p81 : lw_okq (⟨"LineRulesModel", "waysFrom", "(I)J"⟩, 54) := ⟨⟨by decide +kernel, by decide +kernel⟩, List.mem_of_getElem? (i := 777) (by decide +kernel), List.mem_of_getElem? (i := 1166) (by decide +kernel), List.mem_of_getElem? (i := 1167) (by decide +kernel)⟩
def lw_privs_6 : List (MethodName × Nat) := [(⟨"LineRulesModel", "spellRing", "(I)V"⟩, 54), (⟨"LineRulesModel", "waysFrom", "(I)J"⟩, 54)]
theorem lw_r6 : ∀ q ∈ lw_privs_6, lw_okq q := List.forall_mem_cons.mpr ⟨lw_p80, List.forall_mem_cons.mpr ⟨lw_p81, fun _ h => absurd h List.not_mem_nil⟩⟩
def lw_privs : List (MethodName × Nat) := lw_privs_1 ++ (lw_privs_2 ++ (lw_privs_3 ++ (lw_privs_4 ++ (lw_privs_5 ++ (lw_privs_6)))))
def lw_tbl : List Cond := k2_sels lw_privs ++ tables_1
theorem lw_privs_ok : ∀ q ∈ lw_privs, lw_okq q := by
  show ∀ q ∈ lw_privs_1 ++ (lw_privs_2 ++ (lw_privs_3 ++ (lw_privs_4 ++ (lw_privs_5 ++ (lw_privs_6))))), lw_okq q
  exact List.forall_mem_append.mpr ⟨lw_r1, List.forall_mem_append.mpr ⟨lw_r2, List.forall_mem_append.mpr ⟨lw_r3, List.forall_mem_append.mpr ⟨lw_r4, List.forall_mem_append.mpr ⟨lw_r5, lw_r6⟩⟩⟩⟩⟩
end
section
/-! Java's own operations -/
def jR (x y : Int32) : Int32 := x - x / y * y
def jRL (x y : Int64) : Int64 := x - x / y * y
def jSI (x y : Int32) : Int32 := x <<< (y &&& 31)
def jAI (x y : Int32) : Int32 := x >>> (y &&& 31)
def jU (x : Int64) (y : Int32) : Int64 := (x.toUInt64 >>> (y.toInt64.toUInt64 &&& Int64.toUInt64 63)).toInt64
def jS (x : Int64) (y : Int32) : Int64 := x <<< (y.toInt64 &&& 63)
def jA (x : Int64) (y : Int32) : Int64 := x >>> (y.toInt64 &&& 63)
/-! The judgement that all walks are made with: a world of fixed shape (a layout), its contents a state of numbers. -/
-- a state: ints of an object's fields or an array's elements by (place, index); longs; the places that changing references name
abbrev gs_S : Type := (Nat → Nat → Int32) × (Nat → Nat → Int64) × (Nat → Nat → Nat)
-- a layout: a place is an array (kind, length, first place of its rows) or an object (class number, kinds of its fields)
abbrev gs_L : Type := Nat → (Nat × Nat × Nat) ⊕ (Nat × List Nat)
-- where: class ids and slots; ids of array classes by kind; addresses of places
abbrev gs_V : Type := va_G × (Nat → ClassId) × (Nat → Nat)
-- a method: name, code, locals, return
abbrev gs_M : Type := MethodName × ByteArray × Nat × Option FieldType
def gs_f (v : gs_V) (σ : gs_S) (k j : Nat) (fd : Nat) : Value := match fd with
  | 0 => .int (σ.1 k j)
  | 1 => .long (σ.2.1 k j)
  | 2 => .ref (v.2.2 (σ.2.2 k j))
  | q + 3 => .ref (v.2.2 q)
def gs_fs (v : gs_V) (σ : gs_S) (k : Nat) : Nat → List Nat → List Value
  | _, [] => []
  | j, fd :: r => gs_f v σ k j fd :: gs_fs v σ k (j + 1) r
def gs_a (v : gs_V) (σ : gs_S) (k t n b : Nat) : ClassId × vp_A := match t with
  | 1 => (v.2.1 1, n, .inr (.inl (σ.2.1 k)))
  | 4 => (v.2.1 4, n, .inr (.inr (.inr (.inr (fun i => some (v.2.2 (b + i)))))))
  | t => (v.2.1 t, n, .inl (σ.1 k))
def gs_e (v : gs_V) (ly : gs_L) (σ : gs_S) (k : Nat) : va_E := match ly k with
  | .inl x => .inl (gs_a v σ k x.1 x.2.1 x.2.2)
  | .inr x => .inr (x.1, gs_fs v σ k 0 x.2)
def gs_w (v : gs_V) (ly : gs_L) (N : Nat) (σ : gs_S) : va_W := (List.range N).map (fun k => (v.2.2 k, gs_e v ly σ k))
def gs_t (v : gs_V) : List (ClassId × FieldType) := [(v.2.1 0, .int), (v.2.1 1, .long), (v.2.1 2, .boolean), (v.2.1 3, .char), (v.2.1 4, .array .long)]
def gs_ty (t : Nat) : FieldType := match t with
  | 0 => .int
  | 1 => .long
  | 2 => .boolean
  | 3 => .char
  | _ => .array .long
-- writing
def gs_pI (σ : gs_S) (k j : Nat) (x : Int32) : gs_S := (va_up σ.1 k (upd (σ.1 k) j x), σ.2)
def gs_pL (σ : gs_S) (k j : Nat) (x : Int64) : gs_S := (σ.1, va_up σ.2.1 k (vp_updL (σ.2.1 k) j x), σ.2.2)
def gs_pR (σ : gs_S) (k j : Nat) (x : Nat) : gs_S := (σ.1, σ.2.1, va_up σ.2.2 k (va_up (σ.2.2 k) j x))
def gs_pA (σ : gs_S) (k : Nat) (f : Nat → Int32) : gs_S := (va_up σ.1 k f, σ.2)
def gs_pB (σ : gs_S) (k : Nat) (f : Nat → Int64) : gs_S := (σ.1, va_up σ.2.1 k f, σ.2.2)
theorem gs_w_get {v : gs_V} {ly : gs_L} {N : Nat} {σ : gs_S} {k : Nat} (h : k < N) : (gs_w v ly N σ)[k]? = some (v.2.2 k, gs_e v ly σ k) := by
  simp [gs_w, h]
theorem gs_w_len {v : gs_V} {ly : gs_L} {N : Nat} {σ : gs_S} : (gs_w v ly N σ).length = N := by simp [gs_w]
theorem gs_w_set {v : gs_V} {ly : gs_L} {N : Nat} {σ σ' : gs_S} {k : Nat} {e : va_E} (he : gs_e v ly σ' k = e) (ho : ∀ q, q ≠ k → gs_e v ly σ' q = gs_e v ly σ q) : (gs_w v ly N σ).set k (v.2.2 k, e) = gs_w v ly N σ' := by
  apply List.ext_getElem?
  intro i
  by_cases hi : i < N
  · rw [gs_w_get (σ := σ') hi]
    by_cases hk : i = k
    · subst hk
      rw [List.getElem?_set_self (by rw [gs_w_len]; exact hi), he]
    · rw [List.getElem?_set_ne (Ne.symm hk), gs_w_get hi, ho i hk]
  · rw [List.getElem?_eq_none (by rw [List.length_set, gs_w_len]; omega), List.getElem?_eq_none (by rw [gs_w_len]; omega)]
theorem gs_D {v : gs_V} {ly : gs_L} {N : Nat} {σ σ' : gs_S} {A : Nat → Prop} (h : va_D A (gs_w v ly N σ)) : va_D A (gs_w v ly N σ') := by
  have key : ∀ (i : Nat) (q : Nat × va_E), (gs_w v ly N σ')[i]? = some q → ∃ q0, (gs_w v ly N σ)[i]? = some q0 ∧ q0.1 = q.1 := by
    intro i q hq
    have hi : i < N := by
      have := (List.getElem?_eq_some_iff.mp hq).1
      rwa [gs_w_len] at this
    rw [gs_w_get hi] at hq
    cases hq
    exact ⟨_, gs_w_get hi, rfl⟩
  refine ⟨fun i j x y hi hj hxy => ?_, fun k q hk => ?_⟩
  · obtain ⟨x0, a1, a2⟩ := key i x hi
    obtain ⟨y0, b1, b2⟩ := key j y hj
    exact h.1 i j x0 y0 a1 b1 (a2.trans (hxy.trans b2.symm))
  · obtain ⟨q0, a1, a2⟩ := key k q hk
    rw [← a2]
    exact h.2 k q0 a1
theorem gs_A {v : gs_V} {ly : gs_L} {N : Nat} {σ σ' : gs_S} {sz : Nat} : va_A (gs_w v ly N σ) sz = va_A (gs_w v ly N σ') sz := by
  have key : ∀ (σ σ' : gs_S) (q : Nat), va_A (gs_w v ly N σ) sz q → va_A (gs_w v ly N σ') sz q := by
    intro σ σ' q h
    rcases h with ⟨k, e, h⟩ | h
    · have hi : k < N := by
        have := (List.getElem?_eq_some_iff.mp h).1
        rwa [gs_w_len] at this
      rw [gs_w_get hi] at h
      cases h
      exact Or.inl ⟨k, _, gs_w_get hi⟩
    · exact Or.inr h
  funext q
  exact propext ⟨key σ σ' q, key σ' σ q⟩
theorem gs_up1 {α : Type} {f : Nat → α} {k : Nat} {x : α} : va_up f k x k = x := va_up_self f k x
theorem gs_upn {α : Type} {f : Nat → α} {k q : Nat} {x : α} (h : q ≠ k) : va_up f k x q = f q := va_up_ne f x h
theorem gs_fs_congr {v : gs_V} {σ σ' : gs_S} {k : Nat} (h1 : σ'.1 k = σ.1 k) (h2 : σ'.2.1 k = σ.2.1 k) (h3 : σ'.2.2 k = σ.2.2 k) : ∀ (r : List Nat) (j : Nat), gs_fs v σ' k j r = gs_fs v σ k j r
  | [], _ => rfl
  | fd :: r, j => by
    rw [gs_fs, gs_fs, gs_fs_congr h1 h2 h3 r (j + 1)]
    congr 1
    unfold gs_f
    split
    · rw [h1]
    · rw [h2]
    · rw [h3]
    · rfl
theorem gs_e_congr {v : gs_V} {ly : gs_L} {σ σ' : gs_S} {k : Nat} (h1 : σ'.1 k = σ.1 k) (h2 : σ'.2.1 k = σ.2.1 k) (h3 : σ'.2.2 k = σ.2.2 k) : gs_e v ly σ' k = gs_e v ly σ k := by
  unfold gs_e
  split
  · unfold gs_a
    split
    · rw [h2]
    · rfl
    · rw [h1]
  · rw [gs_fs_congr h1 h2 h3]
theorem gs_fs_get {v : gs_V} {σ : gs_S} {k : Nat} : ∀ (r : List Nat) (j i : Nat) (fd : Nat), r[i]? = some fd → (gs_fs v σ k j r)[i]? = some (gs_f v σ k (j + i) fd)
  | [], _, _, _, h => by simp at h
  | fd :: r, j, 0, fd', h => by simp at h; subst h; simp [gs_fs]
  | fd :: r, j, i + 1, fd', h => by
    simp only [List.getElem?_cons_succ] at h
    rw [gs_fs, List.getElem?_cons_succ, gs_fs_get r (j + 1) i fd' h]
    congr 2
    omega
theorem gs_fs_len {v : gs_V} {σ : gs_S} {k : Nat} : ∀ (r : List Nat) (j : Nat), (gs_fs v σ k j r).length = r.length
  | [], _ => rfl
  | fd :: r, j => by rw [gs_fs, List.length_cons, List.length_cons, gs_fs_len r (j + 1)]
theorem gs_fs_set {v : gs_V} {σ σ' : gs_S} {k : Nat} {r : List Nat} {i fd : Nat} {x : Value} (h : r[i]? = some fd) (hx : gs_f v σ' k i fd = x) (ho : ∀ i' fd', i' ≠ i → r[i']? = some fd' → gs_f v σ' k i' fd' = gs_f v σ k i' fd') : (gs_fs v σ k 0 r).set i x = gs_fs v σ' k 0 r := by
  apply List.ext_getElem?
  intro i'
  cases hr : r[i']? with
  | none =>
    have hl : r.length ≤ i' := List.getElem?_eq_none_iff.mp hr
    rw [List.getElem?_eq_none (by rw [List.length_set, gs_fs_len]; exact hl), List.getElem?_eq_none (by rw [gs_fs_len]; exact hl)]
  | some fd' =>
    rw [gs_fs_get (σ := σ') r 0 i' fd' hr]
    by_cases e : i' = i
    · subst e
      rw [h] at hr
      cases hr
      rw [List.getElem?_set_self (by rw [gs_fs_len]; exact (List.getElem?_eq_some_iff.mp h).1), Nat.zero_add, hx]
    · rw [List.getElem?_set_ne (Ne.symm e), gs_fs_get r 0 i' fd' hr, Nat.zero_add, ho i' fd' e hr]
theorem gs_e_arr {v : gs_V} {ly : gs_L} {σ : gs_S} {k : Nat} {x : Nat × Nat × Nat} (h : ly k = .inl x) : gs_e v ly σ k = .inl (gs_a v σ k x.1 x.2.1 x.2.2) := by
  unfold gs_e
  rw [h]
theorem gs_e_obj {v : gs_V} {ly : gs_L} {σ : gs_S} {k : Nat} {x : Nat × List Nat} (h : ly k = .inr x) : gs_e v ly σ k = .inr (x.1, gs_fs v σ k 0 x.2) := by
  unfold gs_e
  rw [h]
theorem gs_ai {v : gs_V} {ly : gs_L} {N : Nat} {σ : gs_S} {k n b : Nat} (hk : k < N) (h : ly k = .inl (0, n, b)) : (gs_w v ly N σ)[k]? = some (v.2.2 k, .inl (v.2.1 0, n, .inl (σ.1 k))) := by
  rw [gs_w_get hk, gs_e_arr h]; rfl
theorem gs_al {v : gs_V} {ly : gs_L} {N : Nat} {σ : gs_S} {k n b : Nat} (hk : k < N) (h : ly k = .inl (1, n, b)) : (gs_w v ly N σ)[k]? = some (v.2.2 k, .inl (v.2.1 1, n, .inr (.inl (σ.2.1 k)))) := by
  rw [gs_w_get hk, gs_e_arr h]; rfl
theorem gs_az {v : gs_V} {ly : gs_L} {N : Nat} {σ : gs_S} {k n b : Nat} (hk : k < N) (h : ly k = .inl (2, n, b)) : (gs_w v ly N σ)[k]? = some (v.2.2 k, .inl (v.2.1 2, n, .inl (σ.1 k))) := by
  rw [gs_w_get hk, gs_e_arr h]; rfl
theorem gs_ac {v : gs_V} {ly : gs_L} {N : Nat} {σ : gs_S} {k n b : Nat} (hk : k < N) (h : ly k = .inl (3, n, b)) : (gs_w v ly N σ)[k]? = some (v.2.2 k, .inl (v.2.1 3, n, .inl (σ.1 k))) := by
  rw [gs_w_get hk, gs_e_arr h]; rfl
theorem gs_aq {v : gs_V} {ly : gs_L} {N : Nat} {σ : gs_S} {k n b : Nat} (hk : k < N) (h : ly k = .inl (4, n, b)) : (gs_w v ly N σ)[k]? = some (v.2.2 k, .inl (v.2.1 4, n, .inr (.inr (.inr (.inr (fun i => some (v.2.2 (b + i)))))))) := by
  rw [gs_w_get hk, gs_e_arr h]; rfl
theorem gs_ob {v : gs_V} {ly : gs_L} {N : Nat} {σ : gs_S} {k ci : Nat} {fds : List Nat} (hk : k < N) (h : ly k = .inr (ci, fds)) : (gs_w v ly N σ)[k]? = some (v.2.2 k, .inr (ci, gs_fs v σ k 0 fds)) := by
  rw [gs_w_get hk, gs_e_obj h]
-- what writing does to the world
theorem gs_set_A {v : gs_V} {ly : gs_L} {N : Nat} {σ : gs_S} {k t n b : Nat} (h : ly k = .inl (t, n, b)) (h1 : t ≠ 1) (h4 : t ≠ 4) (f : Nat → Int32) : (gs_w v ly N σ).set k (v.2.2 k, .inl (v.2.1 t, n, .inl f)) = gs_w v ly N (gs_pA σ k f) := by
  refine gs_w_set ?_ (fun q hq => ?_)
  · rw [gs_e_arr h]
    show Sum.inl (gs_a v (gs_pA σ k f) k t n b) = _
    unfold gs_a
    split
    · exact absurd rfl h1
    · exact absurd rfl h4
    · show Sum.inl (_, n, Sum.inl (va_up σ.1 k f k)) = _
      rw [gs_up1]
  · exact gs_e_congr (gs_upn hq) rfl rfl
theorem gs_set_B {v : gs_V} {ly : gs_L} {N : Nat} {σ : gs_S} {k n b : Nat} (h : ly k = .inl (1, n, b)) (f : Nat → Int64) : (gs_w v ly N σ).set k (v.2.2 k, .inl (v.2.1 1, n, .inr (.inl f))) = gs_w v ly N (gs_pB σ k f) := by
  refine gs_w_set ?_ (fun q hq => ?_)
  · rw [gs_e_arr h]
    show Sum.inl (_, n, Sum.inr (Sum.inl (va_up σ.2.1 k f k))) = _
    rw [gs_up1]
  · exact gs_e_congr rfl (gs_upn hq) rfl
theorem gs_set_I {v : gs_V} {ly : gs_L} {N : Nat} {σ : gs_S} {k ci j : Nat} {fds : List Nat} (h : ly k = .inr (ci, fds)) (hj : fds[j]? = some 0) (x : Int32) : (gs_w v ly N σ).set k (v.2.2 k, .inr (ci, (gs_fs v σ k 0 fds).set j (.int x))) = gs_w v ly N (gs_pI σ k j x) := by
  refine gs_w_set ?_ (fun q hq => ?_)
  · rw [gs_e_obj h]
    congr 2
    refine (gs_fs_set hj ?_ (fun i fd hi _ => ?_)).symm
    · show Value.int (va_up σ.1 k (upd (σ.1 k) j x) k j) = _
      rw [gs_up1, pk_us]
    · unfold gs_f
      split
      · show Value.int (va_up σ.1 k (upd (σ.1 k) j x) k i) = _
        rw [gs_up1, pk_un hi]
      · rfl
      · rfl
      · rfl
  · exact gs_e_congr (gs_upn hq) rfl rfl
theorem gs_set_J {v : gs_V} {ly : gs_L} {N : Nat} {σ : gs_S} {k ci j : Nat} {fds : List Nat} (h : ly k = .inr (ci, fds)) (hj : fds[j]? = some 1) (x : Int64) : (gs_w v ly N σ).set k (v.2.2 k, .inr (ci, (gs_fs v σ k 0 fds).set j (.long x))) = gs_w v ly N (gs_pL σ k j x) := by
  refine gs_w_set ?_ (fun q hq => ?_)
  · rw [gs_e_obj h]
    congr 2
    refine (gs_fs_set hj ?_ (fun i fd hi _ => ?_)).symm
    · show Value.long (va_up σ.2.1 k (vp_updL (σ.2.1 k) j x) k j) = _
      rw [gs_up1, pk_uLs]
    · unfold gs_f
      split
      · rfl
      · show Value.long (va_up σ.2.1 k (vp_updL (σ.2.1 k) j x) k i) = _
        rw [gs_up1, pk_uLn hi]
      · rfl
      · rfl
  · exact gs_e_congr rfl (gs_upn hq) rfl
theorem gs_set_R {v : gs_V} {ly : gs_L} {N : Nat} {σ : gs_S} {k ci j : Nat} {fds : List Nat} (h : ly k = .inr (ci, fds)) (hj : fds[j]? = some 2) (x : Nat) : (gs_w v ly N σ).set k (v.2.2 k, .inr (ci, (gs_fs v σ k 0 fds).set j (.ref (v.2.2 x)))) = gs_w v ly N (gs_pR σ k j x) := by
  refine gs_w_set ?_ (fun q hq => ?_)
  · rw [gs_e_obj h]
    congr 2
    refine (gs_fs_set hj ?_ (fun i fd hi _ => ?_)).symm
    · show Value.ref (v.2.2 (va_up σ.2.2 k (va_up (σ.2.2 k) j x) k j)) = _
      rw [gs_up1, gs_up1]
    · unfold gs_f
      split
      · rfl
      · rfl
      · show Value.ref (v.2.2 (va_up σ.2.2 k (va_up (σ.2.2 k) j x) k i)) = _
        rw [gs_up1, gs_upn hi]
      · rfl
  · exact gs_e_congr rfl rfl (gs_upn hq)
end
section
/-! names, words and layouts, written by program out of the claim (wip/whole/mkall.py) -/
def TX0 : u_T := fun k => match k with
  | 0 => ("LineRules", "text", "LLineRules$Text;", true)
  | 1 => ("LineRules", "current", "LLineRules$Rule;", true)
  | 2 => ("LineRules", "circle", "LLineRules$Ring;", true)
  | 3 => ("LineRules", "pairs", "LLineRules$Pairs;", true)
  | 4 => ("LineRules", "reverse", "LLineRules$Inverse;", true)
  | 5 => ("LineRules", "weights", "LLineRules$Weights;", true)
  | 6 => ("LineRules", "missing", "LLineRules$Orphan;", true)
  | _ => ("LineRules", "past", "LLineRules$Past;", true)
def tyX0 : Nat → FieldType := fun k => match k with
  | 0 => (.object "LineRules$Text")
  | 1 => (.object "LineRules$Rule")
  | 2 => (.object "LineRules$Ring")
  | 3 => (.object "LineRules$Pairs")
  | 4 => (.object "LineRules$Inverse")
  | 5 => (.object "LineRules$Weights")
  | 6 => (.object "LineRules$Orphan")
  | _ => (.object "LineRules$Past")
theorem nmX0 : ∀ a, a < 8 → ∀ b, b < 8 → a ≠ b → (TX0 a).2.1 ≠ (TX0 b).2.1 := by decide +kernel
theorem tyX0_ok : ∀ k, k < 8 → parseFieldDescriptor (TX0 k).2.2.1 = some (tyX0 k) := by decide +kernel
def TX1 : u_T := fun k => match k with
  | 0 => ("LineRules$Text", "characters", "[C", true)
  | 1 => ("LineRules$Text", "letters", "[I", true)
  | 2 => ("LineRules$Text", "length", "I", false)
  | 3 => ("LineRules$Text", "states", "I", false)
  | 4 => ("LineRules$Text", "width", "I", false)
  | 5 => ("LineRules$Text", "kind", "C", false)
  | 6 => ("LineRules$Text", "place", "I", false)
  | 7 => ("LineRules$Text", "open", "I", false)
  | _ => ("LineRules$Text", "faulty", "Z", false)
def tyX1 : Nat → FieldType := fun k => match k with
  | 0 => (.array .char)
  | 1 => (.array .int)
  | 2 => .int
  | 3 => .int
  | 4 => .int
  | 5 => .char
  | 6 => .int
  | 7 => .int
  | _ => .boolean
theorem nmX1 : ∀ a, a < 9 → ∀ b, b < 9 → a ≠ b → (TX1 a).2.1 ≠ (TX1 b).2.1 := by decide +kernel
theorem tyX1_ok : ∀ k, k < 9 → parseFieldDescriptor (TX1 k).2.2.1 = some (tyX1 k) := by decide +kernel
def TX2 : u_T := fun k => match k with
  | 0 => ("LineRules$Rule", "table", "[I", true)
  | 1 => ("LineRules$Rule", "followers", "[J", true)
  | 2 => ("LineRules$Rule", "starts", "[I", true)
  | 3 => ("LineRules$Rule", "ends", "[I", true)
  | 4 => ("LineRules$Rule", "sorted", "[I", true)
  | 5 => ("LineRules$Rule", "present", "Z", false)
  | 6 => ("LineRules$Rule", "states", "I", false)
  | 7 => ("LineRules$Rule", "width", "I", false)
  | 8 => ("LineRules$Rule", "windows", "I", false)
  | _ => ("LineRules$Rule", "nodes", "I", false)
def tyX2 : Nat → FieldType := fun k => match k with
  | 0 => (.array .int)
  | 1 => (.array .long)
  | 2 => (.array .int)
  | 3 => (.array .int)
  | 4 => (.array .int)
  | 5 => .boolean
  | 6 => .int
  | 7 => .int
  | 8 => .int
  | _ => .int
theorem nmX2 : ∀ a, a < 10 → ∀ b, b < 10 → a ≠ b → (TX2 a).2.1 ≠ (TX2 b).2.1 := by decide +kernel
theorem tyX2_ok : ∀ k, k < 10 → parseFieldDescriptor (TX2 k).2.2.1 = some (tyX2 k) := by decide +kernel
def TX3 : u_T := fun k => match k with
  | 0 => ("LineRules$Ring", "row", "[I", true)
  | 1 => ("LineRules$Ring", "count", "I", false)
  | 2 => ("LineRules$Ring", "rule", "LLineRules$Rule;", true)
  | 3 => ("LineRules$Ring", "made", "[I", true)
  | _ => ("LineRules$Ring", "old", "[I", true)
def tyX3 : Nat → FieldType := fun k => match k with
  | 0 => (.array .int)
  | 1 => .int
  | 2 => (.object "LineRules$Rule")
  | 3 => (.array .int)
  | _ => (.array .int)
theorem nmX3 : ∀ a, a < 5 → ∀ b, b < 5 → a ≠ b → (TX3 a).2.1 ≠ (TX3 b).2.1 := by decide +kernel
theorem tyX3_ok : ∀ k, k < 5 → parseFieldDescriptor (TX3 k).2.2.1 = some (tyX3 k) := by decide +kernel
def TX4 : u_T := fun k => match k with
  | 0 => ("LineRules$Pairs", "rule", "LLineRules$Rule;", true)
  | 1 => ("LineRules$Pairs", "met", "[J", true)
  | 2 => ("LineRules$Pairs", "done", "[J", true)
  | 3 => ("LineRules$Pairs", "missKnown", "Z", false)
  | 4 => ("LineRules$Pairs", "surjective", "Z", false)
  | 5 => ("LineRules$Pairs", "lossKnown", "Z", false)
  | _ => ("LineRules$Pairs", "injective", "Z", false)
def tyX4 : Nat → FieldType := fun k => match k with
  | 0 => (.object "LineRules$Rule")
  | 1 => (.array .long)
  | 2 => (.array .long)
  | 3 => .boolean
  | 4 => .boolean
  | 5 => .boolean
  | _ => .boolean
theorem nmX4 : ∀ a, a < 7 → ∀ b, b < 7 → a ≠ b → (TX4 a).2.1 ≠ (TX4 b).2.1 := by decide +kernel
theorem tyX4_ok : ∀ k, k < 7 → parseFieldDescriptor (TX4 k).2.2.1 = some (tyX4 k) := by decide +kernel
def TX5 : u_T := fun k => match k with
  | 0 => ("LineRules$Inverse", "rule", "LLineRules$Rule;", true)
  | 1 => ("LineRules$Inverse", "pairs", "LLineRules$Pairs;", true)
  | 2 => ("LineRules$Inverse", "origin", "[I", true)
  | 3 => ("LineRules$Inverse", "known", "Z", false)
  | 4 => ("LineRules$Inverse", "foundWidth", "I", false)
  | _ => ("LineRules$Inverse", "foundPlace", "I", false)
def tyX5 : Nat → FieldType := fun k => match k with
  | 0 => (.object "LineRules$Rule")
  | 1 => (.object "LineRules$Pairs")
  | 2 => (.array .int)
  | 3 => .boolean
  | 4 => .int
  | _ => .int
theorem nmX5 : ∀ a, a < 6 → ∀ b, b < 6 → a ≠ b → (TX5 a).2.1 ≠ (TX5 b).2.1 := by decide +kernel
theorem tyX5_ok : ∀ k, k < 6 → parseFieldDescriptor (TX5 k).2.2.1 = some (tyX5 k) := by decide +kernel
def TX6 : u_T := fun k => match k with
  | 0 => ("LineRules$Weights", "rule", "LLineRules$Rule;", true)
  | 1 => ("LineRules$Weights", "ties", "[[J", true)
  | 2 => ("LineRules$Weights", "basis", "[[J", true)
  | 3 => ("LineRules$Weights", "equation", "[J", true)
  | 4 => ("LineRules$Weights", "known", "Z", false)
  | _ => ("LineRules$Weights", "found", "I", false)
def tyX6 : Nat → FieldType := fun k => match k with
  | 0 => (.object "LineRules$Rule")
  | 1 => (.array (.array .long))
  | 2 => (.array (.array .long))
  | 3 => (.array .long)
  | 4 => .boolean
  | _ => .int
theorem nmX6 : ∀ a, a < 6 → ∀ b, b < 6 → a ≠ b → (TX6 a).2.1 ≠ (TX6 b).2.1 := by decide +kernel
theorem tyX6_ok : ∀ k, k < 6 → parseFieldDescriptor (TX6 k).2.2.1 = some (tyX6 k) := by decide +kernel
def TX7 : u_T := fun k => match k with
  | 0 => ("LineRules$Orphan", "rule", "LLineRules$Rule;", true)
  | 1 => ("LineRules$Orphan", "pairs", "LLineRules$Pairs;", true)
  | 2 => ("LineRules$Orphan", "sets", "[J", true)
  | 3 => ("LineRules$Orphan", "source", "[I", true)
  | 4 => ("LineRules$Orphan", "reason", "[I", true)
  | 5 => ("LineRules$Orphan", "ends", "[J", true)
  | 6 => ("LineRules$Orphan", "row", "[I", true)
  | 7 => ("LineRules$Orphan", "met", "I", false)
  | 8 => ("LineRules$Orphan", "known", "Z", false)
  | _ => ("LineRules$Orphan", "found", "I", false)
def tyX7 : Nat → FieldType := fun k => match k with
  | 0 => (.object "LineRules$Rule")
  | 1 => (.object "LineRules$Pairs")
  | 2 => (.array .long)
  | 3 => (.array .int)
  | 4 => (.array .int)
  | 5 => (.array .long)
  | 6 => (.array .int)
  | 7 => .int
  | 8 => .boolean
  | _ => .int
theorem nmX7 : ∀ a, a < 10 → ∀ b, b < 10 → a ≠ b → (TX7 a).2.1 ≠ (TX7 b).2.1 := by decide +kernel
theorem tyX7_ok : ∀ k, k < 10 → parseFieldDescriptor (TX7 k).2.2.1 = some (tyX7 k) := by decide +kernel
def TX8 : u_T := fun k => match k with
  | 0 => ("LineRules$Past", "rule", "LLineRules$Rule;", true)
  | 1 => ("LineRules$Past", "ring", "LLineRules$Ring;", true)
  | 2 => ("LineRules$Past", "open", "[J", true)
  | 3 => ("LineRules$Past", "least", "[I", true)
  | 4 => ("LineRules$Past", "counts", "[J", false)
  | 5 => ("LineRules$Past", "later", "[J", false)
  | 6 => ("LineRules$Past", "known", "Z", false)
  | 7 => ("LineRules$Past", "found", "Z", false)
  | 8 => ("LineRules$Past", "counted", "Z", false)
  | _ => ("LineRules$Past", "total", "J", false)
def tyX8 : Nat → FieldType := fun k => match k with
  | 0 => (.object "LineRules$Rule")
  | 1 => (.object "LineRules$Ring")
  | 2 => (.array .long)
  | 3 => (.array .int)
  | 4 => (.array .long)
  | 5 => (.array .long)
  | 6 => .boolean
  | 7 => .boolean
  | 8 => .boolean
  | _ => .long
theorem nmX8 : ∀ a, a < 10 → ∀ b, b < 10 → a ≠ b → (TX8 a).2.1 ≠ (TX8 b).2.1 := by decide +kernel
theorem tyX8_ok : ∀ k, k < 10 → parseFieldDescriptor (TX8 k).2.2.1 = some (tyX8 k) := by decide +kernel
def TX9 : u_T := fun k => match k with
  | 0 => ("LineRulesModel", "size", "I", false)
  | 1 => ("LineRulesModel", "text", "[I", true)
  | 2 => ("LineRulesModel", "k", "I", false)
  | 3 => ("LineRulesModel", "w", "I", false)
  | 4 => ("LineRulesModel", "blocks", "I", false)
  | 5 => ("LineRulesModel", "all", "I", false)
  | 6 => ("LineRulesModel", "table", "[I", true)
  | 7 => ("LineRulesModel", "cells", "I", false)
  | 8 => ("LineRulesModel", "ring", "[I", true)
  | 9 => ("LineRulesModel", "turned", "[I", true)
  | 10 => ("LineRulesModel", "readK", "I", false)
  | 11 => ("LineRulesModel", "readW", "I", false)
  | 12 => ("LineRulesModel", "fault", "I", false)
  | 13 => ("LineRulesModel", "level", "I", false)
  | 14 => ("LineRulesModel", "kinds", "[I", true)
  | 15 => ("LineRulesModel", "conditions", "[I", true)
  | 16 => ("LineRulesModel", "firsts", "[I", true)
  | 17 => ("LineRulesModel", "nots", "[I", true)
  | 18 => ("LineRulesModel", "products", "[I", true)
  | 19 => ("LineRulesModel", "hasProduct", "[Z", true)
  | 20 => ("LineRulesModel", "sums", "[I", true)
  | 21 => ("LineRulesModel", "sumBy", "[I", true)
  | 22 => ("LineRulesModel", "lefts", "[I", true)
  | 23 => ("LineRulesModel", "compares", "[I", true)
  | 24 => ("LineRulesModel", "boths", "[I", true)
  | 25 => ("LineRulesModel", "hasBoth", "[Z", true)
  | 26 => ("LineRulesModel", "eithers", "[I", true)
  | 27 => ("LineRulesModel", "hasEither", "[Z", true)
  | 28 => ("LineRulesModel", "isSurjective", "I", false)
  | 29 => ("LineRulesModel", "isInjective", "I", false)
  | 30 => ("LineRulesModel", "marked", "[Z", true)
  | 31 => ("LineRulesModel", "knowsInverse", "Z", false)
  | 32 => ("LineRulesModel", "inverseWidth", "I", false)
  | 33 => ("LineRulesModel", "inversePlace", "I", false)
  | 34 => ("LineRulesModel", "undone", "[I", true)
  | 35 => ("LineRulesModel", "knowsWeights", "Z", false)
  | 36 => ("LineRulesModel", "weights", "I", false)
  | 37 => ("LineRulesModel", "weightAt", "[I", true)
  | 38 => ("LineRulesModel", "hasRow", "[Z", true)
  | 39 => ("LineRulesModel", "rows", "[J", true)
  | 40 => ("LineRulesModel", "row", "[J", true)
  | 41 => ("LineRulesModel", "knowsOrphan", "Z", false)
  | 42 => ("LineRulesModel", "orphanSize", "I", false)
  | 43 => ("LineRulesModel", "orphanCells", "[I", true)
  | 44 => ("LineRulesModel", "sets", "[J", true)
  | 45 => ("LineRulesModel", "setFrom", "[I", true)
  | 46 => ("LineRulesModel", "setBy", "[I", true)
  | 47 => ("LineRulesModel", "knowsBefore", "Z", false)
  | 48 => ("LineRulesModel", "hasBefore", "Z", false)
  | 49 => ("LineRulesModel", "rings", "J", false)
  | 50 => ("LineRulesModel", "least", "[I", true)
  | 51 => ("LineRulesModel", "counts", "[J", true)
  | 52 => ("LineRulesModel", "later", "[J", true)
  | _ => ("LineRulesModel", "can", "[J", true)
def tyX9 : Nat → FieldType := fun k => match k with
  | 0 => .int
  | 1 => (.array .int)
  | 2 => .int
  | 3 => .int
  | 4 => .int
  | 5 => .int
  | 6 => (.array .int)
  | 7 => .int
  | 8 => (.array .int)
  | 9 => (.array .int)
  | 10 => .int
  | 11 => .int
  | 12 => .int
  | 13 => .int
  | 14 => (.array .int)
  | 15 => (.array .int)
  | 16 => (.array .int)
  | 17 => (.array .int)
  | 18 => (.array .int)
  | 19 => (.array .boolean)
  | 20 => (.array .int)
  | 21 => (.array .int)
  | 22 => (.array .int)
  | 23 => (.array .int)
  | 24 => (.array .int)
  | 25 => (.array .boolean)
  | 26 => (.array .int)
  | 27 => (.array .boolean)
  | 28 => .int
  | 29 => .int
  | 30 => (.array .boolean)
  | 31 => .boolean
  | 32 => .int
  | 33 => .int
  | 34 => (.array .int)
  | 35 => .boolean
  | 36 => .int
  | 37 => (.array .int)
  | 38 => (.array .boolean)
  | 39 => (.array .long)
  | 40 => (.array .long)
  | 41 => .boolean
  | 42 => .int
  | 43 => (.array .int)
  | 44 => (.array .long)
  | 45 => (.array .int)
  | 46 => (.array .int)
  | 47 => .boolean
  | 48 => .boolean
  | 49 => .long
  | 50 => (.array .int)
  | 51 => (.array .long)
  | 52 => (.array .long)
  | _ => (.array .long)
theorem nmX9 : ∀ a, a < 54 → ∀ b, b < 54 → a ≠ b → (TX9 a).2.1 ≠ (TX9 b).2.1 := by decide +kernel
theorem tyX9_ok : ∀ k, k < 54 → parseFieldDescriptor (TX9 k).2.2.1 = some (tyX9 k) := by decide +kernel
abbrev vwCl : List vw_C := [("LineRules", TX0, 8), ("LineRules$Text", TX1, 9), ("LineRules$Rule", TX2, 10), ("LineRules$Ring", TX3, 5), ("LineRules$Pairs", TX4, 7), ("LineRules$Inverse", TX5, 6), ("LineRules$Weights", TX6, 6), ("LineRules$Orphan", TX7, 10), ("LineRules$Past", TX8, 10), ("LineRulesModel", TX9, 54)]
def gw : List Cond := lw_tbl.filter goodWord
theorem gw_good : ∀ w ∈ gw, (w.onTables && w.keeps) = true ∨ ∃ ty, w = .arrayClass ty := fun w h => good_of_word (List.mem_filter.mp h).2
theorem gw_lw : ∀ w ∈ gw, w ∈ lw_tbl := fun w h => (List.mem_filter.mp h).1
theorem gw_of {w : Cond} (h : w ∈ tables_1) (hg : goodWord w = true) : w ∈ gw := List.mem_filter.mpr ⟨List.mem_append_right _ h, hg⟩
theorem gw_t1 {w : Cond} (h : w ∈ tables_1_1) (hg : goodWord w = true) : w ∈ gw := gw_of (show w ∈ tables_1 from (List.mem_append_left _ h)) hg
theorem gw_t2 {w : Cond} (h : w ∈ tables_1_2) (hg : goodWord w = true) : w ∈ gw := gw_of (show w ∈ tables_1 from (List.mem_append_right _ (List.mem_append_left _ h))) hg
theorem gw_t3 {w : Cond} (h : w ∈ tables_1_3) (hg : goodWord w = true) : w ∈ gw := gw_of (show w ∈ tables_1 from (List.mem_append_right _ (List.mem_append_right _ (List.mem_append_left _ h)))) hg
theorem gw_t4 {w : Cond} (h : w ∈ tables_1_4) (hg : goodWord w = true) : w ∈ gw := gw_of (show w ∈ tables_1 from (List.mem_append_right _ (List.mem_append_right _ (List.mem_append_right _ (List.mem_append_left _ h))))) hg
theorem gw_t5 {w : Cond} (h : w ∈ tables_1_5) (hg : goodWord w = true) : w ∈ gw := gw_of (show w ∈ tables_1 from (List.mem_append_right _ (List.mem_append_right _ (List.mem_append_right _ (List.mem_append_right _ h))))) hg
theorem gw_s {q : MethodName × Nat} (h : q ∈ lw_privs) (hg : goodWord (Cond.selects q.1.cls q.1 q.1) = true) : Cond.selects q.1.cls q.1 q.1 ∈ gw := List.mem_filter.mpr ⟨List.mem_append_left _ (List.mem_map.mpr ⟨q, h, rfl⟩), hg⟩
def gw_n : List (String × Nat × MethodName × String) := [("LineRules", 9, ⟨"LineRules$Text", "<init>", "()V"⟩, "LineRules"), ("LineRules", 18, ⟨"LineRules$Rule", "<init>", "()V"⟩, "LineRules"), ("LineRules$Text", 55, ⟨"LineRules", "power", "(II)I"⟩, "LineRules"), ("LineRules$Rule", 45, ⟨"LineRules", "power", "(II)I"⟩, "LineRules"), ("LineRules$Inverse", 42, ⟨"LineRules", "power", "(II)I"⟩, "LineRules")]
theorem gw_nt : ∀ q ∈ gw_n, Cond.methodLinkNest q.1 q.2.1 q.2.2.1 q.2.2.2 ∈ tables_1 := List.forall_mem_cons.mpr ⟨(show Cond.methodLinkNest "LineRules" 9 ⟨"LineRules$Text", "<init>", "()V"⟩ "LineRules" ∈ tables_1 from (List.mem_append_left _ (List.mem_of_getElem? (i := 24) rfl))), List.forall_mem_cons.mpr ⟨(show Cond.methodLinkNest "LineRules" 18 ⟨"LineRules$Rule", "<init>", "()V"⟩ "LineRules" ∈ tables_1 from (List.mem_append_left _ (List.mem_of_getElem? (i := 60) rfl))), List.forall_mem_cons.mpr ⟨(show Cond.methodLinkNest "LineRules$Text" 55 ⟨"LineRules", "power", "(II)I"⟩ "LineRules" ∈ tables_1 from (List.mem_append_right _ (List.mem_append_left _ (List.mem_of_getElem? (i := 115) rfl)))), List.forall_mem_cons.mpr ⟨(show Cond.methodLinkNest "LineRules$Rule" 45 ⟨"LineRules", "power", "(II)I"⟩ "LineRules" ∈ tables_1 from (List.mem_append_right _ (List.mem_append_left _ (List.mem_of_getElem? (i := 175) rfl)))), List.forall_mem_cons.mpr ⟨(show Cond.methodLinkNest "LineRules$Inverse" 42 ⟨"LineRules", "power", "(II)I"⟩ "LineRules" ∈ tables_1 from (List.mem_append_right _ (List.mem_append_right _ (List.mem_append_left _ (List.mem_of_getElem? (i := 113) rfl))))), fun _ h => absurd h List.not_mem_nil⟩⟩⟩⟩⟩
set_option maxRecDepth 20000 in
theorem inX0 : ∀ w ∈ u_ws "LineRules" TX0 8, w ∈ gw := by
  show ∀ w ∈ List.map (u_lay "LineRules" TX0) [0, 1, 2, 3, 4, 5, 6, 7], w ∈ gw
  exact List.forall_mem_cons.mpr ⟨(gw_t2 (List.mem_of_getElem? (i := 74) rfl) rfl), List.forall_mem_cons.mpr ⟨(gw_t2 (List.mem_of_getElem? (i := 76) rfl) rfl), List.forall_mem_cons.mpr ⟨(gw_t2 (List.mem_of_getElem? (i := 78) rfl) rfl), List.forall_mem_cons.mpr ⟨(gw_t2 (List.mem_of_getElem? (i := 80) rfl) rfl), List.forall_mem_cons.mpr ⟨(gw_t2 (List.mem_of_getElem? (i := 82) rfl) rfl), List.forall_mem_cons.mpr ⟨(gw_t2 (List.mem_of_getElem? (i := 84) rfl) rfl), List.forall_mem_cons.mpr ⟨(gw_t2 (List.mem_of_getElem? (i := 86) rfl) rfl), List.forall_mem_cons.mpr ⟨(gw_t2 (List.mem_of_getElem? (i := 88) rfl) rfl), fun _ h => absurd h List.not_mem_nil⟩⟩⟩⟩⟩⟩⟩⟩
set_option maxRecDepth 20000 in
theorem inX1 : ∀ w ∈ u_ws "LineRules$Text" TX1 9, w ∈ gw := by
  show ∀ w ∈ List.map (u_lay "LineRules$Text" TX1) [0, 1, 2, 3, 4, 5, 6, 7, 8], w ∈ gw
  exact List.forall_mem_cons.mpr ⟨(gw_t1 (List.mem_of_getElem? (i := 37) rfl) rfl), List.forall_mem_cons.mpr ⟨(gw_t1 (List.mem_of_getElem? (i := 39) rfl) rfl), List.forall_mem_cons.mpr ⟨(gw_t1 (List.mem_of_getElem? (i := 41) rfl) rfl), List.forall_mem_cons.mpr ⟨(gw_t1 (List.mem_of_getElem? (i := 43) rfl) rfl), List.forall_mem_cons.mpr ⟨(gw_t1 (List.mem_of_getElem? (i := 45) rfl) rfl), List.forall_mem_cons.mpr ⟨(gw_t1 (List.mem_of_getElem? (i := 47) rfl) rfl), List.forall_mem_cons.mpr ⟨(gw_t1 (List.mem_of_getElem? (i := 49) rfl) rfl), List.forall_mem_cons.mpr ⟨(gw_t1 (List.mem_of_getElem? (i := 51) rfl) rfl), List.forall_mem_cons.mpr ⟨(gw_t1 (List.mem_of_getElem? (i := 53) rfl) rfl), fun _ h => absurd h List.not_mem_nil⟩⟩⟩⟩⟩⟩⟩⟩⟩
set_option maxRecDepth 20000 in
theorem inX2 : ∀ w ∈ u_ws "LineRules$Rule" TX2 10, w ∈ gw := by
  show ∀ w ∈ List.map (u_lay "LineRules$Rule" TX2) [0, 1, 2, 3, 4, 5, 6, 7, 8, 9], w ∈ gw
  exact List.forall_mem_cons.mpr ⟨(gw_t1 (List.mem_of_getElem? (i := 104) rfl) rfl), List.forall_mem_cons.mpr ⟨(gw_t1 (List.mem_of_getElem? (i := 106) rfl) rfl), List.forall_mem_cons.mpr ⟨(gw_t1 (List.mem_of_getElem? (i := 108) rfl) rfl), List.forall_mem_cons.mpr ⟨(gw_t1 (List.mem_of_getElem? (i := 110) rfl) rfl), List.forall_mem_cons.mpr ⟨(gw_t1 (List.mem_of_getElem? (i := 112) rfl) rfl), List.forall_mem_cons.mpr ⟨(gw_t1 (List.mem_of_getElem? (i := 114) rfl) rfl), List.forall_mem_cons.mpr ⟨(gw_t1 (List.mem_of_getElem? (i := 116) rfl) rfl), List.forall_mem_cons.mpr ⟨(gw_t1 (List.mem_of_getElem? (i := 118) rfl) rfl), List.forall_mem_cons.mpr ⟨(gw_t1 (List.mem_of_getElem? (i := 120) rfl) rfl), List.forall_mem_cons.mpr ⟨(gw_t1 (List.mem_of_getElem? (i := 122) rfl) rfl), fun _ h => absurd h List.not_mem_nil⟩⟩⟩⟩⟩⟩⟩⟩⟩⟩
set_option maxRecDepth 20000 in
theorem inX3 : ∀ w ∈ u_ws "LineRules$Ring" TX3 5, w ∈ gw := by
  show ∀ w ∈ List.map (u_lay "LineRules$Ring" TX3) [0, 1, 2, 3, 4], w ∈ gw
  exact List.forall_mem_cons.mpr ⟨(gw_t1 (List.mem_of_getElem? (i := 141) rfl) rfl), List.forall_mem_cons.mpr ⟨(gw_t1 (List.mem_of_getElem? (i := 143) rfl) rfl), List.forall_mem_cons.mpr ⟨(gw_t1 (List.mem_of_getElem? (i := 145) rfl) rfl), List.forall_mem_cons.mpr ⟨(gw_t1 (List.mem_of_getElem? (i := 147) rfl) rfl), List.forall_mem_cons.mpr ⟨(gw_t1 (List.mem_of_getElem? (i := 149) rfl) rfl), fun _ h => absurd h List.not_mem_nil⟩⟩⟩⟩⟩
set_option maxRecDepth 20000 in
theorem inX4 : ∀ w ∈ u_ws "LineRules$Pairs" TX4 7, w ∈ gw := by
  show ∀ w ∈ List.map (u_lay "LineRules$Pairs" TX4) [0, 1, 2, 3, 4, 5, 6], w ∈ gw
  exact List.forall_mem_cons.mpr ⟨(gw_t1 (List.mem_of_getElem? (i := 165) rfl) rfl), List.forall_mem_cons.mpr ⟨(gw_t1 (List.mem_of_getElem? (i := 167) rfl) rfl), List.forall_mem_cons.mpr ⟨(gw_t1 (List.mem_of_getElem? (i := 169) rfl) rfl), List.forall_mem_cons.mpr ⟨(gw_t1 (List.mem_of_getElem? (i := 171) rfl) rfl), List.forall_mem_cons.mpr ⟨(gw_t1 (List.mem_of_getElem? (i := 173) rfl) rfl), List.forall_mem_cons.mpr ⟨(gw_t1 (List.mem_of_getElem? (i := 175) rfl) rfl), List.forall_mem_cons.mpr ⟨(gw_t1 (List.mem_of_getElem? (i := 177) rfl) rfl), fun _ h => absurd h List.not_mem_nil⟩⟩⟩⟩⟩⟩⟩
set_option maxRecDepth 20000 in
theorem inX5 : ∀ w ∈ u_ws "LineRules$Inverse" TX5 6, w ∈ gw := by
  show ∀ w ∈ List.map (u_lay "LineRules$Inverse" TX5) [0, 1, 2, 3, 4, 5], w ∈ gw
  exact List.forall_mem_cons.mpr ⟨(gw_t1 (List.mem_of_getElem? (i := 192) rfl) rfl), List.forall_mem_cons.mpr ⟨(gw_t1 (List.mem_of_getElem? (i := 194) rfl) rfl), List.forall_mem_cons.mpr ⟨(gw_t1 (List.mem_of_getElem? (i := 196) rfl) rfl), List.forall_mem_cons.mpr ⟨(gw_t1 (List.mem_of_getElem? (i := 198) rfl) rfl), List.forall_mem_cons.mpr ⟨(gw_t1 (List.mem_of_getElem? (i := 200) rfl) rfl), List.forall_mem_cons.mpr ⟨(gw_t1 (List.mem_of_getElem? (i := 202) rfl) rfl), fun _ h => absurd h List.not_mem_nil⟩⟩⟩⟩⟩⟩
set_option maxRecDepth 20000 in
theorem inX6 : ∀ w ∈ u_ws "LineRules$Weights" TX6 6, w ∈ gw := by
  show ∀ w ∈ List.map (u_lay "LineRules$Weights" TX6) [0, 1, 2, 3, 4, 5], w ∈ gw
  exact List.forall_mem_cons.mpr ⟨(gw_t1 (List.mem_of_getElem? (i := 219) rfl) rfl), List.forall_mem_cons.mpr ⟨(gw_t1 (List.mem_of_getElem? (i := 221) rfl) rfl), List.forall_mem_cons.mpr ⟨(gw_t1 (List.mem_of_getElem? (i := 223) rfl) rfl), List.forall_mem_cons.mpr ⟨(gw_t1 (List.mem_of_getElem? (i := 225) rfl) rfl), List.forall_mem_cons.mpr ⟨(gw_t1 (List.mem_of_getElem? (i := 227) rfl) rfl), List.forall_mem_cons.mpr ⟨(gw_t1 (List.mem_of_getElem? (i := 229) rfl) rfl), fun _ h => absurd h List.not_mem_nil⟩⟩⟩⟩⟩⟩
set_option maxRecDepth 20000 in
theorem inX7 : ∀ w ∈ u_ws "LineRules$Orphan" TX7 10, w ∈ gw := by
  show ∀ w ∈ List.map (u_lay "LineRules$Orphan" TX7) [0, 1, 2, 3, 4, 5, 6, 7, 8, 9], w ∈ gw
  exact List.forall_mem_cons.mpr ⟨(gw_t2 (List.mem_of_getElem? (i := 8) rfl) rfl), List.forall_mem_cons.mpr ⟨(gw_t2 (List.mem_of_getElem? (i := 10) rfl) rfl), List.forall_mem_cons.mpr ⟨(gw_t2 (List.mem_of_getElem? (i := 12) rfl) rfl), List.forall_mem_cons.mpr ⟨(gw_t2 (List.mem_of_getElem? (i := 14) rfl) rfl), List.forall_mem_cons.mpr ⟨(gw_t2 (List.mem_of_getElem? (i := 16) rfl) rfl), List.forall_mem_cons.mpr ⟨(gw_t2 (List.mem_of_getElem? (i := 18) rfl) rfl), List.forall_mem_cons.mpr ⟨(gw_t2 (List.mem_of_getElem? (i := 20) rfl) rfl), List.forall_mem_cons.mpr ⟨(gw_t2 (List.mem_of_getElem? (i := 22) rfl) rfl), List.forall_mem_cons.mpr ⟨(gw_t2 (List.mem_of_getElem? (i := 24) rfl) rfl), List.forall_mem_cons.mpr ⟨(gw_t2 (List.mem_of_getElem? (i := 26) rfl) rfl), fun _ h => absurd h List.not_mem_nil⟩⟩⟩⟩⟩⟩⟩⟩⟩⟩
set_option maxRecDepth 20000 in
theorem inX8 : ∀ w ∈ u_ws "LineRules$Past" TX8 10, w ∈ gw := by
  show ∀ w ∈ List.map (u_lay "LineRules$Past" TX8) [0, 1, 2, 3, 4, 5, 6, 7, 8, 9], w ∈ gw
  exact List.forall_mem_cons.mpr ⟨(gw_t2 (List.mem_of_getElem? (i := 45) rfl) rfl), List.forall_mem_cons.mpr ⟨(gw_t2 (List.mem_of_getElem? (i := 47) rfl) rfl), List.forall_mem_cons.mpr ⟨(gw_t2 (List.mem_of_getElem? (i := 49) rfl) rfl), List.forall_mem_cons.mpr ⟨(gw_t2 (List.mem_of_getElem? (i := 51) rfl) rfl), List.forall_mem_cons.mpr ⟨(gw_t2 (List.mem_of_getElem? (i := 53) rfl) rfl), List.forall_mem_cons.mpr ⟨(gw_t2 (List.mem_of_getElem? (i := 55) rfl) rfl), List.forall_mem_cons.mpr ⟨(gw_t2 (List.mem_of_getElem? (i := 57) rfl) rfl), List.forall_mem_cons.mpr ⟨(gw_t2 (List.mem_of_getElem? (i := 59) rfl) rfl), List.forall_mem_cons.mpr ⟨(gw_t2 (List.mem_of_getElem? (i := 61) rfl) rfl), List.forall_mem_cons.mpr ⟨(gw_t2 (List.mem_of_getElem? (i := 63) rfl) rfl), fun _ h => absurd h List.not_mem_nil⟩⟩⟩⟩⟩⟩⟩⟩⟩⟩
set_option maxRecDepth 20000 in
theorem inX9 : ∀ w ∈ u_ws "LineRulesModel" TX9 54, w ∈ gw := by
  show ∀ w ∈ List.map (u_lay "LineRulesModel" TX9) [0, 1, 2, 3, 4, 5, 6, 7, 8, 9, 10, 11, 12, 13, 14, 15, 16, 17, 18, 19, 20, 21, 22, 23, 24, 25, 26, 27, 28, 29, 30, 31, 32, 33, 34, 35, 36, 37, 38, 39, 40, 41, 42, 43, 44, 45, 46, 47, 48, 49, 50, 51, 52, 53], w ∈ gw
  exact List.forall_mem_cons.mpr ⟨(gw_t4 (List.mem_of_getElem? (i := 116) rfl) rfl), List.forall_mem_cons.mpr ⟨(gw_t4 (List.mem_of_getElem? (i := 118) rfl) rfl), List.forall_mem_cons.mpr ⟨(gw_t4 (List.mem_of_getElem? (i := 120) rfl) rfl), List.forall_mem_cons.mpr ⟨(gw_t4 (List.mem_of_getElem? (i := 122) rfl) rfl), List.forall_mem_cons.mpr ⟨(gw_t4 (List.mem_of_getElem? (i := 124) rfl) rfl), List.forall_mem_cons.mpr ⟨(gw_t4 (List.mem_of_getElem? (i := 126) rfl) rfl), List.forall_mem_cons.mpr ⟨(gw_t4 (List.mem_of_getElem? (i := 128) rfl) rfl), List.forall_mem_cons.mpr ⟨(gw_t4 (List.mem_of_getElem? (i := 130) rfl) rfl), List.forall_mem_cons.mpr ⟨(gw_t4 (List.mem_of_getElem? (i := 132) rfl) rfl), List.forall_mem_cons.mpr ⟨(gw_t4 (List.mem_of_getElem? (i := 134) rfl) rfl), List.forall_mem_cons.mpr ⟨(gw_t4 (List.mem_of_getElem? (i := 136) rfl) rfl), List.forall_mem_cons.mpr ⟨(gw_t4 (List.mem_of_getElem? (i := 138) rfl) rfl), List.forall_mem_cons.mpr ⟨(gw_t4 (List.mem_of_getElem? (i := 140) rfl) rfl), List.forall_mem_cons.mpr ⟨(gw_t4 (List.mem_of_getElem? (i := 142) rfl) rfl), List.forall_mem_cons.mpr ⟨(gw_t4 (List.mem_of_getElem? (i := 144) rfl) rfl), List.forall_mem_cons.mpr ⟨(gw_t4 (List.mem_of_getElem? (i := 146) rfl) rfl), List.forall_mem_cons.mpr ⟨(gw_t4 (List.mem_of_getElem? (i := 148) rfl) rfl), List.forall_mem_cons.mpr ⟨(gw_t4 (List.mem_of_getElem? (i := 150) rfl) rfl), List.forall_mem_cons.mpr ⟨(gw_t4 (List.mem_of_getElem? (i := 152) rfl) rfl), List.forall_mem_cons.mpr ⟨(gw_t4 (List.mem_of_getElem? (i := 154) rfl) rfl), List.forall_mem_cons.mpr ⟨(gw_t4 (List.mem_of_getElem? (i := 156) rfl) rfl), List.forall_mem_cons.mpr ⟨(gw_t4 (List.mem_of_getElem? (i := 158) rfl) rfl), List.forall_mem_cons.mpr ⟨(gw_t4 (List.mem_of_getElem? (i := 160) rfl) rfl), List.forall_mem_cons.mpr ⟨(gw_t4 (List.mem_of_getElem? (i := 162) rfl) rfl), List.forall_mem_cons.mpr ⟨(gw_t4 (List.mem_of_getElem? (i := 164) rfl) rfl), List.forall_mem_cons.mpr ⟨(gw_t4 (List.mem_of_getElem? (i := 166) rfl) rfl), List.forall_mem_cons.mpr ⟨(gw_t4 (List.mem_of_getElem? (i := 168) rfl) rfl), List.forall_mem_cons.mpr ⟨(gw_t4 (List.mem_of_getElem? (i := 170) rfl) rfl), List.forall_mem_cons.mpr ⟨(gw_t4 (List.mem_of_getElem? (i := 172) rfl) rfl), List.forall_mem_cons.mpr ⟨(gw_t4 (List.mem_of_getElem? (i := 174) rfl) rfl), List.forall_mem_cons.mpr ⟨(gw_t4 (List.mem_of_getElem? (i := 176) rfl) rfl), List.forall_mem_cons.mpr ⟨(gw_t4 (List.mem_of_getElem? (i := 178) rfl) rfl), List.forall_mem_cons.mpr ⟨(gw_t4 (List.mem_of_getElem? (i := 180) rfl) rfl), List.forall_mem_cons.mpr ⟨(gw_t4 (List.mem_of_getElem? (i := 182) rfl) rfl), List.forall_mem_cons.mpr ⟨(gw_t4 (List.mem_of_getElem? (i := 184) rfl) rfl), List.forall_mem_cons.mpr ⟨(gw_t4 (List.mem_of_getElem? (i := 186) rfl) rfl), List.forall_mem_cons.mpr ⟨(gw_t4 (List.mem_of_getElem? (i := 188) rfl) rfl), List.forall_mem_cons.mpr ⟨(gw_t4 (List.mem_of_getElem? (i := 190) rfl) rfl), List.forall_mem_cons.mpr ⟨(gw_t4 (List.mem_of_getElem? (i := 192) rfl) rfl), List.forall_mem_cons.mpr ⟨(gw_t4 (List.mem_of_getElem? (i := 194) rfl) rfl), List.forall_mem_cons.mpr ⟨(gw_t4 (List.mem_of_getElem? (i := 196) rfl) rfl), List.forall_mem_cons.mpr ⟨(gw_t4 (List.mem_of_getElem? (i := 198) rfl) rfl), List.forall_mem_cons.mpr ⟨(gw_t4 (List.mem_of_getElem? (i := 200) rfl) rfl), List.forall_mem_cons.mpr ⟨(gw_t4 (List.mem_of_getElem? (i := 202) rfl) rfl), List.forall_mem_cons.mpr ⟨(gw_t4 (List.mem_of_getElem? (i := 204) rfl) rfl), List.forall_mem_cons.mpr ⟨(gw_t4 (List.mem_of_getElem? (i := 206) rfl) rfl), List.forall_mem_cons.mpr ⟨(gw_t4 (List.mem_of_getElem? (i := 208) rfl) rfl), List.forall_mem_cons.mpr ⟨(gw_t4 (List.mem_of_getElem? (i := 210) rfl) rfl), List.forall_mem_cons.mpr ⟨(gw_t4 (List.mem_of_getElem? (i := 212) rfl) rfl), List.forall_mem_cons.mpr ⟨(gw_t4 (List.mem_of_getElem? (i := 214) rfl) rfl), List.forall_mem_cons.mpr ⟨(gw_t4 (List.mem_of_getElem? (i := 216) rfl) rfl), List.forall_mem_cons.mpr ⟨(gw_t4 (List.mem_of_getElem? (i := 218) rfl) rfl), List.forall_mem_cons.mpr ⟨(gw_t4 (List.mem_of_getElem? (i := 220) rfl) rfl), List.forall_mem_cons.mpr ⟨(gw_t4 (List.mem_of_getElem? (i := 222) rfl) rfl), fun _ h => absurd h List.not_mem_nil⟩⟩⟩⟩⟩⟩⟩⟩⟩⟩⟩⟩⟩⟩⟩⟩⟩⟩⟩⟩⟩⟩⟩⟩⟩⟩⟩⟩⟩⟩⟩⟩⟩⟩⟩⟩⟩⟩⟩⟩⟩⟩⟩⟩⟩⟩⟩⟩⟩⟩⟩⟩⟩⟩
theorem gw_cpn : Cond.native arraycopyName ∈ gw := (gw_t3 (List.mem_of_getElem? (i := 25) rfl) rfl)
theorem gw_cps : Cond.static arraycopyName ∈ gw := (gw_t3 (List.mem_of_getElem? (i := 24) rfl) rfl)
theorem gw_cpi : Cond.initialized "java/lang/System" ∈ gw := (gw_t1 (List.mem_of_getElem? (i := 13) rfl) rfl)
end
section
theorem g_cmp_eq {x y : Int64} : lg_cmp x y = 0 ↔ x = y := by
  unfold lg_cmp
  split
  · rename_i h
    exact ⟨fun z => absurd z (by decide), fun z => absurd h (by rw [z]; exact Int64.lt_irrefl)⟩
  · split
    · rename_i h
      exact ⟨fun _ => h, fun _ => rfl⟩
    · rename_i h
      exact ⟨fun z => absurd z (by decide), fun z => absurd z h⟩
theorem g_cmp_tri (x y : Int64) : (x < y ∧ lg_cmp x y = -1) ∨ (x = y ∧ lg_cmp x y = 0) ∨ (y < x ∧ lg_cmp x y = 1) := by
  by_cases h1 : y < x
  · exact Or.inr (Or.inr ⟨h1, by simp [lg_cmp, h1]⟩)
  · by_cases h2 : x = y
    · exact Or.inr (Or.inl ⟨h2, by subst h2; simp [lg_cmp]⟩)
    · refine Or.inl ⟨?_, by simp [lg_cmp, h1, h2]⟩
      rw [Int64.lt_iff_toInt_lt] at h1 ⊢
      have h3 : ¬ x.toInt = y.toInt := fun q => h2 (Int64.toInt_inj.mp q)
      omega
theorem g_cmp_lt {x y : Int64} : lg_cmp x y < 0 ↔ x < y := by
  rcases g_cmp_tri x y with ⟨h, e⟩ | ⟨h, e⟩ | ⟨h, e⟩ <;> rw [e] <;> rw [Int64.lt_iff_toInt_lt] at * <;> (try subst h) <;> (try simp) <;> (try decide) <;> omega
theorem g_cmp_ge {x y : Int64} : 0 ≤ lg_cmp x y ↔ y ≤ x := by
  rcases g_cmp_tri x y with ⟨h, e⟩ | ⟨h, e⟩ | ⟨h, e⟩ <;> rw [e] <;> (try subst h) <;> simp [Int64.le_iff_toInt_le, Int64.lt_iff_toInt_lt] at * <;> (try decide) <;> omega
theorem g_cmp_gt {x y : Int64} : 0 < lg_cmp x y ↔ y < x := by
  rcases g_cmp_tri x y with ⟨h, e⟩ | ⟨h, e⟩ | ⟨h, e⟩ <;> rw [e] <;> (try subst h) <;> simp [Int64.le_iff_toInt_le, Int64.lt_iff_toInt_lt] at * <;> (try decide) <;> omega
theorem g_cmp_le {x y : Int64} : lg_cmp x y ≤ 0 ↔ x ≤ y := by
  rcases g_cmp_tri x y with ⟨h, e⟩ | ⟨h, e⟩ | ⟨h, e⟩ <;> rw [e] <;> (try subst h) <;> simp [Int64.le_iff_toInt_le, Int64.lt_iff_toInt_lt] at * <;> (try decide) <;> omega
theorem g_lit {k len : Nat} (h : k < len) (hl : len < 2 ^ 31) : vp_in (Int32.ofNat k) len := vp_in_nI h hl
/-! The judgement gG: at this frame, with this world, the method comes to its end. gM: the contract of a call. -/
def gr_r (n : Nat) : Room := { frames := n, cells := 0, slots := 0, locals := 40 * n }
def gs_K (v : gs_V) (U : State) : Prop := va_K v.1 vwCl (gs_t v) U ∧ ∀ q ∈ gw_n, va_Nw (.methodLinkNest q.1 q.2.1 q.2.2.1 q.2.2.2) U
theorem gs_K_warm {v : gs_V} {s U : State} (hW : s.WarmedH U.vm) (h : gs_K v s) : gs_K v U := ⟨va_K.moved hW.alike h.1, fun q hq => va_Nw.warmM hW (h.2 q hq)⟩
theorem gs_K_same {v : gs_V} {s U : State} (hW : s.vm = U.vm) (h : gs_K v s) : gs_K v U := ⟨va_K.moved (by rw [hW]; exact Vm.Alike.refl U.vm) h.1, fun q hq => va_Nw.same rfl hW (h.2 q hq)⟩
def gs_P (v : gs_V) (ly : gs_L) (N : Nat) (σ : gs_S) (sz : Nat) (U : State) : Prop := U.heap.size = sz ∧ va_P v.1 vwCl (gs_w v ly N σ) U.heap ∧ gs_K v U ∧ va_D (fun _ => True) (gs_w v ly N σ)
abbrev gs_Q : Type := (Nat → Prop) → Array Value → State → Outcome → State → Prop
def qI (v : gs_V) (ly : gs_L) (N : Nat) (post : Int32 → gs_S → Prop) : gs_Q := fun A => va_Qi post (fun σ t => va_P v.1 vwCl (gs_w v ly N σ) t.heap) A
def qL (v : gs_V) (ly : gs_L) (N : Nat) (post : Int64 → gs_S → Prop) : gs_Q := fun A => va_Ql post (fun σ t => va_P v.1 vwCl (gs_w v ly N σ) t.heap) A
def qV (v : gs_V) (ly : gs_L) (N : Nat) (post : gs_S → Prop) : gs_Q := fun A => va_Qv post (fun σ t => va_P v.1 vwCl (gs_w v ly N σ) t.heap) A
abbrev gs_h (me : gs_M) : Cond := Cond.code me.1 me.2.1 me.2.2.1 me.2.2.2
def gM (l : Launch) (v : gs_V) (ly : gs_L) (N : Nat) (me : gs_M) (n : Nat) (av : List Value) (σ : gs_S) (Qf : gs_Q) : Prop := ∀ sz : Nat, Met l me.1 (gs_h me :: gw) (gr_r n) (va_Pc av (gs_P v ly N σ sz)) (Qf (va_A (gs_w v ly N σ) sz)) 0 0 (va_A (gs_w v ly N σ) sz)
def gC (v : gs_V) (ly : gs_L) (N : Nat) (me : gs_M) (p : Program) (s : State) (m : MethodId) (args : Array Value) (meth : Method) (c : Code) (A : Nat → Prop) : Prop :=
  p.tables.exec = Jvm.exec ∧ c.code = me.2.1 ∧ c.maxLocals = me.2.2.1 ∧ s.vm.findClass me.1.cls = some m.cls ∧ (∀ w ∈ gw, w.before args s = true) ∧ gs_K v s ∧ (∀ σ, va_D A (gs_w v ly N σ)) ∧ (∀ q, s.heap.size ≤ q → A q) ∧ meth.sig.returnType = me.2.2.2 ∧ meth.locks = false
def gG (l : Launch) (v : gs_V) (ly : gs_L) (N : Nat) (me : gs_M) (n : Nat) (Qf : gs_Q) (pc : Nat) (L : List (Nat × Value)) (st : List Value) (σ : gs_S) : Prop :=
  ∀ (p : Program) (e : Env) (s : State) (m : MethodId) (args : Array Value) (below : List Frame) (meth : Method) (c : Code) (A : Nat → Prop), gC v ly N me p s m args meth c A →
  ∀ (ls : Array Slot) (H : Heap) (locs : List Loc), lv_has ls me.2.2.1 L → va_P v.1 vwCl (gs_w v ly N σ) H → va_S A s.heap H locs →
  W p l e (gr_r (n + 1)) s m args below meth c H locs 0 0 (MQ below (Qf A) args s 0 0 A) (F0 m pc ls st)
section GR
variable {l : Launch} {v : gs_V} {ly : gs_L} {N : Nat} {me : gs_M} {n : Nat} {Qf : gs_Q} {pc : Nat} {L : List (Nat × Value)} {st rest : List Value} {σ : gs_S}
theorem gM_of {av : List Value} (hy : plainFor me.1 = true) (hl : (lg_sl av).length ≤ me.2.2.1) (h : gG l v ly N me n Qf 0 (lv_args 0 av) [] σ) : gM l v ly N me (n + 1) av σ Qf := by
  intro sz
  refine va_MetF (cc := me.2.1) (maxL := me.2.2.1) (ret := me.2.2.2) hy rfl ?_
  intro p e s m args below meth c s₁ B hml hv
  obtain ⟨rfl, hsz, hP, hK, hD0⟩ := hv
  subst hsz
  have hts := atoms_spec (ws := gs_h me :: gw) B.pre
  rw [lg_entry_eq]
  exact h p e s m _ below meth c (va_A (gs_w v ly N σ) s.heap.size) ⟨B.exec, B.bytes, hml, findClass_of_methodNamed B.named, fun w hw => hts w (List.mem_cons_of_mem _ hw), hK, fun σ' => gs_D hD0.self, fun q hq => Or.inr hq, B.returns, B.notSynchronized⟩ _ s.heap [] (lv_entry av hl) hP va_S.rf
theorem g_sub {L' : List (Nat × Value)} (ks : List Nat) (hk : lv_pick L ks = L') (k : gG l v ly N me n Qf pc L' st σ) : gG l v ly N me n Qf pc L st σ :=
  fun p e s m args below meth c A hC ls H locs hl hP hS => k p e s m args below meth c A hC ls H locs (lv_sub hl ks hk) hP hS
theorem g_eq {st' : List Value} {σ' : gs_S} {L' : List (Nat × Value)} (k : gG l v ly N me n Qf pc L' st' σ') (hL : L = L') (h : st = st') (hσ : σ = σ') : gG l v ly N me n Qf pc L st σ := by
  subst hL; subst h; subst hσ; exact k

theorem g_iconst {z : Int} {x : Int32} (d : decode me.2.1 pc = .ok (.iconst z, 1)) (hv : Int32.ofInt z = x) (k : gG l v ly N me n Qf (pc + 1) L (.int x :: rest) σ) : gG l v ly N me n Qf pc L (rest) σ :=
  fun p e s m args below meth c A hC ls H locs hl hP hS => lv_iconst hC.1 hC.2.1 d hv (k p e s m args below meth c A hC ls H locs hl hP hS)
theorem g_bipush {z : Int} {x : Int32} (d : decode me.2.1 pc = .ok (.bipush z, 2)) (hv : (Int8.ofInt z).toInt32 = x) (k : gG l v ly N me n Qf (pc + 2) L (.int x :: rest) σ) : gG l v ly N me n Qf pc L (rest) σ :=
  fun p e s m args below meth c A hC ls H locs hl hP hS => lv_bipush hC.1 hC.2.1 d hv (k p e s m args below meth c A hC ls H locs hl hP hS)
theorem g_sipush {z : Int} {x : Int32} (d : decode me.2.1 pc = .ok (.sipush z, 3)) (hv : (Int16.ofInt z).toInt32 = x) (k : gG l v ly N me n Qf (pc + 3) L (.int x :: rest) σ) : gG l v ly N me n Qf pc L (rest) σ :=
  fun p e s m args below meth c A hC ls H locs hl hP hS => lv_sipush hC.1 hC.2.1 d hv (k p e s m args below meth c A hC ls H locs hl hP hS)
theorem g_lconst {z : Fin 2} {x : Int64} (d : decode me.2.1 pc = .ok (.lconst z, 1)) (hv : Int64.ofNat (z : Nat) = x) (k : gG l v ly N me n Qf (pc + 1) L (.long x :: rest) σ) : gG l v ly N me n Qf pc L (rest) σ :=
  fun p e s m args below meth c A hC ls H locs hl hP hS => lv_lconst hC.1 hC.2.1 d hv (k p e s m args below meth c A hC ls H locs hl hP hS)
theorem g_iload_n {z : Fin 4} {i : Nat} {x : Int32} (d : decode me.2.1 pc = .ok (.iload_n z, 1)) (q : Nat) (hi : (z : Nat) = i) (hq : L[q]? = some (i, .int x)) (k : gG l v ly N me n Qf (pc + 1) L (.int x :: rest) σ) : gG l v ly N me n Qf pc L rest σ :=
  fun p e s m args below meth c A hC ls H locs hl hP hS => lv_iload_n hC.1 hC.2.1 d hi (lv_at hl q hq) (k p e s m args below meth c A hC ls H locs hl hP hS)
theorem g_iload {i : Nat} {x : Int32} (d : decode me.2.1 pc = .ok (.iload i, 2)) (q : Nat) (hq : L[q]? = some (i, .int x)) (k : gG l v ly N me n Qf (pc + 2) L (.int x :: rest) σ) : gG l v ly N me n Qf pc L rest σ :=
  fun p e s m args below meth c A hC ls H locs hl hP hS => lv_iload hC.1 hC.2.1 d (lv_at hl q hq) (k p e s m args below meth c A hC ls H locs hl hP hS)
theorem g_istore_n {z : Fin 4} {i : Nat} {x : Int32} {L' : List (Nat × Value)} (d : decode me.2.1 pc = .ok (.istore_n z, 1)) (hi : (z : Nat) = i) (hn : i < me.2.2.1) (hL : (i, Value.int x) :: L.filter (fun q => !(q.1 == i) && !(q.1 + 1 == i && q.2.category == 2)) = L') (k : gG l v ly N me n Qf (pc + 1) L' rest σ) : gG l v ly N me n Qf pc L (.int x :: rest) σ :=
  fun p e s m args below meth c A hC ls H locs hl hP hS => lv_istore_n hC.1 hC.2.1 d hi hl hn hL (fun ls hl => k p e s m args below meth c A hC ls H locs hl hP hS)
theorem g_istore {i : Nat} {x : Int32} {L' : List (Nat × Value)} (d : decode me.2.1 pc = .ok (.istore i, 2)) (hn : i < me.2.2.1) (hL : (i, Value.int x) :: L.filter (fun q => !(q.1 == i) && !(q.1 + 1 == i && q.2.category == 2)) = L') (k : gG l v ly N me n Qf (pc + 2) L' rest σ) : gG l v ly N me n Qf pc L (.int x :: rest) σ :=
  fun p e s m args below meth c A hC ls H locs hl hP hS => lv_istore hC.1 hC.2.1 d hl hn hL (fun ls hl => k p e s m args below meth c A hC ls H locs hl hP hS)
theorem g_lload_n {z : Fin 4} {i : Nat} {x : Int64} (d : decode me.2.1 pc = .ok (.lload_n z, 1)) (q : Nat) (hi : (z : Nat) = i) (hq : L[q]? = some (i, .long x)) (k : gG l v ly N me n Qf (pc + 1) L (.long x :: rest) σ) : gG l v ly N me n Qf pc L rest σ :=
  fun p e s m args below meth c A hC ls H locs hl hP hS => lv_lload_n hC.1 hC.2.1 d hi (lv_at hl q hq) (k p e s m args below meth c A hC ls H locs hl hP hS)
theorem g_lload {i : Nat} {x : Int64} (d : decode me.2.1 pc = .ok (.lload i, 2)) (q : Nat) (hq : L[q]? = some (i, .long x)) (k : gG l v ly N me n Qf (pc + 2) L (.long x :: rest) σ) : gG l v ly N me n Qf pc L rest σ :=
  fun p e s m args below meth c A hC ls H locs hl hP hS => lv_lload hC.1 hC.2.1 d (lv_at hl q hq) (k p e s m args below meth c A hC ls H locs hl hP hS)
theorem g_lstore_n {z : Fin 4} {i : Nat} {x : Int64} {L' : List (Nat × Value)} (d : decode me.2.1 pc = .ok (.lstore_n z, 1)) (hi : (z : Nat) = i) (hn : i + 1 < me.2.2.1) (hL : (i, Value.long x) :: L.filter (fun q => !(q.1 == i) && (!(q.1 == i + 1) && !(q.1 + 1 == i && q.2.category == 2))) = L') (k : gG l v ly N me n Qf (pc + 1) L' rest σ) : gG l v ly N me n Qf pc L (.long x :: rest) σ :=
  fun p e s m args below meth c A hC ls H locs hl hP hS => lv_lstore_n hC.1 hC.2.1 d hi hl hn hL (fun ls hl => k p e s m args below meth c A hC ls H locs hl hP hS)
theorem g_lstore {i : Nat} {x : Int64} {L' : List (Nat × Value)} (d : decode me.2.1 pc = .ok (.lstore i, 2)) (hn : i + 1 < me.2.2.1) (hL : (i, Value.long x) :: L.filter (fun q => !(q.1 == i) && (!(q.1 == i + 1) && !(q.1 + 1 == i && q.2.category == 2))) = L') (k : gG l v ly N me n Qf (pc + 2) L' rest σ) : gG l v ly N me n Qf pc L (.long x :: rest) σ :=
  fun p e s m args below meth c A hC ls H locs hl hP hS => lv_lstore hC.1 hC.2.1 d hl hn hL (fun ls hl => k p e s m args below meth c A hC ls H locs hl hP hS)
theorem g_aload_n {z : Fin 4} {i : Nat} {x : Nat} (d : decode me.2.1 pc = .ok (.aload_n z, 1)) (q : Nat) (hi : (z : Nat) = i) (hq : L[q]? = some (i, .ref x)) (k : gG l v ly N me n Qf (pc + 1) L (.ref x :: rest) σ) : gG l v ly N me n Qf pc L rest σ :=
  fun p e s m args below meth c A hC ls H locs hl hP hS => lv_aload_n hC.1 hC.2.1 d hi (lv_at hl q hq) (k p e s m args below meth c A hC ls H locs hl hP hS)
theorem g_aload {i : Nat} {x : Nat} (d : decode me.2.1 pc = .ok (.aload i, 2)) (q : Nat) (hq : L[q]? = some (i, .ref x)) (k : gG l v ly N me n Qf (pc + 2) L (.ref x :: rest) σ) : gG l v ly N me n Qf pc L rest σ :=
  fun p e s m args below meth c A hC ls H locs hl hP hS => lv_aload hC.1 hC.2.1 d (lv_at hl q hq) (k p e s m args below meth c A hC ls H locs hl hP hS)
theorem g_astore_n {z : Fin 4} {i : Nat} {x : Nat} {L' : List (Nat × Value)} (d : decode me.2.1 pc = .ok (.astore_n z, 1)) (hi : (z : Nat) = i) (hn : i < me.2.2.1) (hL : (i, Value.ref x) :: L.filter (fun q => !(q.1 == i) && !(q.1 + 1 == i && q.2.category == 2)) = L') (k : gG l v ly N me n Qf (pc + 1) L' rest σ) : gG l v ly N me n Qf pc L (.ref x :: rest) σ :=
  fun p e s m args below meth c A hC ls H locs hl hP hS => lv_astore_n hC.1 hC.2.1 d hi hl hn hL (fun ls hl => k p e s m args below meth c A hC ls H locs hl hP hS)
theorem g_astore {i : Nat} {x : Nat} {L' : List (Nat × Value)} (d : decode me.2.1 pc = .ok (.astore i, 2)) (hn : i < me.2.2.1) (hL : (i, Value.ref x) :: L.filter (fun q => !(q.1 == i) && !(q.1 + 1 == i && q.2.category == 2)) = L') (k : gG l v ly N me n Qf (pc + 2) L' rest σ) : gG l v ly N me n Qf pc L (.ref x :: rest) σ :=
  fun p e s m args below meth c A hC ls H locs hl hP hS => lv_astore hC.1 hC.2.1 d hl hn hL (fun ls hl => k p e s m args below meth c A hC ls H locs hl hP hS)
theorem g_iinc {i : Nat} {z : Int} {x y : Int32} {L' : List (Nat × Value)} (d : decode me.2.1 pc = .ok (.iinc i z, 3)) (q : Nat) (hq : L[q]? = some (i, .int x)) (hv : x + Int32.ofInt z = y) (hn : i < me.2.2.1) (hL : (i, Value.int y) :: L.filter (fun q => !(q.1 == i) && !(q.1 + 1 == i && q.2.category == 2)) = L') (k : gG l v ly N me n Qf (pc + 3) L' rest σ) : gG l v ly N me n Qf pc L rest σ :=
  fun p e s m args below meth c A hC ls H locs hl hP hS => lv_iinc hC.1 hC.2.1 d hl hq hv hn hL (fun ls hl => k p e s m args below meth c A hC ls H locs hl hP hS)
theorem g_iadd {x y : Int32} (d : decode me.2.1 pc = .ok (.iadd, 1))  (k : gG l v ly N me n Qf (pc + 1) L (.int (x + y) :: rest) σ) : gG l v ly N me n Qf pc L (.int y :: .int x :: rest) σ :=
  fun p e s m args below meth c A hC ls H locs hl hP hS => lv_iadd hC.1 hC.2.1 d  (k p e s m args below meth c A hC ls H locs hl hP hS)
theorem g_isub {x y : Int32} (d : decode me.2.1 pc = .ok (.isub, 1))  (k : gG l v ly N me n Qf (pc + 1) L (.int (x - y) :: rest) σ) : gG l v ly N me n Qf pc L (.int y :: .int x :: rest) σ :=
  fun p e s m args below meth c A hC ls H locs hl hP hS => lv_isub hC.1 hC.2.1 d  (k p e s m args below meth c A hC ls H locs hl hP hS)
theorem g_imul {x y : Int32} (d : decode me.2.1 pc = .ok (.imul, 1))  (k : gG l v ly N me n Qf (pc + 1) L (.int (x * y) :: rest) σ) : gG l v ly N me n Qf pc L (.int y :: .int x :: rest) σ :=
  fun p e s m args below meth c A hC ls H locs hl hP hS => lv_imul hC.1 hC.2.1 d  (k p e s m args below meth c A hC ls H locs hl hP hS)
theorem g_iand {x y : Int32} (d : decode me.2.1 pc = .ok (.iand, 1))  (k : gG l v ly N me n Qf (pc + 1) L (.int (x &&& y) :: rest) σ) : gG l v ly N me n Qf pc L (.int y :: .int x :: rest) σ :=
  fun p e s m args below meth c A hC ls H locs hl hP hS => lv_iand hC.1 hC.2.1 d  (k p e s m args below meth c A hC ls H locs hl hP hS)
theorem g_ior {x y : Int32} (d : decode me.2.1 pc = .ok (.ior, 1))  (k : gG l v ly N me n Qf (pc + 1) L (.int (x ||| y) :: rest) σ) : gG l v ly N me n Qf pc L (.int y :: .int x :: rest) σ :=
  fun p e s m args below meth c A hC ls H locs hl hP hS => lv_ior hC.1 hC.2.1 d  (k p e s m args below meth c A hC ls H locs hl hP hS)
theorem g_ixor {x y : Int32} (d : decode me.2.1 pc = .ok (.ixor, 1))  (k : gG l v ly N me n Qf (pc + 1) L (.int (x ^^^ y) :: rest) σ) : gG l v ly N me n Qf pc L (.int y :: .int x :: rest) σ :=
  fun p e s m args below meth c A hC ls H locs hl hP hS => lv_ixor hC.1 hC.2.1 d  (k p e s m args below meth c A hC ls H locs hl hP hS)
theorem g_idiv {x y : Int32} (d : decode me.2.1 pc = .ok (.idiv, 1)) (hz : ¬ y = 0) (k : gG l v ly N me n Qf (pc + 1) L (.int (x / y) :: rest) σ) : gG l v ly N me n Qf pc L (.int y :: .int x :: rest) σ :=
  fun p e s m args below meth c A hC ls H locs hl hP hS => lv_idiv hC.1 hC.2.1 d hz (k p e s m args below meth c A hC ls H locs hl hP hS)
theorem g_irem {x y : Int32} (d : decode me.2.1 pc = .ok (.irem, 1)) (hz : ¬ y = 0) (k : gG l v ly N me n Qf (pc + 1) L (.int (jR x y) :: rest) σ) : gG l v ly N me n Qf pc L (.int y :: .int x :: rest) σ :=
  fun p e s m args below meth c A hC ls H locs hl hP hS => lv_irem hC.1 hC.2.1 d hz (k p e s m args below meth c A hC ls H locs hl hP hS)
theorem g_ladd {x y : Int64} (d : decode me.2.1 pc = .ok (.ladd, 1))  (k : gG l v ly N me n Qf (pc + 1) L (.long (x + y) :: rest) σ) : gG l v ly N me n Qf pc L (.long y :: .long x :: rest) σ :=
  fun p e s m args below meth c A hC ls H locs hl hP hS => lv_ladd hC.1 hC.2.1 d  (k p e s m args below meth c A hC ls H locs hl hP hS)
theorem g_lsub {x y : Int64} (d : decode me.2.1 pc = .ok (.lsub, 1))  (k : gG l v ly N me n Qf (pc + 1) L (.long (x - y) :: rest) σ) : gG l v ly N me n Qf pc L (.long y :: .long x :: rest) σ :=
  fun p e s m args below meth c A hC ls H locs hl hP hS => lv_lsub hC.1 hC.2.1 d  (k p e s m args below meth c A hC ls H locs hl hP hS)
theorem g_lmul {x y : Int64} (d : decode me.2.1 pc = .ok (.lmul, 1))  (k : gG l v ly N me n Qf (pc + 1) L (.long (x * y) :: rest) σ) : gG l v ly N me n Qf pc L (.long y :: .long x :: rest) σ :=
  fun p e s m args below meth c A hC ls H locs hl hP hS => lv_lmul hC.1 hC.2.1 d  (k p e s m args below meth c A hC ls H locs hl hP hS)
theorem g_land {x y : Int64} (d : decode me.2.1 pc = .ok (.land, 1))  (k : gG l v ly N me n Qf (pc + 1) L (.long (x &&& y) :: rest) σ) : gG l v ly N me n Qf pc L (.long y :: .long x :: rest) σ :=
  fun p e s m args below meth c A hC ls H locs hl hP hS => lv_land hC.1 hC.2.1 d  (k p e s m args below meth c A hC ls H locs hl hP hS)
theorem g_lor {x y : Int64} (d : decode me.2.1 pc = .ok (.lor, 1))  (k : gG l v ly N me n Qf (pc + 1) L (.long (x ||| y) :: rest) σ) : gG l v ly N me n Qf pc L (.long y :: .long x :: rest) σ :=
  fun p e s m args below meth c A hC ls H locs hl hP hS => lv_lor hC.1 hC.2.1 d  (k p e s m args below meth c A hC ls H locs hl hP hS)
theorem g_lxor {x y : Int64} (d : decode me.2.1 pc = .ok (.lxor, 1))  (k : gG l v ly N me n Qf (pc + 1) L (.long (x ^^^ y) :: rest) σ) : gG l v ly N me n Qf pc L (.long y :: .long x :: rest) σ :=
  fun p e s m args below meth c A hC ls H locs hl hP hS => lv_lxor hC.1 hC.2.1 d  (k p e s m args below meth c A hC ls H locs hl hP hS)
theorem g_ldiv {x y : Int64} (d : decode me.2.1 pc = .ok (.ldiv, 1)) (hz : ¬ y = 0) (k : gG l v ly N me n Qf (pc + 1) L (.long (x / y) :: rest) σ) : gG l v ly N me n Qf pc L (.long y :: .long x :: rest) σ :=
  fun p e s m args below meth c A hC ls H locs hl hP hS => lv_ldiv hC.1 hC.2.1 d hz (k p e s m args below meth c A hC ls H locs hl hP hS)
theorem g_lrem {x y : Int64} (d : decode me.2.1 pc = .ok (.lrem, 1)) (hz : ¬ y = 0) (k : gG l v ly N me n Qf (pc + 1) L (.long (jRL x y) :: rest) σ) : gG l v ly N me n Qf pc L (.long y :: .long x :: rest) σ :=
  fun p e s m args below meth c A hC ls H locs hl hP hS => lv_lrem hC.1 hC.2.1 d hz (k p e s m args below meth c A hC ls H locs hl hP hS)
theorem g_ineg {x : Int32} (d : decode me.2.1 pc = .ok (.ineg, 1))  (k : gG l v ly N me n Qf (pc + 1) L (.int (-x) :: rest) σ) : gG l v ly N me n Qf pc L (.int x :: rest) σ :=
  fun p e s m args below meth c A hC ls H locs hl hP hS => lv_ineg hC.1 hC.2.1 d  (k p e s m args below meth c A hC ls H locs hl hP hS)
theorem g_lneg {x : Int64} (d : decode me.2.1 pc = .ok (.lneg, 1))  (k : gG l v ly N me n Qf (pc + 1) L (.long (-x) :: rest) σ) : gG l v ly N me n Qf pc L (.long x :: rest) σ :=
  fun p e s m args below meth c A hC ls H locs hl hP hS => lv_lneg hC.1 hC.2.1 d  (k p e s m args below meth c A hC ls H locs hl hP hS)
theorem g_ishl {x y : Int32} (d : decode me.2.1 pc = .ok (.ishl, 1))  (k : gG l v ly N me n Qf (pc + 1) L (.int (jSI x y) :: rest) σ) : gG l v ly N me n Qf pc L (.int y :: .int x :: rest) σ :=
  fun p e s m args below meth c A hC ls H locs hl hP hS => lv_ishl hC.1 hC.2.1 d  (k p e s m args below meth c A hC ls H locs hl hP hS)
theorem g_ishr {x y : Int32} (d : decode me.2.1 pc = .ok (.ishr, 1))  (k : gG l v ly N me n Qf (pc + 1) L (.int (jAI x y) :: rest) σ) : gG l v ly N me n Qf pc L (.int y :: .int x :: rest) σ :=
  fun p e s m args below meth c A hC ls H locs hl hP hS => lv_ishr hC.1 hC.2.1 d  (k p e s m args below meth c A hC ls H locs hl hP hS)
theorem g_i2l {x : Int32} (d : decode me.2.1 pc = .ok (.i2l, 1))  (k : gG l v ly N me n Qf (pc + 1) L (.long x.toInt64 :: rest) σ) : gG l v ly N me n Qf pc L (.int x :: rest) σ :=
  fun p e s m args below meth c A hC ls H locs hl hP hS => lv_i2l hC.1 hC.2.1 d rfl (k p e s m args below meth c A hC ls H locs hl hP hS)
theorem g_l2i {x : Int64} (d : decode me.2.1 pc = .ok (.l2i, 1))  (k : gG l v ly N me n Qf (pc + 1) L (.int x.toInt32 :: rest) σ) : gG l v ly N me n Qf pc L (.long x :: rest) σ :=
  fun p e s m args below meth c A hC ls H locs hl hP hS => lv_l2i hC.1 hC.2.1 d rfl (k p e s m args below meth c A hC ls H locs hl hP hS)
theorem g_i2c {x : Int32} (d : decode me.2.1 pc = .ok (.i2c, 1))  (k : gG l v ly N me n Qf (pc + 1) L (.int (x.toUInt32 % 65536).toInt32 :: rest) σ) : gG l v ly N me n Qf pc L (.int x :: rest) σ :=
  fun p e s m args below meth c A hC ls H locs hl hP hS => lv_i2c hC.1 hC.2.1 d rfl (k p e s m args below meth c A hC ls H locs hl hP hS)
theorem g_lushr {x : Int64} {y : Int32} (d : decode me.2.1 pc = .ok (.lushr, 1))  (k : gG l v ly N me n Qf (pc + 1) L (.long (jU x y) :: rest) σ) : gG l v ly N me n Qf pc L (.int y :: .long x :: rest) σ :=
  fun p e s m args below meth c A hC ls H locs hl hP hS => lv_lushr hC.1 hC.2.1 d rfl (k p e s m args below meth c A hC ls H locs hl hP hS)
theorem g_lshl {x : Int64} {y : Int32} (d : decode me.2.1 pc = .ok (.lshl, 1))  (k : gG l v ly N me n Qf (pc + 1) L (.long (jS x y) :: rest) σ) : gG l v ly N me n Qf pc L (.int y :: .long x :: rest) σ :=
  fun p e s m args below meth c A hC ls H locs hl hP hS => lv_lshl hC.1 hC.2.1 d rfl (k p e s m args below meth c A hC ls H locs hl hP hS)
theorem g_lshr {x : Int64} {y : Int32} (d : decode me.2.1 pc = .ok (.lshr, 1))  (k : gG l v ly N me n Qf (pc + 1) L (.long (jA x y) :: rest) σ) : gG l v ly N me n Qf pc L (.int y :: .long x :: rest) σ :=
  fun p e s m args below meth c A hC ls H locs hl hP hS => lv_lshr hC.1 hC.2.1 d rfl (k p e s m args below meth c A hC ls H locs hl hP hS)
theorem g_lcmp {x y : Int64} (d : decode me.2.1 pc = .ok (.lcmp, 1))  (k : gG l v ly N me n Qf (pc + 1) L (.int (lg_cmp x y) :: rest) σ) : gG l v ly N me n Qf pc L (.long y :: .long x :: rest) σ :=
  fun p e s m args below meth c A hC ls H locs hl hP hS => W.lcmp hC.1 hC.2.1 d  (k p e s m args below meth c A hC ls H locs hl hP hS)
theorem g_dup {a : Value} (d : decode me.2.1 pc = .ok (.dup, 1)) (ha : a.category = 1) (k : gG l v ly N me n Qf (pc + 1) L (a :: a :: rest) σ) : gG l v ly N me n Qf pc L (a :: rest) σ :=
  fun p e s m args below meth c A hC ls H locs hl hP hS => lv_dup hC.1 hC.2.1 d ha (k p e s m args below meth c A hC ls H locs hl hP hS)
theorem g_pop {a : Value} (d : decode me.2.1 pc = .ok (.pop, 1)) (ha : a.category = 1) (k : gG l v ly N me n Qf (pc + 1) L (rest) σ) : gG l v ly N me n Qf pc L (a :: rest) σ :=
  fun p e s m args below meth c A hC ls H locs hl hP hS => lv_pop hC.1 hC.2.1 d ha (k p e s m args below meth c A hC ls H locs hl hP hS)
theorem g_dup2_11 {a b : Value} (d : decode me.2.1 pc = .ok (.dup2, 1)) (ha : a.category = 1) (hb : b.category = 1) (k : gG l v ly N me n Qf (pc + 1) L (a :: b :: a :: b :: rest) σ) : gG l v ly N me n Qf pc L (a :: b :: rest) σ :=
  fun p e s m args below meth c A hC ls H locs hl hP hS => lv_dup2_11 hC.1 hC.2.1 d ha hb (k p e s m args below meth c A hC ls H locs hl hP hS)
theorem g_dup2_2 {a : Value} (d : decode me.2.1 pc = .ok (.dup2, 1)) (ha : a.category = 2) (k : gG l v ly N me n Qf (pc + 1) L (a :: a :: rest) σ) : gG l v ly N me n Qf pc L (a :: rest) σ :=
  fun p e s m args below meth c A hC ls H locs hl hP hS => lv_dup2_2 hC.1 hC.2.1 d ha (k p e s m args below meth c A hC ls H locs hl hP hS)
theorem g_pop2_2 {a : Value} (d : decode me.2.1 pc = .ok (.pop2, 1)) (ha : a.category = 2) (k : gG l v ly N me n Qf (pc + 1) L (rest) σ) : gG l v ly N me n Qf pc L (a :: rest) σ :=
  fun p e s m args below meth c A hC ls H locs hl hP hS => lv_pop2_2 hC.1 hC.2.1 d ha (k p e s m args below meth c A hC ls H locs hl hP hS)
theorem g_dup_x1 {a b : Value} (d : decode me.2.1 pc = .ok (.dup_x1, 1)) (ha : a.category = 1) (hb : b.category = 1) (k : gG l v ly N me n Qf (pc + 1) L (a :: b :: a :: rest) σ) : gG l v ly N me n Qf pc L (a :: b :: rest) σ :=
  fun p e s m args below meth c A hC ls H locs hl hP hS => lv_dup_x1 hC.1 hC.2.1 d ha hb (k p e s m args below meth c A hC ls H locs hl hP hS)
theorem g_if_eq {x : Int32} {off : Int} {tgt : Nat} (d : decode me.2.1 pc = .ok (.ifCond .eq off, 3)) (ht : (pc : Int) + off = (tgt : Int)) (kt : x = 0 → gG l v ly N me n Qf tgt L rest σ) (kf : ¬ x = 0 → gG l v ly N me n Qf (pc + 3) L rest σ) : gG l v ly N me n Qf pc L (.int x :: rest) σ :=
  fun p e s m args below meth c A hC ls H locs hl hP hS => lv_if_eq hC.1 hC.2.1 d ht (fun h => kt h p e s m args below meth c A hC ls H locs hl hP hS) (fun h => kf h p e s m args below meth c A hC ls H locs hl hP hS)
theorem g_icmp_eq {x y : Int32} {off : Int} {tgt : Nat} (d : decode me.2.1 pc = .ok (.if_icmp .eq off, 3)) (ht : (pc : Int) + off = (tgt : Int)) (kt : x = y → gG l v ly N me n Qf tgt L rest σ) (kf : ¬ x = y → gG l v ly N me n Qf (pc + 3) L rest σ) : gG l v ly N me n Qf pc L (.int y :: .int x :: rest) σ :=
  fun p e s m args below meth c A hC ls H locs hl hP hS => lv_icmp_eq hC.1 hC.2.1 d ht (fun h => kt h p e s m args below meth c A hC ls H locs hl hP hS) (fun h => kf h p e s m args below meth c A hC ls H locs hl hP hS)
theorem g_if_ne {x : Int32} {off : Int} {tgt : Nat} (d : decode me.2.1 pc = .ok (.ifCond .ne off, 3)) (ht : (pc : Int) + off = (tgt : Int)) (kt : ¬ x = 0 → gG l v ly N me n Qf tgt L rest σ) (kf : x = 0 → gG l v ly N me n Qf (pc + 3) L rest σ) : gG l v ly N me n Qf pc L (.int x :: rest) σ :=
  fun p e s m args below meth c A hC ls H locs hl hP hS => lv_if_ne hC.1 hC.2.1 d ht (fun h => kt h p e s m args below meth c A hC ls H locs hl hP hS) (fun h => kf h p e s m args below meth c A hC ls H locs hl hP hS)
theorem g_icmp_ne {x y : Int32} {off : Int} {tgt : Nat} (d : decode me.2.1 pc = .ok (.if_icmp .ne off, 3)) (ht : (pc : Int) + off = (tgt : Int)) (kt : ¬ x = y → gG l v ly N me n Qf tgt L rest σ) (kf : x = y → gG l v ly N me n Qf (pc + 3) L rest σ) : gG l v ly N me n Qf pc L (.int y :: .int x :: rest) σ :=
  fun p e s m args below meth c A hC ls H locs hl hP hS => lv_icmp_ne hC.1 hC.2.1 d ht (fun h => kt h p e s m args below meth c A hC ls H locs hl hP hS) (fun h => kf h p e s m args below meth c A hC ls H locs hl hP hS)
theorem g_if_lt {x : Int32} {off : Int} {tgt : Nat} (d : decode me.2.1 pc = .ok (.ifCond .lt off, 3)) (ht : (pc : Int) + off = (tgt : Int)) (kt : x < 0 → gG l v ly N me n Qf tgt L rest σ) (kf : ¬ x < 0 → gG l v ly N me n Qf (pc + 3) L rest σ) : gG l v ly N me n Qf pc L (.int x :: rest) σ :=
  fun p e s m args below meth c A hC ls H locs hl hP hS => lv_if_lt hC.1 hC.2.1 d ht (fun h => kt h p e s m args below meth c A hC ls H locs hl hP hS) (fun h => kf h p e s m args below meth c A hC ls H locs hl hP hS)
theorem g_icmp_lt {x y : Int32} {off : Int} {tgt : Nat} (d : decode me.2.1 pc = .ok (.if_icmp .lt off, 3)) (ht : (pc : Int) + off = (tgt : Int)) (kt : x < y → gG l v ly N me n Qf tgt L rest σ) (kf : ¬ x < y → gG l v ly N me n Qf (pc + 3) L rest σ) : gG l v ly N me n Qf pc L (.int y :: .int x :: rest) σ :=
  fun p e s m args below meth c A hC ls H locs hl hP hS => lv_icmp_lt hC.1 hC.2.1 d ht (fun h => kt h p e s m args below meth c A hC ls H locs hl hP hS) (fun h => kf h p e s m args below meth c A hC ls H locs hl hP hS)
theorem g_if_ge {x : Int32} {off : Int} {tgt : Nat} (d : decode me.2.1 pc = .ok (.ifCond .ge off, 3)) (ht : (pc : Int) + off = (tgt : Int)) (kt : 0 ≤ x → gG l v ly N me n Qf tgt L rest σ) (kf : ¬ 0 ≤ x → gG l v ly N me n Qf (pc + 3) L rest σ) : gG l v ly N me n Qf pc L (.int x :: rest) σ :=
  fun p e s m args below meth c A hC ls H locs hl hP hS => lv_if_ge hC.1 hC.2.1 d ht (fun h => kt h p e s m args below meth c A hC ls H locs hl hP hS) (fun h => kf h p e s m args below meth c A hC ls H locs hl hP hS)
theorem g_icmp_ge {x y : Int32} {off : Int} {tgt : Nat} (d : decode me.2.1 pc = .ok (.if_icmp .ge off, 3)) (ht : (pc : Int) + off = (tgt : Int)) (kt : y ≤ x → gG l v ly N me n Qf tgt L rest σ) (kf : ¬ y ≤ x → gG l v ly N me n Qf (pc + 3) L rest σ) : gG l v ly N me n Qf pc L (.int y :: .int x :: rest) σ :=
  fun p e s m args below meth c A hC ls H locs hl hP hS => lv_icmp_ge hC.1 hC.2.1 d ht (fun h => kt h p e s m args below meth c A hC ls H locs hl hP hS) (fun h => kf h p e s m args below meth c A hC ls H locs hl hP hS)
theorem g_if_gt {x : Int32} {off : Int} {tgt : Nat} (d : decode me.2.1 pc = .ok (.ifCond .gt off, 3)) (ht : (pc : Int) + off = (tgt : Int)) (kt : 0 < x → gG l v ly N me n Qf tgt L rest σ) (kf : ¬ 0 < x → gG l v ly N me n Qf (pc + 3) L rest σ) : gG l v ly N me n Qf pc L (.int x :: rest) σ :=
  fun p e s m args below meth c A hC ls H locs hl hP hS => lv_if_gt hC.1 hC.2.1 d ht (fun h => kt h p e s m args below meth c A hC ls H locs hl hP hS) (fun h => kf h p e s m args below meth c A hC ls H locs hl hP hS)
theorem g_icmp_gt {x y : Int32} {off : Int} {tgt : Nat} (d : decode me.2.1 pc = .ok (.if_icmp .gt off, 3)) (ht : (pc : Int) + off = (tgt : Int)) (kt : y < x → gG l v ly N me n Qf tgt L rest σ) (kf : ¬ y < x → gG l v ly N me n Qf (pc + 3) L rest σ) : gG l v ly N me n Qf pc L (.int y :: .int x :: rest) σ :=
  fun p e s m args below meth c A hC ls H locs hl hP hS => lv_icmp_gt hC.1 hC.2.1 d ht (fun h => kt h p e s m args below meth c A hC ls H locs hl hP hS) (fun h => kf h p e s m args below meth c A hC ls H locs hl hP hS)
theorem g_if_le {x : Int32} {off : Int} {tgt : Nat} (d : decode me.2.1 pc = .ok (.ifCond .le off, 3)) (ht : (pc : Int) + off = (tgt : Int)) (kt : x ≤ 0 → gG l v ly N me n Qf tgt L rest σ) (kf : ¬ x ≤ 0 → gG l v ly N me n Qf (pc + 3) L rest σ) : gG l v ly N me n Qf pc L (.int x :: rest) σ :=
  fun p e s m args below meth c A hC ls H locs hl hP hS => lv_if_le hC.1 hC.2.1 d ht (fun h => kt h p e s m args below meth c A hC ls H locs hl hP hS) (fun h => kf h p e s m args below meth c A hC ls H locs hl hP hS)
theorem g_icmp_le {x y : Int32} {off : Int} {tgt : Nat} (d : decode me.2.1 pc = .ok (.if_icmp .le off, 3)) (ht : (pc : Int) + off = (tgt : Int)) (kt : x ≤ y → gG l v ly N me n Qf tgt L rest σ) (kf : ¬ x ≤ y → gG l v ly N me n Qf (pc + 3) L rest σ) : gG l v ly N me n Qf pc L (.int y :: .int x :: rest) σ :=
  fun p e s m args below meth c A hC ls H locs hl hP hS => lv_icmp_le hC.1 hC.2.1 d ht (fun h => kt h p e s m args below meth c A hC ls H locs hl hP hS) (fun h => kf h p e s m args below meth c A hC ls H locs hl hP hS)
theorem g_goto {off : Int} {tgt : Nat} (d : decode me.2.1 pc = .ok (.goto off, 3)) (ht : (pc : Int) + off = (tgt : Int)) (k : gG l v ly N me n Qf tgt L st σ) : gG l v ly N me n Qf pc L st σ :=
  fun p e s m args below meth c A hC ls H locs hl hP hS => lv_goto hC.1 hC.2.1 d ht (k p e s m args below meth c A hC ls H locs hl hP hS)
theorem g_ldc2 {index : Nat} {x : Int64} (d : decode me.2.1 pc = .ok (.ldc2_w index, 3)) (hw : Cond.constantLong me.1.cls index x ∈ gw) (k : gG l v ly N me n Qf (pc + 3) L (.long x :: rest) σ) : gG l v ly N me n Qf pc L rest σ :=
  fun p e s m args below meth c A hC ls H locs hl hP hS => lv_ldc2 hC.1 hC.2.1 hC.2.2.2.1 (hC.2.2.2.2.1 _ hw) d (k p e s m args below meth c A hC ls H locs hl hP hS)
theorem g_ldc {index : Nat} {x : Int32} (d : decode me.2.1 pc = .ok (.ldc index, 2)) (hw : Cond.constant me.1.cls index x ∈ gw) (k : gG l v ly N me n Qf (pc + 2) L (.int x :: rest) σ) : gG l v ly N me n Qf pc L rest σ :=
  fun p e s m args below meth c A hC ls H locs hl hP hS => lv_ldc hC.1 hC.2.1 hC.2.2.2.1 (hC.2.2.2.2.1 _ hw) d (k p e s m args below meth c A hC ls H locs hl hP hS)
theorem g_iald {q b len : Nat} {i : Int32} (d : decode me.2.1 pc = .ok (.iaload, 1)) (hq : q < N) (hy : ly q = .inl (0, len, b)) {x : Int32} (hi : vp_in i len) (hx : σ.1 q i.toNatClampNeg = x) (k : gG l v ly N me n Qf (pc + 1) L (.int x :: rest) σ) : gG l v ly N me n Qf pc L (.int i :: .ref (v.2.2 q) :: rest) σ :=
  fun p e s m args below meth c A hC ls H locs hl hP hS => va_iald hC.1 hC.2.1 hC.2.2.2.2.2.1.1 hP q 0 (gs_ai hq hy) rfl hi d (hx ▸ k p e s m args below meth c A hC ls H locs hl hP hS)
theorem g_lald {q b len : Nat} {i : Int32} (d : decode me.2.1 pc = .ok (.laload, 1)) (hq : q < N) (hy : ly q = .inl (1, len, b)) {x : Int64} (hi : vp_in i len) (hx : σ.2.1 q i.toNatClampNeg = x) (k : gG l v ly N me n Qf (pc + 1) L (.long x :: rest) σ) : gG l v ly N me n Qf pc L (.int i :: .ref (v.2.2 q) :: rest) σ :=
  fun p e s m args below meth c A hC ls H locs hl hP hS => va_lald hC.1 hC.2.1 hC.2.2.2.2.2.1.1 hP q 1 (gs_al hq hy) rfl hi d (hx ▸ k p e s m args below meth c A hC ls H locs hl hP hS)
theorem g_zald {q b len : Nat} {i : Int32} (d : decode me.2.1 pc = .ok (.baload, 1)) (hq : q < N) (hy : ly q = .inl (2, len, b)) {x : Int32} (hi : vp_in i len) (hx : σ.1 q i.toNatClampNeg = x) (k : gG l v ly N me n Qf (pc + 1) L (.int x :: rest) σ) : gG l v ly N me n Qf pc L (.int i :: .ref (v.2.2 q) :: rest) σ :=
  fun p e s m args below meth c A hC ls H locs hl hP hS => va_zald hC.1 hC.2.1 hC.2.2.2.2.2.1.1 hP q 2 (gs_az hq hy) rfl hi d (hx ▸ k p e s m args below meth c A hC ls H locs hl hP hS)
theorem g_cald {q b len : Nat} {i : Int32} (d : decode me.2.1 pc = .ok (.caload, 1)) (hq : q < N) (hy : ly q = .inl (3, len, b)) {x : Int32} (hi : vp_in i len) (hx : σ.1 q i.toNatClampNeg = x) (k : gG l v ly N me n Qf (pc + 1) L (.int x :: rest) σ) : gG l v ly N me n Qf pc L (.int i :: .ref (v.2.2 q) :: rest) σ :=
  fun p e s m args below meth c A hC ls H locs hl hP hS => va_cald hC.1 hC.2.1 hC.2.2.2.2.2.1.1 hP q 3 (gs_ac hq hy) rfl hi d (hx ▸ k p e s m args below meth c A hC ls H locs hl hP hS)
theorem g_iast {q b len : Nat} {i x : Int32} (d : decode me.2.1 pc = .ok (.iastore, 1)) (hq : q < N) (hy : ly q = .inl (0, len, b)) (hi : vp_in i len) (k : gG l v ly N me n Qf (pc + 1) L rest (gs_pI σ q i.toNatClampNeg x)) : gG l v ly N me n Qf pc L (.int x :: .int i :: .ref (v.2.2 q) :: rest) σ :=
  fun p e s m args below meth c A hC ls H locs hl hP hS => va_iast hC.1 hC.2.1 hC.2.2.2.2.2.1.1 hP (hC.2.2.2.2.2.2.1 σ) hS q 0 (gs_ai hq hy) rfl hi d (fun H locs hP' hD' hS => by rw [gs_set_A hy (by decide) (by decide)] at hP'; exact k p e s m args below meth c A hC ls H locs hl hP' hS)
theorem g_zast {q b len : Nat} {i x : Int32} (d : decode me.2.1 pc = .ok (.bastore, 1)) (hq : q < N) (hy : ly q = .inl (2, len, b)) (hi : vp_in i len) (k : gG l v ly N me n Qf (pc + 1) L rest (gs_pI σ q i.toNatClampNeg (vp_nar .boolean x))) : gG l v ly N me n Qf pc L (.int x :: .int i :: .ref (v.2.2 q) :: rest) σ :=
  fun p e s m args below meth c A hC ls H locs hl hP hS => va_zast hC.1 hC.2.1 hC.2.2.2.2.2.1.1 hP (hC.2.2.2.2.2.2.1 σ) hS q 2 (gs_az hq hy) rfl hi d (fun H locs hP' hD' hS => by rw [gs_set_A hy (by decide) (by decide)] at hP'; exact k p e s m args below meth c A hC ls H locs hl hP' hS)
theorem g_cast {q b len : Nat} {i x : Int32} (d : decode me.2.1 pc = .ok (.castore, 1)) (hq : q < N) (hy : ly q = .inl (3, len, b)) (hi : vp_in i len) (k : gG l v ly N me n Qf (pc + 1) L rest (gs_pI σ q i.toNatClampNeg (vp_nar .char x))) : gG l v ly N me n Qf pc L (.int x :: .int i :: .ref (v.2.2 q) :: rest) σ :=
  fun p e s m args below meth c A hC ls H locs hl hP hS => va_cast hC.1 hC.2.1 hC.2.2.2.2.2.1.1 hP (hC.2.2.2.2.2.2.1 σ) hS q 3 (gs_ac hq hy) rfl hi d (fun H locs hP' hD' hS => by rw [gs_set_A hy (by decide) (by decide)] at hP'; exact k p e s m args below meth c A hC ls H locs hl hP' hS)
theorem g_last {q b len : Nat} {i : Int32} {x : Int64} (d : decode me.2.1 pc = .ok (.lastore, 1)) (hq : q < N) (hy : ly q = .inl (1, len, b)) (hi : vp_in i len) (k : gG l v ly N me n Qf (pc + 1) L rest (gs_pL σ q i.toNatClampNeg x)) : gG l v ly N me n Qf pc L (.long x :: .int i :: .ref (v.2.2 q) :: rest) σ :=
  fun p e s m args below meth c A hC ls H locs hl hP hS => va_last hC.1 hC.2.1 hC.2.2.2.2.2.1.1 hP (hC.2.2.2.2.2.2.1 σ) hS q 1 (gs_al hq hy) rfl hi d (fun H locs hP' hD' hS => by rw [gs_set_B hy] at hP'; exact k p e s m args below meth c A hC ls H locs hl hP' hS)
theorem g_aald {q b len : Nat} {i : Int32} (d : decode me.2.1 pc = .ok (.aaload, 1)) (hq : q < N) (hy : ly q = .inl (4, len, b)) (hi : vp_in i len) (k : gG l v ly N me n Qf (pc + 1) L (.ref (v.2.2 (b + i.toNatClampNeg)) :: rest) σ) : gG l v ly N me n Qf pc L (.int i :: .ref (v.2.2 q) :: rest) σ := by
  intro p e s m args below meth c A hC ls H locs hl hP hS
  have hlt : i.toNatClampNeg < len := Nat.not_le.mp fun q => hi (Or.inr q)
  have hc := hP q _ (gs_aq hq hy)
  exact W.aald (v := .ref (v.2.2 (b + i.toNatClampNeg))) (ty := .array .long) hC.1 hC.2.1 hc ((hC.2.2.2.2.2.1.1.2 4 _ rfl).1 len (fun j => va_rf (some (v.2.2 (b + j))))) rfl (fun q => by cases q) (by show ¬ (i < 0 ∨ (arrV _ _ _).slots.size ≤ _); rw [arrV_size]; exact hi) (by show (arrV _ _ _).slots[_]? = _; rw [arrV_read _ _ hlt]; rfl) rfl rfl d (k p e s m args below meth c A hC ls H locs hl hP hS)
theorem g_alen {q t b len : Nat} {x : Int32} (d : decode me.2.1 pc = .ok (.arraylength, 1)) (hq : q < N) (hy : ly q = .inl (t, len, b)) (ht : t < 5) (hx : Int32.ofNat len = x) (k : gG l v ly N me n Qf (pc + 1) L (.int x :: rest) σ) : gG l v ly N me n Qf pc L (.ref (v.2.2 q) :: rest) σ := by
  intro p e s m args below meth c A hC ls H locs hl hP hS
  have hg : (gs_w v ly N σ)[q]? = some (v.2.2 q, .inl (gs_a v σ q t len b)) := by rw [gs_w_get hq, gs_e_arr hy]
  have hc : (gs_a v σ q t len b).1 = v.2.1 t ∧ (gs_a v σ q t len b).2.1 = len := by
    unfold gs_a
    split <;> exact ⟨rfl, rfl⟩
  have hty : (gs_t v)[t]? = some ((gs_a v σ q t len b).1, gs_ty t) := by
    rw [hc.1]
    rcases (show t = 0 ∨ t = 1 ∨ t = 2 ∨ t = 3 ∨ t = 4 by omega) with h | h | h | h | h <;> subst h <;> rfl
  exact va_alen (cA := (gs_a v σ q t len b).1) (x := (gs_a v σ q t len b).2) hC.1 hC.2.1 hC.2.2.2.2.2.1.1 hP q t hg hty (show Int32.ofNat (gs_a v σ q t len b).2.1 = x by rw [hc.2]; exact hx) d (k p e s m args below meth c A hC ls H locs hl hP hS)

-- a field's words: at this pool number of 'own' stands field j of class ci
def gF (own : String) (index ci j : Nat) : Prop := ∃ (C : String) (T : u_T) (M : Nat), vwCl[ci]? = some (C, T, M) ∧ j < M ∧ (∀ w ∈ u_ws C T M, w ∈ gw) ∧ Cond.fieldLink own index C (T j).2.1 (T j).2.2.1 ∈ gw ∧ (T j).1 = C
def gFp (own : String) (index ci j : Nat) (ty : FieldType) : Prop := ∃ (C : String) (T : u_T) (M : Nat) (ty0 : Nat → FieldType), vwCl[ci]? = some (C, T, M) ∧ j < M ∧ (∀ w ∈ u_ws C T M, w ∈ gw) ∧ Cond.fieldLink own index C (T j).2.1 (T j).2.2.1 ∈ gw ∧ (T j).1 = C ∧ (∀ k, k < M → parseFieldDescriptor (T k).2.2.1 = some (ty0 k)) ∧ (∀ a, a < M → ∀ b, b < M → a ≠ b → (T a).2.1 ≠ (T b).2.1) ∧ (T j).2.2.2 = false ∧ parseFieldDescriptor (T j).2.2.1 = some ty
theorem g_getV {q ci j fd index : Nat} {fds : List Nat} {x : Value} (d : decode me.2.1 pc = .ok (.getfield index, 3)) (hF : gF me.1.cls index ci j) (hq : q < N) (hy : ly q = .inr (ci, fds)) (hj : fds[j]? = some fd) (hx : gs_f v σ q j fd = x) (k : gG l v ly N me n Qf (pc + 3) L (x :: rest) σ) : gG l v ly N me n Qf pc L (.ref (v.2.2 q) :: rest) σ := by
  intro p e s m args below meth c A hC ls H locs hl hP hS
  obtain ⟨C, T, M, h1, h2, h3, h4, h5⟩ := hF
  exact va_get (ref := C) hC.1 hC.2.1 hC.2.2.2.2.1 h3 hC.2.2.2.1 hC.2.2.2.2.2.1.1 hP q (gs_ob hq hy) h1 j h2 (hC.2.2.2.2.1 _ h4) (fun x hx => by rw [h5] at hx; exact hx) (by rw [gs_fs_get fds 0 j fd hj, Nat.zero_add, hx]) d (k p e s m args below meth c A hC ls H locs hl hP hS)
theorem g_putI {q ci j index : Nat} {fds : List Nat} {ty : FieldType} {x : Int32} (d : decode me.2.1 pc = .ok (.putfield index, 3)) (hF : gFp me.1.cls index ci j ty) (hq : q < N) (hy : ly q = .inr (ci, fds)) (hj : fds[j]? = some 0) (hn : narrow ty (.int x) = .int x ∧ fits ty (.int x) = true) (k : gG l v ly N me n Qf (pc + 3) L rest (gs_pI σ q j x)) : gG l v ly N me n Qf pc L (.int x :: .ref (v.2.2 q) :: rest) σ := by
  intro p e s m args below meth c A hC ls H locs hl hP hS
  obtain ⟨C, T, M, ty0, h1, h2, h3, h4, h5, h6, h7, h8, h9⟩ := hF
  exact va_put (ref := C) hC.1 hC.2.1 hC.2.2.2.2.1 h3 ty0 h6 h7 hC.2.2.2.1 hC.2.2.2.2.2.1.1 hP (hC.2.2.2.2.2.2.1 σ) hS q (gs_ob hq hy) h1 j h2 (hC.2.2.2.2.1 _ h4) (fun x hx => by rw [h5] at hx; exact hx) h8 h9 hn.1 hn.2 (by rw [gs_fs_len]; exact (List.getElem?_eq_some_iff.mp hj).1) d (fun H locs hP' hD' hS => by rw [gs_set_I hy hj] at hP'; exact k p e s m args below meth c A hC ls H locs hl hP' hS)
theorem g_putL {q ci j index : Nat} {fds : List Nat} {x : Int64} (d : decode me.2.1 pc = .ok (.putfield index, 3)) (hF : gFp me.1.cls index ci j .long) (hq : q < N) (hy : ly q = .inr (ci, fds)) (hj : fds[j]? = some 1) (k : gG l v ly N me n Qf (pc + 3) L rest (gs_pL σ q j x)) : gG l v ly N me n Qf pc L (.long x :: .ref (v.2.2 q) :: rest) σ := by
  intro p e s m args below meth c A hC ls H locs hl hP hS
  obtain ⟨C, T, M, ty0, h1, h2, h3, h4, h5, h6, h7, h8, h9⟩ := hF
  exact va_put (ref := C) hC.1 hC.2.1 hC.2.2.2.2.1 h3 ty0 h6 h7 hC.2.2.2.1 hC.2.2.2.2.2.1.1 hP (hC.2.2.2.2.2.2.1 σ) hS q (gs_ob hq hy) h1 j h2 (hC.2.2.2.2.1 _ h4) (fun x hx => by rw [h5] at hx; exact hx) h8 h9 rfl rfl (by rw [gs_fs_len]; exact (List.getElem?_eq_some_iff.mp hj).1) d (fun H locs hP' hD' hS => by rw [gs_set_J hy hj] at hP'; exact k p e s m args below meth c A hC ls H locs hl hP' hS)
theorem g_putR {q ci j index y : Nat} {fds : List Nat} {ty : FieldType} (d : decode me.2.1 pc = .ok (.putfield index, 3)) (hF : gFp me.1.cls index ci j (.array ty)) (hq : q < N) (hy : ly q = .inr (ci, fds)) (hj : fds[j]? = some 2) (k : gG l v ly N me n Qf (pc + 3) L rest (gs_pR σ q j y)) : gG l v ly N me n Qf pc L (.ref (v.2.2 y) :: .ref (v.2.2 q) :: rest) σ := by
  intro p e s m args below meth c A hC ls H locs hl hP hS
  obtain ⟨C, T, M, ty0, h1, h2, h3, h4, h5, h6, h7, h8, h9⟩ := hF
  exact va_put (ref := C) hC.1 hC.2.1 hC.2.2.2.2.1 h3 ty0 h6 h7 hC.2.2.2.1 hC.2.2.2.2.2.1.1 hP (hC.2.2.2.2.2.2.1 σ) hS q (gs_ob hq hy) h1 j h2 (hC.2.2.2.2.1 _ h4) (fun x hx => by rw [h5] at hx; exact hx) h8 h9 rfl rfl (by rw [gs_fs_len]; exact (List.getElem?_eq_some_iff.mp hj).1) d (fun H locs hP' hD' hS => by rw [gs_set_R hy hj] at hP'; exact k p e s m args below meth c A hC ls H locs hl hP' hS)
-- ends
theorem g_iret {post : Int32 → gs_S → Prop} {x : Int32} (d : decode me.2.1 pc = .ok (.ireturn, 1)) (hr : me.2.2.2 = some .int) (h : post x σ) : gG l v ly N me n (qI v ly N post) pc L [.int x] σ :=
  fun p e s m args below meth c A hC ls H locs hl hP hS => W.iret hC.1 hC.2.1 (by rw [hC.2.2.2.2.2.2.2.2.1, hr]) (fun t ht hW => ⟨⟨x, σ, rfl, h, by show va_P _ _ _ t.heap; rw [ht]; exact hP⟩, hS.F ht⟩) hS.2.2 d hC.2.2.2.2.2.2.2.2.2
theorem g_zret {post : Int32 → gs_S → Prop} {x : Int32} {ty : FieldType} (d : decode me.2.1 pc = .ok (.ireturn, 1)) (hr : me.2.2.2 = some ty) (hn : narrow ty (.int x) = .int x) (h : post x σ) : gG l v ly N me n (qI v ly N post) pc L [.int x] σ :=
  fun p e s m args below meth c A hC ls H locs hl hP hS => W.zret hC.1 hC.2.1 (by rw [hC.2.2.2.2.2.2.2.2.1, hr]) hn (fun t ht hW => ⟨⟨x, σ, rfl, h, by show va_P _ _ _ t.heap; rw [ht]; exact hP⟩, hS.F ht⟩) hS.2.2 d hC.2.2.2.2.2.2.2.2.2
theorem g_lret {post : Int64 → gs_S → Prop} {x : Int64} (d : decode me.2.1 pc = .ok (.lreturn, 1)) (hr : me.2.2.2 = some .long) (h : post x σ) : gG l v ly N me n (qL v ly N post) pc L [.long x] σ :=
  fun p e s m args below meth c A hC ls H locs hl hP hS => W.lret hC.1 hC.2.1 (by rw [hC.2.2.2.2.2.2.2.2.1, hr]) (fun t ht hW => ⟨⟨x, σ, rfl, h, by show va_P _ _ _ t.heap; rw [ht]; exact hP⟩, hS.F ht⟩) hS.2.2 d hC.2.2.2.2.2.2.2.2.2
theorem g_vret {post : gs_S → Prop} (d : decode me.2.1 pc = .ok (.return_, 1)) (hr : me.2.2.2 = none) (h : post σ) : gG l v ly N me n (qV v ly N post) pc L [] σ :=
  fun p e s m args below meth c A hC ls H locs hl hP hS => W.vret hC.1 hC.2.1 (by rw [hC.2.2.2.2.2.2.2.2.1, hr]) (fun t ht hW => ⟨⟨σ, rfl, h, by show va_P _ _ _ t.heap; rw [ht]; exact hP⟩, hS.F ht⟩) hS.2.2 d hC.2.2.2.2.2.2.2.2.2
-- calls
def gY (me : gs_M) (a : Nat) : Prop := gs_h me ∈ gw ∧ Cond.initialized me.1.cls ∈ gw ∧ (me.1.cls ≠ "java/lang/invoke/MethodHandle" ∧ me.1.cls ≠ "java/lang/invoke/VarHandle" ∧ (parseMethodDescriptor me.1.desc).map (fun d => d.parameters.length) = some a) ∧ me.2.2.1 ≤ 21
theorem g_good {me : gs_M} (h : gs_h me ∈ gw) : GoodIn gw (gs_h me :: gw) := fun w hw => by
  rcases List.mem_cons.mp hw with rfl | hw
  · exact ⟨h, gw_good _ h⟩
  · exact ⟨hw, gw_good _ hw⟩
theorem g_B {me' : gs_M} {a index : Nat} {s : State} {args : Array Value} (hY : gY me' a) (hts : ∀ w ∈ gw, w.before args s = true) (hL : Cond.methodLink me.1.cls index me'.1 ∈ gw) : CallB (gr_r (n + 1)) s args me.1.cls index me'.1 me'.2.1 me'.2.2.1 me'.2.2.2 (gs_h me' :: gw) (gr_r n) 0 0 a :=
  callB_of a hts (g_good hY.1) rfl rfl rfl (hts _ hY.2.1) (hts _ hL) hY.2.2.1 ⟨Nat.le_refl _, by have := hY.2.2.2; simp only [gr_r]; omega⟩
theorem g_N {me' : gs_M} {a index : Nat} {host : String} {s : State} {args : Array Value} (hY : gY me' a) (hts : ∀ w ∈ gw, w.before args s = true) (hL : va_Nw (.methodLinkNest me.1.cls index me'.1 host) s) : va_CN (gr_r (n + 1)) s args me.1.cls index me'.1 host me'.2.1 me'.2.2.1 me'.2.2.2 (gs_h me' :: gw) (gr_r n) 0 0 a :=
  va_cnB a hts (g_good hY.1) rfl rfl rfl hL (hts _ hY.2.1) hY.2.2.1 ⟨Nat.le_refl _, by have := hY.2.2.2; simp only [gr_r]; omega⟩
theorem g_blind {av : List Value} {sz : Nat} : FrameBlind (va_Pc av (gs_P v ly N σ sz)) := fun a U g mk q => by
  obtain ⟨q0, q1, qP, qK, qD⟩ := q
  exact ⟨q0, q1, qP, gs_K_same rfl qK, qD⟩
theorem g_pre {A : Nat → Prop} {s : State} {H : Heap} {av : List Value} (hK : gs_K v s) (hP : va_P v.1 vwCl (gs_w v ly N σ) H) (hD : va_D A (gs_w v ly N σ)) : ∀ U : State, U.heap = H → s.WarmedH U.vm → va_Pc av (gs_P v ly N σ H.size) av.toArray U :=
  fun U hU hW => ⟨rfl, by rw [hU], by rw [hU]; exact hP, gs_K_warm hW hK, hD.weaken (fun _ _ _ _ => trivial)⟩
theorem g_free {A : Nat → Prop} {H0 H : Heap} {locs : List Loc} (hD : va_D A (gs_w v ly N σ)) (hA : ∀ q, H0.size ≤ q → A q) (hS : va_S A H0 H locs) : ∀ q, va_A (gs_w v ly N σ) H.size q → A q := fun q h => by
  rcases h with ⟨k, e, h⟩ | h
  · exact hD.2 k _ h
  · exact hA q (Nat.le_trans hS.1 h)

theorem g_callSi {me' : gs_M} {index a : Nat} {av : List Value} {post : Int32 → gs_S → Prop} (d : decode me.2.1 pc = .ok (.invokestatic index, 3)) (hY : gY me' a) (hL : Cond.methodLink me.1.cls index me'.1 ∈ gw) (hI : Cond.static me'.1 ∈ gw) (ha : av.length = a) (h8 : (rest.map fun x => x.category).sum ≤ 8) (hst : st = av.reverse ++ rest) (hM : gM l v ly N me' n av σ (qI v ly N post)) (k : ∀ (r : Int32) (σ' : gs_S), post r σ' → gG l v ly N me n Qf (pc + 3) L (.int r :: rest) σ') : gG l v ly N me n Qf pc L st σ := by
  intro p e s m args below meth c A hC ls H locs hl hP hS
  have hD := hC.2.2.2.2.2.2.1 σ
  have hF := g_free hD hC.2.2.2.2.2.2.2.1 hS
  have hts := hC.2.2.2.2.1
  refine va_calli (va_runS (As := av) (rest := rest) ⟨hC.1, hC.2.1, hC.2.2.1, hC.2.2.2.1, hts⟩ (hM H.size) ⟨g_B hY hts hL, hts _ hI⟩ ⟨g_blind, g_pre hC.2.2.2.2.2.1 hP hD⟩ rfl ha hl.1 hst (lv_room h8) d ⟨Nat.le_refl _, Nat.le_refl _⟩) hS (fun q _ h => hF q h) hF (fun r u t H1 locs1 ht hvm hp hB hz1 hk1 hS1 => ?_)
  rw [ht] at hB
  exact k r u hp p e s m args below meth c A hC ls H1 locs1 hl hB hS1
theorem g_callSl {me' : gs_M} {index a : Nat} {av : List Value} {post : Int64 → gs_S → Prop} (d : decode me.2.1 pc = .ok (.invokestatic index, 3)) (hY : gY me' a) (hL : Cond.methodLink me.1.cls index me'.1 ∈ gw) (hI : Cond.static me'.1 ∈ gw) (ha : av.length = a) (h8 : (rest.map fun x => x.category).sum ≤ 8) (hst : st = av.reverse ++ rest) (hM : gM l v ly N me' n av σ (qL v ly N post)) (k : ∀ (r : Int64) (σ' : gs_S), post r σ' → gG l v ly N me n Qf (pc + 3) L (.long r :: rest) σ') : gG l v ly N me n Qf pc L st σ := by
  intro p e s m args below meth c A hC ls H locs hl hP hS
  have hD := hC.2.2.2.2.2.2.1 σ
  have hF := g_free hD hC.2.2.2.2.2.2.2.1 hS
  have hts := hC.2.2.2.2.1
  refine va_calll (va_runS (As := av) (rest := rest) ⟨hC.1, hC.2.1, hC.2.2.1, hC.2.2.2.1, hts⟩ (hM H.size) ⟨g_B hY hts hL, hts _ hI⟩ ⟨g_blind, g_pre hC.2.2.2.2.2.1 hP hD⟩ rfl ha hl.1 hst (lv_room h8) d ⟨Nat.le_refl _, Nat.le_refl _⟩) hS (fun q _ h => hF q h) hF (fun r u t H1 locs1 ht hvm hp hB hz1 hk1 hS1 => ?_)
  rw [ht] at hB
  exact k r u hp p e s m args below meth c A hC ls H1 locs1 hl hB hS1
theorem g_callSv {me' : gs_M} {index a : Nat} {av : List Value} {post : gs_S → Prop} (d : decode me.2.1 pc = .ok (.invokestatic index, 3)) (hY : gY me' a) (hL : Cond.methodLink me.1.cls index me'.1 ∈ gw) (hI : Cond.static me'.1 ∈ gw) (ha : av.length = a) (h8 : (rest.map fun x => x.category).sum ≤ 8) (hst : st = av.reverse ++ rest) (hM : gM l v ly N me' n av σ (qV v ly N post)) (k : ∀ (σ' : gs_S), post σ' → gG l v ly N me n Qf (pc + 3) L rest σ') : gG l v ly N me n Qf pc L st σ := by
  intro p e s m args below meth c A hC ls H locs hl hP hS
  have hD := hC.2.2.2.2.2.2.1 σ
  have hF := g_free hD hC.2.2.2.2.2.2.2.1 hS
  have hts := hC.2.2.2.2.1
  refine va_callv (va_runS (As := av) (rest := rest) ⟨hC.1, hC.2.1, hC.2.2.1, hC.2.2.2.1, hts⟩ (hM H.size) ⟨g_B hY hts hL, hts _ hI⟩ ⟨g_blind, g_pre hC.2.2.2.2.2.1 hP hD⟩ rfl ha hl.1 hst (lv_room h8) d ⟨Nat.le_refl _, Nat.le_refl _⟩) hS (fun q _ h => hF q h) hF (fun u t H1 locs1 ht hvm hp hB hz1 hk1 hS1 => ?_)
  rw [ht] at hB
  exact k u hp p e s m args below meth c A hC ls H1 locs1 hl hB hS1
theorem g_callSNi {me' : gs_M} {index a : Nat} {av : List Value} {post : Int32 → gs_S → Prop} (d : decode me.2.1 pc = .ok (.invokestatic index, 3)) (hY : gY me' a) {host : String} (hL : (me.1.cls, index, me'.1, host) ∈ gw_n) (hI : Cond.static me'.1 ∈ gw) (ha : av.length = a) (h8 : (rest.map fun x => x.category).sum ≤ 8) (hst : st = av.reverse ++ rest) (hM : gM l v ly N me' n av σ (qI v ly N post)) (k : ∀ (r : Int32) (σ' : gs_S), post r σ' → gG l v ly N me n Qf (pc + 3) L (.int r :: rest) σ') : gG l v ly N me n Qf pc L st σ := by
  intro p e s m args below meth c A hC ls H locs hl hP hS
  have hD := hC.2.2.2.2.2.2.1 σ
  have hF := g_free hD hC.2.2.2.2.2.2.2.1 hS
  have hts := hC.2.2.2.2.1
  refine va_calli (va_runSN (As := av) (rest := rest) ⟨hC.1, hC.2.1, hC.2.2.1, hC.2.2.2.1, hts⟩ (hM H.size) ⟨g_N hY hts (hC.2.2.2.2.2.1.2 _ hL), hts _ hI, trivial⟩ ⟨g_blind, g_pre hC.2.2.2.2.2.1 hP hD⟩ rfl ha hl.1 hst (lv_room h8) d ⟨Nat.le_refl _, Nat.le_refl _⟩) hS (fun q _ h => hF q h) hF (fun r u t H1 locs1 ht hvm hp hB hz1 hk1 hS1 => ?_)
  rw [ht] at hB
  exact k r u hp p e s m args below meth c A hC ls H1 locs1 hl hB hS1
theorem g_callSNl {me' : gs_M} {index a : Nat} {av : List Value} {post : Int64 → gs_S → Prop} (d : decode me.2.1 pc = .ok (.invokestatic index, 3)) (hY : gY me' a) {host : String} (hL : (me.1.cls, index, me'.1, host) ∈ gw_n) (hI : Cond.static me'.1 ∈ gw) (ha : av.length = a) (h8 : (rest.map fun x => x.category).sum ≤ 8) (hst : st = av.reverse ++ rest) (hM : gM l v ly N me' n av σ (qL v ly N post)) (k : ∀ (r : Int64) (σ' : gs_S), post r σ' → gG l v ly N me n Qf (pc + 3) L (.long r :: rest) σ') : gG l v ly N me n Qf pc L st σ := by
  intro p e s m args below meth c A hC ls H locs hl hP hS
  have hD := hC.2.2.2.2.2.2.1 σ
  have hF := g_free hD hC.2.2.2.2.2.2.2.1 hS
  have hts := hC.2.2.2.2.1
  refine va_calll (va_runSN (As := av) (rest := rest) ⟨hC.1, hC.2.1, hC.2.2.1, hC.2.2.2.1, hts⟩ (hM H.size) ⟨g_N hY hts (hC.2.2.2.2.2.1.2 _ hL), hts _ hI, trivial⟩ ⟨g_blind, g_pre hC.2.2.2.2.2.1 hP hD⟩ rfl ha hl.1 hst (lv_room h8) d ⟨Nat.le_refl _, Nat.le_refl _⟩) hS (fun q _ h => hF q h) hF (fun r u t H1 locs1 ht hvm hp hB hz1 hk1 hS1 => ?_)
  rw [ht] at hB
  exact k r u hp p e s m args below meth c A hC ls H1 locs1 hl hB hS1
theorem g_callSNv {me' : gs_M} {index a : Nat} {av : List Value} {post : gs_S → Prop} (d : decode me.2.1 pc = .ok (.invokestatic index, 3)) (hY : gY me' a) {host : String} (hL : (me.1.cls, index, me'.1, host) ∈ gw_n) (hI : Cond.static me'.1 ∈ gw) (ha : av.length = a) (h8 : (rest.map fun x => x.category).sum ≤ 8) (hst : st = av.reverse ++ rest) (hM : gM l v ly N me' n av σ (qV v ly N post)) (k : ∀ (σ' : gs_S), post σ' → gG l v ly N me n Qf (pc + 3) L rest σ') : gG l v ly N me n Qf pc L st σ := by
  intro p e s m args below meth c A hC ls H locs hl hP hS
  have hD := hC.2.2.2.2.2.2.1 σ
  have hF := g_free hD hC.2.2.2.2.2.2.2.1 hS
  have hts := hC.2.2.2.2.1
  refine va_callv (va_runSN (As := av) (rest := rest) ⟨hC.1, hC.2.1, hC.2.2.1, hC.2.2.2.1, hts⟩ (hM H.size) ⟨g_N hY hts (hC.2.2.2.2.2.1.2 _ hL), hts _ hI, trivial⟩ ⟨g_blind, g_pre hC.2.2.2.2.2.1 hP hD⟩ rfl ha hl.1 hst (lv_room h8) d ⟨Nat.le_refl _, Nat.le_refl _⟩) hS (fun q _ h => hF q h) hF (fun u t H1 locs1 ht hvm hp hB hz1 hk1 hS1 => ?_)
  rw [ht] at hB
  exact k u hp p e s m args below meth c A hC ls H1 locs1 hl hB hS1
theorem g_callVi {me' : gs_M} {index a : Nat} {av : List Value} {q ci : Nat} {fds : List Nat} {post : Int32 → gs_S → Prop} (d : decode me.2.1 pc = .ok (.invokevirtual index, 3)) (hY : gY me' a) (hL : Cond.methodLink me.1.cls index me'.1 ∈ gw) (hq : q < N) (hy : ly q = .inr (ci, fds)) (hc : (vwCl[ci]?).map (fun x => x.1) = some me'.1.cls) (hI : Cond.instanceMethod me'.1 ∈ gw ∧ Cond.selects me'.1.cls me'.1 me'.1 ∈ gw) (ha : av.length = a) (h8 : (rest.map fun x => x.category).sum ≤ 8) (hst : st = av.reverse ++ .ref (v.2.2 q) :: rest) (hM : gM l v ly N me' n (.ref (v.2.2 q) :: av) σ (qI v ly N post)) (k : ∀ (r : Int32) (σ' : gs_S), post r σ' → gG l v ly N me n Qf (pc + 3) L (.int r :: rest) σ') : gG l v ly N me n Qf pc L st σ := by
  intro p e s m args below meth c A hC ls H locs hl hP hS
  have hD := hC.2.2.2.2.2.2.1 σ
  have hF := g_free hD hC.2.2.2.2.2.2.2.1 hS
  have hts := hC.2.2.2.2.1
  obtain ⟨⟨C, T, M⟩, hc1, hc2⟩ := Option.map_eq_some_iff.mp hc
  have hrv := va_recv hC.2.2.2.2.2.1.1 hP hc1 (gs_ob hq hy)
  rw [hc2] at hrv
  refine va_calli (va_runV (As := av) (rest := rest) (C := me'.1.cls) (b := v.2.2 q) ⟨hC.1, hC.2.1, hC.2.2.1, hC.2.2.2.1, hts⟩ (hM H.size) ⟨g_B hY hts hL, hts _ hI.1, hts _ hI.2⟩ ⟨g_blind, hrv, g_pre hC.2.2.2.2.2.1 hP hD⟩ rfl ha hl.1 hst (lv_room h8) d ⟨Nat.le_refl _, Nat.le_refl _⟩) hS (fun q _ h => hF q h) hF (fun r u t H1 locs1 ht hvm hp hB hz1 hk1 hS1 => ?_)
  rw [ht] at hB
  exact k r u hp p e s m args below meth c A hC ls H1 locs1 hl hB hS1
theorem g_callVl {me' : gs_M} {index a : Nat} {av : List Value} {q ci : Nat} {fds : List Nat} {post : Int64 → gs_S → Prop} (d : decode me.2.1 pc = .ok (.invokevirtual index, 3)) (hY : gY me' a) (hL : Cond.methodLink me.1.cls index me'.1 ∈ gw) (hq : q < N) (hy : ly q = .inr (ci, fds)) (hc : (vwCl[ci]?).map (fun x => x.1) = some me'.1.cls) (hI : Cond.instanceMethod me'.1 ∈ gw ∧ Cond.selects me'.1.cls me'.1 me'.1 ∈ gw) (ha : av.length = a) (h8 : (rest.map fun x => x.category).sum ≤ 8) (hst : st = av.reverse ++ .ref (v.2.2 q) :: rest) (hM : gM l v ly N me' n (.ref (v.2.2 q) :: av) σ (qL v ly N post)) (k : ∀ (r : Int64) (σ' : gs_S), post r σ' → gG l v ly N me n Qf (pc + 3) L (.long r :: rest) σ') : gG l v ly N me n Qf pc L st σ := by
  intro p e s m args below meth c A hC ls H locs hl hP hS
  have hD := hC.2.2.2.2.2.2.1 σ
  have hF := g_free hD hC.2.2.2.2.2.2.2.1 hS
  have hts := hC.2.2.2.2.1
  obtain ⟨⟨C, T, M⟩, hc1, hc2⟩ := Option.map_eq_some_iff.mp hc
  have hrv := va_recv hC.2.2.2.2.2.1.1 hP hc1 (gs_ob hq hy)
  rw [hc2] at hrv
  refine va_calll (va_runV (As := av) (rest := rest) (C := me'.1.cls) (b := v.2.2 q) ⟨hC.1, hC.2.1, hC.2.2.1, hC.2.2.2.1, hts⟩ (hM H.size) ⟨g_B hY hts hL, hts _ hI.1, hts _ hI.2⟩ ⟨g_blind, hrv, g_pre hC.2.2.2.2.2.1 hP hD⟩ rfl ha hl.1 hst (lv_room h8) d ⟨Nat.le_refl _, Nat.le_refl _⟩) hS (fun q _ h => hF q h) hF (fun r u t H1 locs1 ht hvm hp hB hz1 hk1 hS1 => ?_)
  rw [ht] at hB
  exact k r u hp p e s m args below meth c A hC ls H1 locs1 hl hB hS1
theorem g_callVv {me' : gs_M} {index a : Nat} {av : List Value} {q ci : Nat} {fds : List Nat} {post : gs_S → Prop} (d : decode me.2.1 pc = .ok (.invokevirtual index, 3)) (hY : gY me' a) (hL : Cond.methodLink me.1.cls index me'.1 ∈ gw) (hq : q < N) (hy : ly q = .inr (ci, fds)) (hc : (vwCl[ci]?).map (fun x => x.1) = some me'.1.cls) (hI : Cond.instanceMethod me'.1 ∈ gw ∧ Cond.selects me'.1.cls me'.1 me'.1 ∈ gw) (ha : av.length = a) (h8 : (rest.map fun x => x.category).sum ≤ 8) (hst : st = av.reverse ++ .ref (v.2.2 q) :: rest) (hM : gM l v ly N me' n (.ref (v.2.2 q) :: av) σ (qV v ly N post)) (k : ∀ (σ' : gs_S), post σ' → gG l v ly N me n Qf (pc + 3) L rest σ') : gG l v ly N me n Qf pc L st σ := by
  intro p e s m args below meth c A hC ls H locs hl hP hS
  have hD := hC.2.2.2.2.2.2.1 σ
  have hF := g_free hD hC.2.2.2.2.2.2.2.1 hS
  have hts := hC.2.2.2.2.1
  obtain ⟨⟨C, T, M⟩, hc1, hc2⟩ := Option.map_eq_some_iff.mp hc
  have hrv := va_recv hC.2.2.2.2.2.1.1 hP hc1 (gs_ob hq hy)
  rw [hc2] at hrv
  refine va_callv (va_runV (As := av) (rest := rest) (C := me'.1.cls) (b := v.2.2 q) ⟨hC.1, hC.2.1, hC.2.2.1, hC.2.2.2.1, hts⟩ (hM H.size) ⟨g_B hY hts hL, hts _ hI.1, hts _ hI.2⟩ ⟨g_blind, hrv, g_pre hC.2.2.2.2.2.1 hP hD⟩ rfl ha hl.1 hst (lv_room h8) d ⟨Nat.le_refl _, Nat.le_refl _⟩) hS (fun q _ h => hF q h) hF (fun u t H1 locs1 ht hvm hp hB hz1 hk1 hS1 => ?_)
  rw [ht] at hB
  exact k u hp p e s m args below meth c A hC ls H1 locs1 hl hB hS1
theorem g_callVNi {me' : gs_M} {index a : Nat} {av : List Value} {q ci : Nat} {fds : List Nat} {post : Int32 → gs_S → Prop} (d : decode me.2.1 pc = .ok (.invokevirtual index, 3)) (hY : gY me' a) {host : String} (hL : (me.1.cls, index, me'.1, host) ∈ gw_n) (hq : q < N) (hy : ly q = .inr (ci, fds)) (hc : (vwCl[ci]?).map (fun x => x.1) = some me'.1.cls) (hI : Cond.instanceMethod me'.1 ∈ gw ∧ Cond.selects me'.1.cls me'.1 me'.1 ∈ gw) (ha : av.length = a) (h8 : (rest.map fun x => x.category).sum ≤ 8) (hst : st = av.reverse ++ .ref (v.2.2 q) :: rest) (hM : gM l v ly N me' n (.ref (v.2.2 q) :: av) σ (qI v ly N post)) (k : ∀ (r : Int32) (σ' : gs_S), post r σ' → gG l v ly N me n Qf (pc + 3) L (.int r :: rest) σ') : gG l v ly N me n Qf pc L st σ := by
  intro p e s m args below meth c A hC ls H locs hl hP hS
  have hD := hC.2.2.2.2.2.2.1 σ
  have hF := g_free hD hC.2.2.2.2.2.2.2.1 hS
  have hts := hC.2.2.2.2.1
  obtain ⟨⟨C, T, M⟩, hc1, hc2⟩ := Option.map_eq_some_iff.mp hc
  have hrv := va_recv hC.2.2.2.2.2.1.1 hP hc1 (gs_ob hq hy)
  rw [hc2] at hrv
  refine va_calli (va_runVN (As := av) (rest := rest) (C := me'.1.cls) (b := v.2.2 q) ⟨hC.1, hC.2.1, hC.2.2.1, hC.2.2.2.1, hts⟩ (hM H.size) ⟨g_N hY hts (hC.2.2.2.2.2.1.2 _ hL), hts _ hI.1, hts _ hI.2⟩ ⟨g_blind, hrv, g_pre hC.2.2.2.2.2.1 hP hD⟩ rfl ha hl.1 hst (lv_room h8) d ⟨Nat.le_refl _, Nat.le_refl _⟩) hS (fun q _ h => hF q h) hF (fun r u t H1 locs1 ht hvm hp hB hz1 hk1 hS1 => ?_)
  rw [ht] at hB
  exact k r u hp p e s m args below meth c A hC ls H1 locs1 hl hB hS1
theorem g_callVNl {me' : gs_M} {index a : Nat} {av : List Value} {q ci : Nat} {fds : List Nat} {post : Int64 → gs_S → Prop} (d : decode me.2.1 pc = .ok (.invokevirtual index, 3)) (hY : gY me' a) {host : String} (hL : (me.1.cls, index, me'.1, host) ∈ gw_n) (hq : q < N) (hy : ly q = .inr (ci, fds)) (hc : (vwCl[ci]?).map (fun x => x.1) = some me'.1.cls) (hI : Cond.instanceMethod me'.1 ∈ gw ∧ Cond.selects me'.1.cls me'.1 me'.1 ∈ gw) (ha : av.length = a) (h8 : (rest.map fun x => x.category).sum ≤ 8) (hst : st = av.reverse ++ .ref (v.2.2 q) :: rest) (hM : gM l v ly N me' n (.ref (v.2.2 q) :: av) σ (qL v ly N post)) (k : ∀ (r : Int64) (σ' : gs_S), post r σ' → gG l v ly N me n Qf (pc + 3) L (.long r :: rest) σ') : gG l v ly N me n Qf pc L st σ := by
  intro p e s m args below meth c A hC ls H locs hl hP hS
  have hD := hC.2.2.2.2.2.2.1 σ
  have hF := g_free hD hC.2.2.2.2.2.2.2.1 hS
  have hts := hC.2.2.2.2.1
  obtain ⟨⟨C, T, M⟩, hc1, hc2⟩ := Option.map_eq_some_iff.mp hc
  have hrv := va_recv hC.2.2.2.2.2.1.1 hP hc1 (gs_ob hq hy)
  rw [hc2] at hrv
  refine va_calll (va_runVN (As := av) (rest := rest) (C := me'.1.cls) (b := v.2.2 q) ⟨hC.1, hC.2.1, hC.2.2.1, hC.2.2.2.1, hts⟩ (hM H.size) ⟨g_N hY hts (hC.2.2.2.2.2.1.2 _ hL), hts _ hI.1, hts _ hI.2⟩ ⟨g_blind, hrv, g_pre hC.2.2.2.2.2.1 hP hD⟩ rfl ha hl.1 hst (lv_room h8) d ⟨Nat.le_refl _, Nat.le_refl _⟩) hS (fun q _ h => hF q h) hF (fun r u t H1 locs1 ht hvm hp hB hz1 hk1 hS1 => ?_)
  rw [ht] at hB
  exact k r u hp p e s m args below meth c A hC ls H1 locs1 hl hB hS1
theorem g_callVNv {me' : gs_M} {index a : Nat} {av : List Value} {q ci : Nat} {fds : List Nat} {post : gs_S → Prop} (d : decode me.2.1 pc = .ok (.invokevirtual index, 3)) (hY : gY me' a) {host : String} (hL : (me.1.cls, index, me'.1, host) ∈ gw_n) (hq : q < N) (hy : ly q = .inr (ci, fds)) (hc : (vwCl[ci]?).map (fun x => x.1) = some me'.1.cls) (hI : Cond.instanceMethod me'.1 ∈ gw ∧ Cond.selects me'.1.cls me'.1 me'.1 ∈ gw) (ha : av.length = a) (h8 : (rest.map fun x => x.category).sum ≤ 8) (hst : st = av.reverse ++ .ref (v.2.2 q) :: rest) (hM : gM l v ly N me' n (.ref (v.2.2 q) :: av) σ (qV v ly N post)) (k : ∀ (σ' : gs_S), post σ' → gG l v ly N me n Qf (pc + 3) L rest σ') : gG l v ly N me n Qf pc L st σ := by
  intro p e s m args below meth c A hC ls H locs hl hP hS
  have hD := hC.2.2.2.2.2.2.1 σ
  have hF := g_free hD hC.2.2.2.2.2.2.2.1 hS
  have hts := hC.2.2.2.2.1
  obtain ⟨⟨C, T, M⟩, hc1, hc2⟩ := Option.map_eq_some_iff.mp hc
  have hrv := va_recv hC.2.2.2.2.2.1.1 hP hc1 (gs_ob hq hy)
  rw [hc2] at hrv
  refine va_callv (va_runVN (As := av) (rest := rest) (C := me'.1.cls) (b := v.2.2 q) ⟨hC.1, hC.2.1, hC.2.2.1, hC.2.2.2.1, hts⟩ (hM H.size) ⟨g_N hY hts (hC.2.2.2.2.2.1.2 _ hL), hts _ hI.1, hts _ hI.2⟩ ⟨g_blind, hrv, g_pre hC.2.2.2.2.2.1 hP hD⟩ rfl ha hl.1 hst (lv_room h8) d ⟨Nat.le_refl _, Nat.le_refl _⟩) hS (fun q _ h => hF q h) hF (fun u t H1 locs1 ht hvm hp hB hz1 hk1 hS1 => ?_)
  rw [ht] at hB
  exact k u hp p e s m args below meth c A hC ls H1 locs1 hl hB hS1
theorem g_lcmp_eq {x y : Int64} {off : Int} {tgt : Nat} (d : decode me.2.1 pc = .ok (.lcmp, 1)) (d2 : decode me.2.1 (pc + 1) = .ok (.ifCond .eq off, 3)) (ht : ((pc + 1 : Nat) : Int) + off = (tgt : Int)) (kt : x = y → gG l v ly N me n Qf tgt L rest σ) (kf : ¬ x = y → gG l v ly N me n Qf (pc + 1 + 3) L rest σ) : gG l v ly N me n Qf pc L (.long y :: .long x :: rest) σ :=
  g_lcmp d (g_if_eq d2 ht (fun h => kt (g_cmp_eq.mp h)) (fun h => kf (fun z => h (g_cmp_eq.mpr z))))
theorem g_lcmp_ne {x y : Int64} {off : Int} {tgt : Nat} (d : decode me.2.1 pc = .ok (.lcmp, 1)) (d2 : decode me.2.1 (pc + 1) = .ok (.ifCond .ne off, 3)) (ht : ((pc + 1 : Nat) : Int) + off = (tgt : Int)) (kt : ¬ x = y → gG l v ly N me n Qf tgt L rest σ) (kf : x = y → gG l v ly N me n Qf (pc + 1 + 3) L rest σ) : gG l v ly N me n Qf pc L (.long y :: .long x :: rest) σ :=
  g_lcmp d (g_if_ne d2 ht (fun h => kt (fun z => h (g_cmp_eq.mpr z))) (fun h => kf (g_cmp_eq.mp h)))
theorem g_lcmp_lt {x y : Int64} {off : Int} {tgt : Nat} (d : decode me.2.1 pc = .ok (.lcmp, 1)) (d2 : decode me.2.1 (pc + 1) = .ok (.ifCond .lt off, 3)) (ht : ((pc + 1 : Nat) : Int) + off = (tgt : Int)) (kt : x < y → gG l v ly N me n Qf tgt L rest σ) (kf : ¬ x < y → gG l v ly N me n Qf (pc + 1 + 3) L rest σ) : gG l v ly N me n Qf pc L (.long y :: .long x :: rest) σ :=
  g_lcmp d (g_if_lt d2 ht (fun h => kt (g_cmp_lt.mp h)) (fun h => kf (fun z => h (g_cmp_lt.mpr z))))
theorem g_lcmp_ge {x y : Int64} {off : Int} {tgt : Nat} (d : decode me.2.1 pc = .ok (.lcmp, 1)) (d2 : decode me.2.1 (pc + 1) = .ok (.ifCond .ge off, 3)) (ht : ((pc + 1 : Nat) : Int) + off = (tgt : Int)) (kt : y ≤ x → gG l v ly N me n Qf tgt L rest σ) (kf : ¬ y ≤ x → gG l v ly N me n Qf (pc + 1 + 3) L rest σ) : gG l v ly N me n Qf pc L (.long y :: .long x :: rest) σ :=
  g_lcmp d (g_if_ge d2 ht (fun h => kt (g_cmp_ge.mp h)) (fun h => kf (fun z => h (g_cmp_ge.mpr z))))
theorem g_lcmp_gt {x y : Int64} {off : Int} {tgt : Nat} (d : decode me.2.1 pc = .ok (.lcmp, 1)) (d2 : decode me.2.1 (pc + 1) = .ok (.ifCond .gt off, 3)) (ht : ((pc + 1 : Nat) : Int) + off = (tgt : Int)) (kt : y < x → gG l v ly N me n Qf tgt L rest σ) (kf : ¬ y < x → gG l v ly N me n Qf (pc + 1 + 3) L rest σ) : gG l v ly N me n Qf pc L (.long y :: .long x :: rest) σ :=
  g_lcmp d (g_if_gt d2 ht (fun h => kt (g_cmp_gt.mp h)) (fun h => kf (fun z => h (g_cmp_gt.mpr z))))
theorem g_lcmp_le {x y : Int64} {off : Int} {tgt : Nat} (d : decode me.2.1 pc = .ok (.lcmp, 1)) (d2 : decode me.2.1 (pc + 1) = .ok (.ifCond .le off, 3)) (ht : ((pc + 1 : Nat) : Int) + off = (tgt : Int)) (kt : x ≤ y → gG l v ly N me n Qf tgt L rest σ) (kf : ¬ x ≤ y → gG l v ly N me n Qf (pc + 1 + 3) L rest σ) : gG l v ly N me n Qf pc L (.long y :: .long x :: rest) σ :=
  g_lcmp d (g_if_le d2 ht (fun h => kt (g_cmp_le.mp h)) (fun h => kf (fun z => h (g_cmp_le.mpr z))))
theorem g_cpw : nativeFrameWords "java/lang/System" "arraycopy" 5 + 11 ≤ 32 := by decide +kernel
theorem g_cpl (h8 : (rest.map fun x => x.category).sum ≤ 8) : (rest.map fun x => x.category).sum + (nativeFrameWords "java/lang/System" "arraycopy" 5 + 11) ≤ (gr_r (n + 1)).locals := by
  have h := g_cpw
  show _ ≤ 40 * (n + 1)
  omega
theorem g_copyi {index q0 q1 n0 n1 b0 b1 : Nat} {cnt : Int32} (d : decode me.2.1 pc = .ok (.invokestatic index, 3)) (hL : Cond.methodLink me.1.cls index arraycopyName ∈ gw) (hq0 : q0 < N) (hy0 : ly q0 = .inl (0, n0, b0)) (hq1 : q1 < N) (hy1 : ly q1 = .inl (0, n1, b1)) (h3 : ¬ cnt < 0) (h4 : cnt.toNatClampNeg ≤ n0) (h5 : cnt.toNatClampNeg ≤ n1) (h8 : (rest.map fun x => x.category).sum ≤ 8)
    (k : gG l v ly N me n Qf (pc + 3) L rest (gs_pA σ q1 (va_cpy (σ.1 q0) (σ.1 q1) 0 0 cnt.toNatClampNeg))) : gG l v ly N me n Qf pc L (.int cnt :: .int 0 :: .ref (v.2.2 q1) :: .int 0 :: .ref (v.2.2 q0) :: rest) σ := by
  intro p e s m args below meth c A hC ls H locs hl hP hS
  have h4' : (0 : Int32).toNatClampNeg + cnt.toNatClampNeg ≤ n0 := by rw [sb_cl0]; omega
  have h5' : (0 : Int32).toNatClampNeg + cnt.toNatClampNeg ≤ n1 := by rw [sb_cl0]; omega
  refine va_copyi hC.1 hC.2.1 (by rw [hC.2.2.1]; exact hl.1.symm) hC.2.2.2.1 (hC.2.2.2.2.1 _ hL) (hC.2.2.2.2.1 _ gw_cpn) (hC.2.2.2.2.1 _ gw_cps) (hC.2.2.2.2.1 _ gw_cpi) hC.2.2.2.2.2.1.1 hP (hC.2.2.2.2.2.2.1 σ) hS q0 q1 0 0 (gs_ai hq0 hy0) (gs_ai hq1 hy1) rfl rfl rfl (by decide) (by decide) h3 h4' h5' (fun _ _ => rfl) (Nat.succ_le_succ (Nat.zero_le _)) (g_cpl h8) d (fun H locs hP' hD' hS => ?_)
  rw [gs_set_A hy1 (by decide) (by decide)] at hP'
  exact k p e s m args below meth c A hC ls H locs hl hP' hS
theorem g_copyl {index q0 q1 n0 n1 b0 b1 : Nat} {cnt : Int32} (d : decode me.2.1 pc = .ok (.invokestatic index, 3)) (hL : Cond.methodLink me.1.cls index arraycopyName ∈ gw) (hq0 : q0 < N) (hy0 : ly q0 = .inl (1, n0, b0)) (hq1 : q1 < N) (hy1 : ly q1 = .inl (1, n1, b1)) (h3 : ¬ cnt < 0) (h4 : cnt.toNatClampNeg ≤ n0) (h5 : cnt.toNatClampNeg ≤ n1) (h8 : (rest.map fun x => x.category).sum ≤ 8)
    (k : gG l v ly N me n Qf (pc + 3) L rest (gs_pB σ q1 (va_cpy (σ.2.1 q0) (σ.2.1 q1) 0 0 cnt.toNatClampNeg))) : gG l v ly N me n Qf pc L (.int cnt :: .int 0 :: .ref (v.2.2 q1) :: .int 0 :: .ref (v.2.2 q0) :: rest) σ := by
  intro p e s m args below meth c A hC ls H locs hl hP hS
  have h4' : (0 : Int32).toNatClampNeg + cnt.toNatClampNeg ≤ n0 := by rw [sb_cl0]; omega
  have h5' : (0 : Int32).toNatClampNeg + cnt.toNatClampNeg ≤ n1 := by rw [sb_cl0]; omega
  refine va_copyl hC.1 hC.2.1 (by rw [hC.2.2.1]; exact hl.1.symm) hC.2.2.2.1 (hC.2.2.2.2.1 _ hL) (hC.2.2.2.2.1 _ gw_cpn) (hC.2.2.2.2.1 _ gw_cps) (hC.2.2.2.2.1 _ gw_cpi) hC.2.2.2.2.2.1.1 hP (hC.2.2.2.2.2.2.1 σ) hS q0 q1 1 1 (gs_al hq0 hy0) (gs_al hq1 hy1) rfl rfl rfl (by decide) (by decide) h3 h4' h5' (fun _ _ => rfl) (Nat.succ_le_succ (Nat.zero_le _)) (g_cpl h8) d (fun H locs hP' hD' hS => ?_)
  rw [gs_set_B hy1] at hP'
  exact k p e s m args below meth c A hC ls H locs hl hP' hS
theorem g_lookup {dflt : Int} {ps : Array (Int × Int)} {len : Nat} {x : Int32} {off : Int} {tgt : Nat} (d : decode me.2.1 pc = .ok (.lookupswitch dflt ps, len)) (hp : (ps.toList.zip (ps.toList.drop 1)).all (fun (a, next) => a.1 < next.1) = true) (ho : Op.lookupswitch.offset ps.toList dflt x.toInt = off) (ht : (pc : Int) + off = (tgt : Int)) (k : gG l v ly N me n Qf tgt L rest σ) : gG l v ly N me n Qf pc L (.int x :: rest) σ :=
  fun p e s m args below meth c A hC ls H locs hl hP hS => lv_lookup hC.1 hC.2.1 d hp ho ht (k p e s m args below meth c A hC ls H locs hl hP hS)

end GR
end
section
def me_A_init : gs_M := (⟨"LineRules", "<init>", "()V"⟩, prog_1_method_1_code, 1, none)
theorem Y_A_init : gY me_A_init 0 := ⟨(gw_t1 (List.mem_of_getElem? (i := 18) rfl) rfl), (gw_t1 (List.mem_of_getElem? (i := 1) rfl) rfl), ⟨by decide +kernel, by decide +kernel, by decide +kernel⟩, by decide +kernel⟩
def me_T_init : gs_M := (⟨"LineRules$Text", "<init>", "()V"⟩, prog_8_method_1_code, 1, none)
theorem Y_T_init : gY me_T_init 0 := ⟨(gw_t1 (List.mem_of_getElem? (i := 26) rfl) rfl), (gw_t1 (List.mem_of_getElem? (i := 2) rfl) rfl), ⟨by decide +kernel, by decide +kernel, by decide +kernel⟩, by decide +kernel⟩
def me_R_init : gs_M := (⟨"LineRules$Rule", "<init>", "()V"⟩, prog_7_method_1_code, 1, none)
theorem Y_R_init : gY me_R_init 0 := ⟨(gw_t1 (List.mem_of_getElem? (i := 62) rfl) rfl), (gw_t1 (List.mem_of_getElem? (i := 3) rfl) rfl), ⟨by decide +kernel, by decide +kernel, by decide +kernel⟩, by decide +kernel⟩
def me_C_init : gs_M := (⟨"LineRules$Ring", "<init>", "(LLineRules$Rule;)V"⟩, prog_6_method_1_code, 2, none)
theorem Y_C_init : gY me_C_init 1 := ⟨(gw_t1 (List.mem_of_getElem? (i := 130) rfl) rfl), (gw_t1 (List.mem_of_getElem? (i := 4) rfl) rfl), ⟨by decide +kernel, by decide +kernel, by decide +kernel⟩, by decide +kernel⟩
def me_P_init : gs_M := (⟨"LineRules$Pairs", "<init>", "(LLineRules$Rule;)V"⟩, prog_4_method_1_code, 2, none)
theorem Y_P_init : gY me_P_init 1 := ⟨(gw_t1 (List.mem_of_getElem? (i := 156) rfl) rfl), (gw_t1 (List.mem_of_getElem? (i := 5) rfl) rfl), ⟨by decide +kernel, by decide +kernel, by decide +kernel⟩, by decide +kernel⟩
def me_V_init : gs_M := (⟨"LineRules$Inverse", "<init>", "(LLineRules$Rule;LLineRules$Pairs;)V"⟩, prog_2_method_1_code, 3, none)
theorem Y_V_init : gY me_V_init 2 := ⟨(gw_t1 (List.mem_of_getElem? (i := 184) rfl) rfl), (gw_t1 (List.mem_of_getElem? (i := 6) rfl) rfl), ⟨by decide +kernel, by decide +kernel, by decide +kernel⟩, by decide +kernel⟩
def me_W_init : gs_M := (⟨"LineRules$Weights", "<init>", "(LLineRules$Rule;)V"⟩, prog_9_method_1_code, 2, none)
theorem Y_W_init : gY me_W_init 1 := ⟨(gw_t1 (List.mem_of_getElem? (i := 209) rfl) rfl), (gw_t1 (List.mem_of_getElem? (i := 7) rfl) rfl), ⟨by decide +kernel, by decide +kernel, by decide +kernel⟩, by decide +kernel⟩
def me_O_init : gs_M := (⟨"LineRules$Orphan", "<init>", "(LLineRules$Rule;LLineRules$Pairs;)V"⟩, prog_3_method_1_code, 3, none)
theorem Y_O_init : gY me_O_init 2 := ⟨(gw_t1 (List.mem_of_getElem? (i := 236) rfl) rfl), (gw_t1 (List.mem_of_getElem? (i := 8) rfl) rfl), ⟨by decide +kernel, by decide +kernel, by decide +kernel⟩, by decide +kernel⟩
def me_H_init : gs_M := (⟨"LineRules$Past", "<init>", "(LLineRules$Rule;LLineRules$Ring;)V"⟩, prog_5_method_1_code, 3, none)
theorem Y_H_init : gY me_H_init 2 := ⟨(gw_t2 (List.mem_of_getElem? (i := 33) rfl) rfl), (gw_t1 (List.mem_of_getElem? (i := 9) rfl) rfl), ⟨by decide +kernel, by decide +kernel, by decide +kernel⟩, by decide +kernel⟩
def me_A_load : gs_M := (⟨"LineRules", "load", "(I)I"⟩, prog_1_method_2_code, 2, (some .int))
theorem Y_A_load : gY me_A_load 1 := ⟨(gw_t2 (List.mem_of_getElem? (i := 94) rfl) rfl), (gw_t1 (List.mem_of_getElem? (i := 1) rfl) rfl), ⟨by decide +kernel, by decide +kernel, by decide +kernel⟩, by decide +kernel⟩
theorem I_A_load : Cond.instanceMethod me_A_load.1 ∈ gw ∧ Cond.selects me_A_load.1.cls me_A_load.1 me_A_load.1 ∈ gw := ⟨(gw_t2 (List.mem_of_getElem? (i := 92) rfl) rfl), (gw_t2 (List.mem_of_getElem? (i := 93) rfl) rfl)⟩
def me_T_append : gs_M := (⟨"LineRules$Text", "append", "(I)I"⟩, prog_8_method_2_code, 2, (some .int))
theorem Y_T_append : gY me_T_append 1 := ⟨(gw_t2 (List.mem_of_getElem? (i := 98) rfl) rfl), (gw_t1 (List.mem_of_getElem? (i := 2) rfl) rfl), ⟨by decide +kernel, by decide +kernel, by decide +kernel⟩, by decide +kernel⟩
theorem I_T_append : Cond.instanceMethod me_T_append.1 ∈ gw ∧ Cond.selects me_T_append.1.cls me_T_append.1 me_T_append.1 ∈ gw := ⟨(gw_t2 (List.mem_of_getElem? (i := 96) rfl) rfl), (gw_t2 (List.mem_of_getElem? (i := 97) rfl) rfl)⟩
def me_A_rule : gs_M := (⟨"LineRules", "rule", "()I"⟩, prog_1_method_3_code, 2, (some .int))
theorem Y_A_rule : gY me_A_rule 0 := ⟨(gw_t2 (List.mem_of_getElem? (i := 102) rfl) rfl), (gw_t1 (List.mem_of_getElem? (i := 1) rfl) rfl), ⟨by decide +kernel, by decide +kernel, by decide +kernel⟩, by decide +kernel⟩
theorem I_A_rule : Cond.instanceMethod me_A_rule.1 ∈ gw ∧ Cond.selects me_A_rule.1.cls me_A_rule.1 me_A_rule.1 ∈ gw := ⟨(gw_t2 (List.mem_of_getElem? (i := 100) rfl) rfl), (gw_t2 (List.mem_of_getElem? (i := 101) rfl) rfl)⟩
def me_T_readInto : gs_M := (⟨"LineRules$Text", "readInto", "(LLineRules$Rule;)I"⟩, prog_8_method_3_code, 3, (some .int))
theorem Y_T_readInto : gY me_T_readInto 1 := ⟨(gw_t2 (List.mem_of_getElem? (i := 106) rfl) rfl), (gw_t1 (List.mem_of_getElem? (i := 2) rfl) rfl), ⟨by decide +kernel, by decide +kernel, by decide +kernel⟩, by decide +kernel⟩
theorem I_T_readInto : Cond.instanceMethod me_T_readInto.1 ∈ gw ∧ Cond.selects me_T_readInto.1.cls me_T_readInto.1 me_T_readInto.1 ∈ gw := ⟨(gw_t2 (List.mem_of_getElem? (i := 104) rfl) rfl), (gw_t2 (List.mem_of_getElem? (i := 105) rfl) rfl)⟩
def me_T_fault : gs_M := (⟨"LineRules$Text", "fault", "()I"⟩, prog_8_method_4_code, 2, (some .int))
theorem Y_T_fault : gY me_T_fault 0 := ⟨(gw_t2 (List.mem_of_getElem? (i := 110) rfl) rfl), (gw_t1 (List.mem_of_getElem? (i := 2) rfl) rfl), ⟨by decide +kernel, by decide +kernel, by decide +kernel⟩, by decide +kernel⟩
theorem I_T_fault : Cond.instanceMethod me_T_fault.1 ∈ gw ∧ Cond.selects me_T_fault.1.cls me_T_fault.1 me_T_fault.1 ∈ gw := ⟨(gw_t2 (List.mem_of_getElem? (i := 109) rfl) rfl), (gw_s (q := (⟨"LineRules$Text", "fault", "()I"⟩, 9)) (by decide +kernel) rfl)⟩
def me_T_fitsHead : gs_M := (⟨"LineRules$Text", "fitsHead", "(IC)Z"⟩, prog_8_method_5_code, 3, (some .boolean))
theorem Y_T_fitsHead : gY me_T_fitsHead 2 := ⟨(gw_t2 (List.mem_of_getElem? (i := 114) rfl) rfl), (gw_t1 (List.mem_of_getElem? (i := 2) rfl) rfl), ⟨by decide +kernel, by decide +kernel, by decide +kernel⟩, by decide +kernel⟩
theorem I_T_fitsHead : Cond.instanceMethod me_T_fitsHead.1 ∈ gw ∧ Cond.selects me_T_fitsHead.1.cls me_T_fitsHead.1 me_T_fitsHead.1 ∈ gw := ⟨(gw_t2 (List.mem_of_getElem? (i := 113) rfl) rfl), (gw_s (q := (⟨"LineRules$Text", "fitsHead", "(IC)Z"⟩, 9)) (by decide +kernel) rfl)⟩
def me_A_power : gs_M := (⟨"LineRules", "power", "(II)I"⟩, prog_1_method_21_code, 4, (some .int))
theorem Y_A_power : gY me_A_power 2 := ⟨(gw_t2 (List.mem_of_getElem? (i := 117) rfl) rfl), (gw_t1 (List.mem_of_getElem? (i := 1) rfl) rfl), ⟨by decide +kernel, by decide +kernel, by decide +kernel⟩, by decide +kernel⟩
theorem I_A_power : Cond.static me_A_power.1 ∈ gw := (gw_t2 (List.mem_of_getElem? (i := 116) rfl) rfl)
def me_T_digitsFault : gs_M := (⟨"LineRules$Text", "digitsFault", "(I)I"⟩, prog_8_method_6_code, 4, (some .int))
theorem Y_T_digitsFault : gY me_T_digitsFault 1 := ⟨(gw_t2 (List.mem_of_getElem? (i := 121) rfl) rfl), (gw_t1 (List.mem_of_getElem? (i := 2) rfl) rfl), ⟨by decide +kernel, by decide +kernel, by decide +kernel⟩, by decide +kernel⟩
theorem I_T_digitsFault : Cond.instanceMethod me_T_digitsFault.1 ∈ gw ∧ Cond.selects me_T_digitsFault.1.cls me_T_digitsFault.1 me_T_digitsFault.1 ∈ gw := ⟨(gw_t2 (List.mem_of_getElem? (i := 120) rfl) rfl), (gw_s (q := (⟨"LineRules$Text", "digitsFault", "(I)I"⟩, 9)) (by decide +kernel) rfl)⟩
def me_T_valueFor : gs_M := (⟨"LineRules$Text", "valueFor", "(I)I"⟩, prog_8_method_10_code, 4, (some .int))
theorem Y_T_valueFor : gY me_T_valueFor 1 := ⟨(gw_t2 (List.mem_of_getElem? (i := 125) rfl) rfl), (gw_t1 (List.mem_of_getElem? (i := 2) rfl) rfl), ⟨by decide +kernel, by decide +kernel, by decide +kernel⟩, by decide +kernel⟩
theorem I_T_valueFor : Cond.instanceMethod me_T_valueFor.1 ∈ gw ∧ Cond.selects me_T_valueFor.1.cls me_T_valueFor.1 me_T_valueFor.1 ∈ gw := ⟨(gw_t2 (List.mem_of_getElem? (i := 124) rfl) rfl), (gw_s (q := (⟨"LineRules$Text", "valueFor", "(I)I"⟩, 9)) (by decide +kernel) rfl)⟩
def me_T_choice : gs_M := (⟨"LineRules$Text", "choice", "()I"⟩, prog_8_method_12_code, 4, (some .int))
theorem Y_T_choice : gY me_T_choice 0 := ⟨(gw_t2 (List.mem_of_getElem? (i := 129) rfl) rfl), (gw_t1 (List.mem_of_getElem? (i := 2) rfl) rfl), ⟨by decide +kernel, by decide +kernel, by decide +kernel⟩, by decide +kernel⟩
theorem I_T_choice : Cond.instanceMethod me_T_choice.1 ∈ gw ∧ Cond.selects me_T_choice.1.cls me_T_choice.1 me_T_choice.1 ∈ gw := ⟨(gw_t2 (List.mem_of_getElem? (i := 128) rfl) rfl), (gw_s (q := (⟨"LineRules$Text", "choice", "()I"⟩, 9)) (by decide +kernel) rfl)⟩
def me_T_joined : gs_M := (⟨"LineRules$Text", "joined", "(I)I"⟩, prog_8_method_14_code, 6, (some .int))
theorem Y_T_joined : gY me_T_joined 1 := ⟨(gw_t2 (List.mem_of_getElem? (i := 133) rfl) rfl), (gw_t1 (List.mem_of_getElem? (i := 2) rfl) rfl), ⟨by decide +kernel, by decide +kernel, by decide +kernel⟩, by decide +kernel⟩
theorem I_T_joined : Cond.instanceMethod me_T_joined.1 ∈ gw ∧ Cond.selects me_T_joined.1.cls me_T_joined.1 me_T_joined.1 ∈ gw := ⟨(gw_t2 (List.mem_of_getElem? (i := 132) rfl) rfl), (gw_s (q := (⟨"LineRules$Text", "joined", "(I)I"⟩, 9)) (by decide +kernel) rfl)⟩
def me_T_part : gs_M := (⟨"LineRules$Text", "part", "()I"⟩, prog_8_method_17_code, 3, (some .int))
theorem Y_T_part : gY me_T_part 0 := ⟨(gw_t2 (List.mem_of_getElem? (i := 137) rfl) rfl), (gw_t1 (List.mem_of_getElem? (i := 2) rfl) rfl), ⟨by decide +kernel, by decide +kernel, by decide +kernel⟩, by decide +kernel⟩
theorem I_T_part : Cond.instanceMethod me_T_part.1 ∈ gw ∧ Cond.selects me_T_part.1.cls me_T_part.1 me_T_part.1 ∈ gw := ⟨(gw_t2 (List.mem_of_getElem? (i := 136) rfl) rfl), (gw_s (q := (⟨"LineRules$Text", "part", "()I"⟩, 9)) (by decide +kernel) rfl)⟩
def me_T_here : gs_M := (⟨"LineRules$Text", "here", "()C"⟩, prog_8_method_11_code, 1, (some .char))
theorem Y_T_here : gY me_T_here 0 := ⟨(gw_t2 (List.mem_of_getElem? (i := 141) rfl) rfl), (gw_t1 (List.mem_of_getElem? (i := 2) rfl) rfl), ⟨by decide +kernel, by decide +kernel, by decide +kernel⟩, by decide +kernel⟩
theorem I_T_here : Cond.instanceMethod me_T_here.1 ∈ gw ∧ Cond.selects me_T_here.1.cls me_T_here.1 me_T_here.1 ∈ gw := ⟨(gw_t2 (List.mem_of_getElem? (i := 140) rfl) rfl), (gw_s (q := (⟨"LineRules$Text", "here", "()C"⟩, 9)) (by decide +kernel) rfl)⟩
def me_T_unturned : gs_M := (⟨"LineRules$Text", "unturned", "()I"⟩, prog_8_method_18_code, 2, (some .int))
theorem Y_T_unturned : gY me_T_unturned 0 := ⟨(gw_t2 (List.mem_of_getElem? (i := 145) rfl) rfl), (gw_t1 (List.mem_of_getElem? (i := 2) rfl) rfl), ⟨by decide +kernel, by decide +kernel, by decide +kernel⟩, by decide +kernel⟩
theorem I_T_unturned : Cond.instanceMethod me_T_unturned.1 ∈ gw ∧ Cond.selects me_T_unturned.1.cls me_T_unturned.1 me_T_unturned.1 ∈ gw := ⟨(gw_t2 (List.mem_of_getElem? (i := 144) rfl) rfl), (gw_s (q := (⟨"LineRules$Text", "unturned", "()I"⟩, 9)) (by decide +kernel) rfl)⟩
def me_T_bracket : gs_M := (⟨"LineRules$Text", "bracket", "()I"⟩, prog_8_method_19_code, 2, (some .int))
theorem Y_T_bracket : gY me_T_bracket 0 := ⟨(gw_t2 (List.mem_of_getElem? (i := 149) rfl) rfl), (gw_t1 (List.mem_of_getElem? (i := 2) rfl) rfl), ⟨by decide +kernel, by decide +kernel, by decide +kernel⟩, by decide +kernel⟩
theorem I_T_bracket : Cond.instanceMethod me_T_bracket.1 ∈ gw ∧ Cond.selects me_T_bracket.1.cls me_T_bracket.1 me_T_bracket.1 ∈ gw := ⟨(gw_t2 (List.mem_of_getElem? (i := 148) rfl) rfl), (gw_s (q := (⟨"LineRules$Text", "bracket", "()I"⟩, 9)) (by decide +kernel) rfl)⟩
def me_T_opens : gs_M := (⟨"LineRules$Text", "opens", "()Z"⟩, prog_8_method_13_code, 1, (some .boolean))
theorem Y_T_opens : gY me_T_opens 0 := ⟨(gw_t2 (List.mem_of_getElem? (i := 153) rfl) rfl), (gw_t1 (List.mem_of_getElem? (i := 2) rfl) rfl), ⟨by decide +kernel, by decide +kernel, by decide +kernel⟩, by decide +kernel⟩
theorem I_T_opens : Cond.instanceMethod me_T_opens.1 ∈ gw ∧ Cond.selects me_T_opens.1.cls me_T_opens.1 me_T_opens.1 ∈ gw := ⟨(gw_t2 (List.mem_of_getElem? (i := 152) rfl) rfl), (gw_s (q := (⟨"LineRules$Text", "opens", "()Z"⟩, 9)) (by decide +kernel) rfl)⟩
def me_T_levelOf : gs_M := (⟨"LineRules$Text", "levelOf", "(C)I"⟩, prog_8_method_15_code, 1, (some .int))
theorem Y_T_levelOf : gY me_T_levelOf 1 := ⟨(gw_t2 (List.mem_of_getElem? (i := 156) rfl) rfl), (gw_t1 (List.mem_of_getElem? (i := 2) rfl) rfl), ⟨by decide +kernel, by decide +kernel, by decide +kernel⟩, by decide +kernel⟩
theorem I_T_levelOf : Cond.static me_T_levelOf.1 ∈ gw := (gw_t2 (List.mem_of_getElem? (i := 155) rfl) rfl)
def me_T_together : gs_M := (⟨"LineRules$Text", "together", "(ICI)I"⟩, prog_8_method_16_code, 4, (some .int))
theorem Y_T_together : gY me_T_together 3 := ⟨(gw_t2 (List.mem_of_getElem? (i := 160) rfl) rfl), (gw_t1 (List.mem_of_getElem? (i := 2) rfl) rfl), ⟨by decide +kernel, by decide +kernel, by decide +kernel⟩, by decide +kernel⟩
theorem I_T_together : Cond.instanceMethod me_T_together.1 ∈ gw ∧ Cond.selects me_T_together.1.cls me_T_together.1 me_T_together.1 ∈ gw := ⟨(gw_t2 (List.mem_of_getElem? (i := 159) rfl) rfl), (gw_s (q := (⟨"LineRules$Text", "together", "(ICI)I"⟩, 9)) (by decide +kernel) rfl)⟩
def me_J_max : gs_M := (⟨"java/lang/Math", "max", "(II)I"⟩, prog_12_method_65_code, 2, (some .int))
theorem Y_J_max : gY me_J_max 2 := ⟨(gw_t2 (List.mem_of_getElem? (i := 163) rfl) rfl), (gw_t1 (List.mem_of_getElem? (i := 11) rfl) rfl), ⟨by decide +kernel, by decide +kernel, by decide +kernel⟩, by decide +kernel⟩
theorem I_J_max : Cond.static me_J_max.1 ∈ gw := (gw_t2 (List.mem_of_getElem? (i := 162) rfl) rfl)
def me_J_min : gs_M := (⟨"java/lang/Math", "min", "(II)I"⟩, prog_12_method_69_code, 2, (some .int))
theorem Y_J_min : gY me_J_min 2 := ⟨(gw_t2 (List.mem_of_getElem? (i := 166) rfl) rfl), (gw_t1 (List.mem_of_getElem? (i := 11) rfl) rfl), ⟨by decide +kernel, by decide +kernel, by decide +kernel⟩, by decide +kernel⟩
theorem I_J_min : Cond.static me_J_min.1 ∈ gw := (gw_t2 (List.mem_of_getElem? (i := 165) rfl) rfl)
def me_T_fill : gs_M := (⟨"LineRules$Text", "fill", "(LLineRules$Rule;)V"⟩, prog_8_method_7_code, 3, none)
theorem Y_T_fill : gY me_T_fill 1 := ⟨(gw_t2 (List.mem_of_getElem? (i := 170) rfl) rfl), (gw_t1 (List.mem_of_getElem? (i := 2) rfl) rfl), ⟨by decide +kernel, by decide +kernel, by decide +kernel⟩, by decide +kernel⟩
theorem I_T_fill : Cond.instanceMethod me_T_fill.1 ∈ gw ∧ Cond.selects me_T_fill.1.cls me_T_fill.1 me_T_fill.1 ∈ gw := ⟨(gw_t2 (List.mem_of_getElem? (i := 169) rfl) rfl), (gw_s (q := (⟨"LineRules$Text", "fill", "(LLineRules$Rule;)V"⟩, 9)) (by decide +kernel) rfl)⟩
def me_R_shape : gs_M := (⟨"LineRules$Rule", "shape", "(II)V"⟩, prog_7_method_2_code, 3, none)
theorem Y_R_shape : gY me_R_shape 2 := ⟨(gw_t2 (List.mem_of_getElem? (i := 174) rfl) rfl), (gw_t1 (List.mem_of_getElem? (i := 3) rfl) rfl), ⟨by decide +kernel, by decide +kernel, by decide +kernel⟩, by decide +kernel⟩
theorem I_R_shape : Cond.instanceMethod me_R_shape.1 ∈ gw ∧ Cond.selects me_R_shape.1.cls me_R_shape.1 me_R_shape.1 ∈ gw := ⟨(gw_t2 (List.mem_of_getElem? (i := 172) rfl) rfl), (gw_t2 (List.mem_of_getElem? (i := 173) rfl) rfl)⟩
def me_T_made : gs_M := (⟨"LineRules$Text", "made", "(I)I"⟩, prog_8_method_8_code, 2, (some .int))
theorem Y_T_made : gY me_T_made 1 := ⟨(gw_t2 (List.mem_of_getElem? (i := 179) rfl) rfl), (gw_t1 (List.mem_of_getElem? (i := 2) rfl) rfl), ⟨by decide +kernel, by decide +kernel, by decide +kernel⟩, by decide +kernel⟩
theorem I_T_made : Cond.instanceMethod me_T_made.1 ∈ gw ∧ Cond.selects me_T_made.1.cls me_T_made.1 me_T_made.1 ∈ gw := ⟨(gw_t2 (List.mem_of_getElem? (i := 178) rfl) rfl), (gw_s (q := (⟨"LineRules$Text", "made", "(I)I"⟩, 9)) (by decide +kernel) rfl)⟩
def me_T_sumOf : gs_M := (⟨"LineRules$Text", "sumOf", "(I)I"⟩, prog_8_method_9_code, 5, (some .int))
theorem Y_T_sumOf : gY me_T_sumOf 1 := ⟨(gw_t2 (List.mem_of_getElem? (i := 183) rfl) rfl), (gw_t1 (List.mem_of_getElem? (i := 2) rfl) rfl), ⟨by decide +kernel, by decide +kernel, by decide +kernel⟩, by decide +kernel⟩
theorem I_T_sumOf : Cond.instanceMethod me_T_sumOf.1 ∈ gw ∧ Cond.selects me_T_sumOf.1.cls me_T_sumOf.1 me_T_sumOf.1 ∈ gw := ⟨(gw_t2 (List.mem_of_getElem? (i := 182) rfl) rfl), (gw_s (q := (⟨"LineRules$Text", "sumOf", "(I)I"⟩, 9)) (by decide +kernel) rfl)⟩
def me_R_complete : gs_M := (⟨"LineRules$Rule", "complete", "()V"⟩, prog_7_method_3_code, 4, none)
theorem Y_R_complete : gY me_R_complete 0 := ⟨(gw_t2 (List.mem_of_getElem? (i := 187) rfl) rfl), (gw_t1 (List.mem_of_getElem? (i := 3) rfl) rfl), ⟨by decide +kernel, by decide +kernel, by decide +kernel⟩, by decide +kernel⟩
theorem I_R_complete : Cond.instanceMethod me_R_complete.1 ∈ gw ∧ Cond.selects me_R_complete.1.cls me_R_complete.1 me_R_complete.1 ∈ gw := ⟨(gw_t2 (List.mem_of_getElem? (i := 185) rfl) rfl), (gw_t2 (List.mem_of_getElem? (i := 186) rfl) rfl)⟩
def me_Y_fillJ : gs_M := (⟨"java/util/Arrays", "fill", "([JJ)V"⟩, prog_14_method_101_code, 5, none)
theorem Y_Y_fillJ : gY me_Y_fillJ 2 := ⟨(gw_t2 (List.mem_of_getElem? (i := 190) rfl) rfl), (gw_t1 (List.mem_of_getElem? (i := 12) rfl) rfl), ⟨by decide +kernel, by decide +kernel, by decide +kernel⟩, by decide +kernel⟩
theorem I_Y_fillJ : Cond.static me_Y_fillJ.1 ∈ gw := (gw_t2 (List.mem_of_getElem? (i := 189) rfl) rfl)
def me_R_enter : gs_M := (⟨"LineRules$Rule", "enter", "(II)V"⟩, prog_7_method_4_code, 3, none)
theorem Y_R_enter : gY me_R_enter 2 := ⟨(gw_t2 (List.mem_of_getElem? (i := 194) rfl) rfl), (gw_t1 (List.mem_of_getElem? (i := 3) rfl) rfl), ⟨by decide +kernel, by decide +kernel, by decide +kernel⟩, by decide +kernel⟩
theorem I_R_enter : Cond.instanceMethod me_R_enter.1 ∈ gw ∧ Cond.selects me_R_enter.1.cls me_R_enter.1 me_R_enter.1 ∈ gw := ⟨(gw_t2 (List.mem_of_getElem? (i := 193) rfl) rfl), (gw_s (q := (⟨"LineRules$Rule", "enter", "(II)V"⟩, 10)) (by decide +kernel) rfl)⟩
def me_R_end : gs_M := (⟨"LineRules$Rule", "end", "(I)I"⟩, prog_7_method_5_code, 2, (some .int))
theorem Y_R_end : gY me_R_end 1 := ⟨(gw_t2 (List.mem_of_getElem? (i := 198) rfl) rfl), (gw_t1 (List.mem_of_getElem? (i := 3) rfl) rfl), ⟨by decide +kernel, by decide +kernel, by decide +kernel⟩, by decide +kernel⟩
theorem I_R_end : Cond.instanceMethod me_R_end.1 ∈ gw ∧ Cond.selects me_R_end.1.cls me_R_end.1 me_R_end.1 ∈ gw := ⟨(gw_t2 (List.mem_of_getElem? (i := 196) rfl) rfl), (gw_t2 (List.mem_of_getElem? (i := 197) rfl) rfl)⟩
def me_C_clear : gs_M := (⟨"LineRules$Ring", "clear", "()V"⟩, prog_6_method_3_code, 1, none)
theorem Y_C_clear : gY me_C_clear 0 := ⟨(gw_t2 (List.mem_of_getElem? (i := 202) rfl) rfl), (gw_t1 (List.mem_of_getElem? (i := 4) rfl) rfl), ⟨by decide +kernel, by decide +kernel, by decide +kernel⟩, by decide +kernel⟩
theorem I_C_clear : Cond.instanceMethod me_C_clear.1 ∈ gw ∧ Cond.selects me_C_clear.1.cls me_C_clear.1 me_C_clear.1 ∈ gw := ⟨(gw_t2 (List.mem_of_getElem? (i := 200) rfl) rfl), (gw_t2 (List.mem_of_getElem? (i := 201) rfl) rfl)⟩
def me_Y_fillI : gs_M := (⟨"java/util/Arrays", "fill", "([II)V"⟩, prog_14_method_103_code, 4, none)
theorem Y_Y_fillI : gY me_Y_fillI 2 := ⟨(gw_t2 (List.mem_of_getElem? (i := 205) rfl) rfl), (gw_t1 (List.mem_of_getElem? (i := 12) rfl) rfl), ⟨by decide +kernel, by decide +kernel, by decide +kernel⟩, by decide +kernel⟩
theorem I_Y_fillI : Cond.static me_Y_fillI.1 ∈ gw := (gw_t2 (List.mem_of_getElem? (i := 204) rfl) rfl)
def me_P_forget : gs_M := (⟨"LineRules$Pairs", "forget", "()V"⟩, prog_4_method_2_code, 1, none)
theorem Y_P_forget : gY me_P_forget 0 := ⟨(gw_t2 (List.mem_of_getElem? (i := 209) rfl) rfl), (gw_t1 (List.mem_of_getElem? (i := 5) rfl) rfl), ⟨by decide +kernel, by decide +kernel, by decide +kernel⟩, by decide +kernel⟩
theorem I_P_forget : Cond.instanceMethod me_P_forget.1 ∈ gw ∧ Cond.selects me_P_forget.1.cls me_P_forget.1 me_P_forget.1 ∈ gw := ⟨(gw_t2 (List.mem_of_getElem? (i := 207) rfl) rfl), (gw_t2 (List.mem_of_getElem? (i := 208) rfl) rfl)⟩
def me_V_forget : gs_M := (⟨"LineRules$Inverse", "forget", "()V"⟩, prog_2_method_2_code, 1, none)
theorem Y_V_forget : gY me_V_forget 0 := ⟨(gw_t2 (List.mem_of_getElem? (i := 213) rfl) rfl), (gw_t1 (List.mem_of_getElem? (i := 6) rfl) rfl), ⟨by decide +kernel, by decide +kernel, by decide +kernel⟩, by decide +kernel⟩
theorem I_V_forget : Cond.instanceMethod me_V_forget.1 ∈ gw ∧ Cond.selects me_V_forget.1.cls me_V_forget.1 me_V_forget.1 ∈ gw := ⟨(gw_t2 (List.mem_of_getElem? (i := 211) rfl) rfl), (gw_t2 (List.mem_of_getElem? (i := 212) rfl) rfl)⟩
def me_W_forget : gs_M := (⟨"LineRules$Weights", "forget", "()V"⟩, prog_9_method_2_code, 1, none)
theorem Y_W_forget : gY me_W_forget 0 := ⟨(gw_t2 (List.mem_of_getElem? (i := 217) rfl) rfl), (gw_t1 (List.mem_of_getElem? (i := 7) rfl) rfl), ⟨by decide +kernel, by decide +kernel, by decide +kernel⟩, by decide +kernel⟩
theorem I_W_forget : Cond.instanceMethod me_W_forget.1 ∈ gw ∧ Cond.selects me_W_forget.1.cls me_W_forget.1 me_W_forget.1 ∈ gw := ⟨(gw_t2 (List.mem_of_getElem? (i := 215) rfl) rfl), (gw_t2 (List.mem_of_getElem? (i := 216) rfl) rfl)⟩
def me_O_forget : gs_M := (⟨"LineRules$Orphan", "forget", "()V"⟩, prog_3_method_2_code, 1, none)
theorem Y_O_forget : gY me_O_forget 0 := ⟨(gw_t2 (List.mem_of_getElem? (i := 221) rfl) rfl), (gw_t1 (List.mem_of_getElem? (i := 8) rfl) rfl), ⟨by decide +kernel, by decide +kernel, by decide +kernel⟩, by decide +kernel⟩
theorem I_O_forget : Cond.instanceMethod me_O_forget.1 ∈ gw ∧ Cond.selects me_O_forget.1.cls me_O_forget.1 me_O_forget.1 ∈ gw := ⟨(gw_t2 (List.mem_of_getElem? (i := 219) rfl) rfl), (gw_t2 (List.mem_of_getElem? (i := 220) rfl) rfl)⟩
def me_H_forget : gs_M := (⟨"LineRules$Past", "forget", "()V"⟩, prog_5_method_2_code, 1, none)
theorem Y_H_forget : gY me_H_forget 0 := ⟨(gw_t2 (List.mem_of_getElem? (i := 225) rfl) rfl), (gw_t1 (List.mem_of_getElem? (i := 9) rfl) rfl), ⟨by decide +kernel, by decide +kernel, by decide +kernel⟩, by decide +kernel⟩
theorem I_H_forget : Cond.instanceMethod me_H_forget.1 ∈ gw ∧ Cond.selects me_H_forget.1.cls me_H_forget.1 me_H_forget.1 ∈ gw := ⟨(gw_t2 (List.mem_of_getElem? (i := 223) rfl) rfl), (gw_t2 (List.mem_of_getElem? (i := 224) rfl) rfl)⟩
def me_A_next : gs_M := (⟨"LineRules", "next", "(I)I"⟩, prog_1_method_4_code, 2, (some .int))
theorem Y_A_next : gY me_A_next 1 := ⟨(gw_t2 (List.mem_of_getElem? (i := 229) rfl) rfl), (gw_t1 (List.mem_of_getElem? (i := 1) rfl) rfl), ⟨by decide +kernel, by decide +kernel, by decide +kernel⟩, by decide +kernel⟩
theorem I_A_next : Cond.instanceMethod me_A_next.1 ∈ gw ∧ Cond.selects me_A_next.1.cls me_A_next.1 me_A_next.1 ∈ gw := ⟨(gw_t2 (List.mem_of_getElem? (i := 227) rfl) rfl), (gw_t2 (List.mem_of_getElem? (i := 228) rfl) rfl)⟩
def me_A_ring : gs_M := (⟨"LineRules", "ring", "(I)I"⟩, prog_1_method_5_code, 3, (some .int))
theorem Y_A_ring : gY me_A_ring 1 := ⟨(gw_t2 (List.mem_of_getElem? (i := 233) rfl) rfl), (gw_t1 (List.mem_of_getElem? (i := 1) rfl) rfl), ⟨by decide +kernel, by decide +kernel, by decide +kernel⟩, by decide +kernel⟩
theorem I_A_ring : Cond.instanceMethod me_A_ring.1 ∈ gw ∧ Cond.selects me_A_ring.1.cls me_A_ring.1 me_A_ring.1 ∈ gw := ⟨(gw_t2 (List.mem_of_getElem? (i := 231) rfl) rfl), (gw_t2 (List.mem_of_getElem? (i := 232) rfl) rfl)⟩
def me_C_resize : gs_M := (⟨"LineRules$Ring", "resize", "(I)V"⟩, prog_6_method_2_code, 2, none)
theorem Y_C_resize : gY me_C_resize 1 := ⟨(gw_t2 (List.mem_of_getElem? (i := 237) rfl) rfl), (gw_t1 (List.mem_of_getElem? (i := 4) rfl) rfl), ⟨by decide +kernel, by decide +kernel, by decide +kernel⟩, by decide +kernel⟩
theorem I_C_resize : Cond.instanceMethod me_C_resize.1 ∈ gw ∧ Cond.selects me_C_resize.1.cls me_C_resize.1 me_C_resize.1 ∈ gw := ⟨(gw_t2 (List.mem_of_getElem? (i := 235) rfl) rfl), (gw_t2 (List.mem_of_getElem? (i := 236) rfl) rfl)⟩
def me_A_set : gs_M := (⟨"LineRules", "set", "(II)I"⟩, prog_1_method_6_code, 4, (some .int))
theorem Y_A_set : gY me_A_set 2 := ⟨(gw_t3 (List.mem_of_getElem? (i := 2) rfl) rfl), (gw_t1 (List.mem_of_getElem? (i := 1) rfl) rfl), ⟨by decide +kernel, by decide +kernel, by decide +kernel⟩, by decide +kernel⟩
theorem I_A_set : Cond.instanceMethod me_A_set.1 ∈ gw ∧ Cond.selects me_A_set.1.cls me_A_set.1 me_A_set.1 ∈ gw := ⟨(gw_t3 (List.mem_of_getElem? (i := 0) rfl) rfl), (gw_t3 (List.mem_of_getElem? (i := 1) rfl) rfl)⟩
def me_C_has : gs_M := (⟨"LineRules$Ring", "has", "(I)Z"⟩, prog_6_method_4_code, 2, (some .boolean))
theorem Y_C_has : gY me_C_has 1 := ⟨(gw_t3 (List.mem_of_getElem? (i := 6) rfl) rfl), (gw_t1 (List.mem_of_getElem? (i := 4) rfl) rfl), ⟨by decide +kernel, by decide +kernel, by decide +kernel⟩, by decide +kernel⟩
theorem I_C_has : Cond.instanceMethod me_C_has.1 ∈ gw ∧ Cond.selects me_C_has.1.cls me_C_has.1 me_C_has.1 ∈ gw := ⟨(gw_t3 (List.mem_of_getElem? (i := 4) rfl) rfl), (gw_t3 (List.mem_of_getElem? (i := 5) rfl) rfl)⟩
def me_R_hasState : gs_M := (⟨"LineRules$Rule", "hasState", "(I)Z"⟩, prog_7_method_8_code, 2, (some .boolean))
theorem Y_R_hasState : gY me_R_hasState 1 := ⟨(gw_t3 (List.mem_of_getElem? (i := 10) rfl) rfl), (gw_t1 (List.mem_of_getElem? (i := 3) rfl) rfl), ⟨by decide +kernel, by decide +kernel, by decide +kernel⟩, by decide +kernel⟩
theorem I_R_hasState : Cond.instanceMethod me_R_hasState.1 ∈ gw ∧ Cond.selects me_R_hasState.1.cls me_R_hasState.1 me_R_hasState.1 ∈ gw := ⟨(gw_t3 (List.mem_of_getElem? (i := 8) rfl) rfl), (gw_t3 (List.mem_of_getElem? (i := 9) rfl) rfl)⟩
def me_A_get : gs_M := (⟨"LineRules", "get", "(I)I"⟩, prog_1_method_7_code, 2, (some .int))
theorem Y_A_get : gY me_A_get 1 := ⟨(gw_t3 (List.mem_of_getElem? (i := 14) rfl) rfl), (gw_t1 (List.mem_of_getElem? (i := 1) rfl) rfl), ⟨by decide +kernel, by decide +kernel, by decide +kernel⟩, by decide +kernel⟩
theorem I_A_get : Cond.instanceMethod me_A_get.1 ∈ gw ∧ Cond.selects me_A_get.1.cls me_A_get.1 me_A_get.1 ∈ gw := ⟨(gw_t3 (List.mem_of_getElem? (i := 12) rfl) rfl), (gw_t3 (List.mem_of_getElem? (i := 13) rfl) rfl)⟩
def me_A_step : gs_M := (⟨"LineRules", "step", "(I)I"⟩, prog_1_method_8_code, 2, (some .int))
theorem Y_A_step : gY me_A_step 1 := ⟨(gw_t3 (List.mem_of_getElem? (i := 18) rfl) rfl), (gw_t1 (List.mem_of_getElem? (i := 1) rfl) rfl), ⟨by decide +kernel, by decide +kernel, by decide +kernel⟩, by decide +kernel⟩
theorem I_A_step : Cond.instanceMethod me_A_step.1 ∈ gw ∧ Cond.selects me_A_step.1.cls me_A_step.1 me_A_step.1 ∈ gw := ⟨(gw_t3 (List.mem_of_getElem? (i := 16) rfl) rfl), (gw_t3 (List.mem_of_getElem? (i := 17) rfl) rfl)⟩
def me_C_run : gs_M := (⟨"LineRules$Ring", "run", "(I)I"⟩, prog_6_method_6_code, 4, (some .int))
theorem Y_C_run : gY me_C_run 1 := ⟨(gw_t3 (List.mem_of_getElem? (i := 22) rfl) rfl), (gw_t1 (List.mem_of_getElem? (i := 4) rfl) rfl), ⟨by decide +kernel, by decide +kernel, by decide +kernel⟩, by decide +kernel⟩
theorem I_C_run : Cond.instanceMethod me_C_run.1 ∈ gw ∧ Cond.selects me_C_run.1.cls me_C_run.1 me_C_run.1 ∈ gw := ⟨(gw_t3 (List.mem_of_getElem? (i := 20) rfl) rfl), (gw_t3 (List.mem_of_getElem? (i := 21) rfl) rfl)⟩
def me_C_stepOnce : gs_M := (⟨"LineRules$Ring", "stepOnce", "()V"⟩, prog_6_method_7_code, 4, none)
theorem Y_C_stepOnce : gY me_C_stepOnce 0 := ⟨(gw_t3 (List.mem_of_getElem? (i := 29) rfl) rfl), (gw_t1 (List.mem_of_getElem? (i := 4) rfl) rfl), ⟨by decide +kernel, by decide +kernel, by decide +kernel⟩, by decide +kernel⟩
theorem I_C_stepOnce : Cond.instanceMethod me_C_stepOnce.1 ∈ gw ∧ Cond.selects me_C_stepOnce.1.cls me_C_stepOnce.1 me_C_stepOnce.1 ∈ gw := ⟨(gw_t3 (List.mem_of_getElem? (i := 28) rfl) rfl), (gw_s (q := (⟨"LineRules$Ring", "stepOnce", "()V"⟩, 5)) (by decide +kernel) rfl)⟩
def me_R_left : gs_M := (⟨"LineRules$Rule", "left", "()I"⟩, prog_7_method_9_code, 1, (some .int))
theorem Y_R_left : gY me_R_left 0 := ⟨(gw_t3 (List.mem_of_getElem? (i := 33) rfl) rfl), (gw_t1 (List.mem_of_getElem? (i := 3) rfl) rfl), ⟨by decide +kernel, by decide +kernel, by decide +kernel⟩, by decide +kernel⟩
theorem I_R_left : Cond.instanceMethod me_R_left.1 ∈ gw ∧ Cond.selects me_R_left.1.cls me_R_left.1 me_R_left.1 ∈ gw := ⟨(gw_t3 (List.mem_of_getElem? (i := 31) rfl) rfl), (gw_t3 (List.mem_of_getElem? (i := 32) rfl) rfl)⟩
def me_J_floorMod : gs_M := (⟨"java/lang/Math", "floorMod", "(II)I"⟩, prog_12_method_50_code, 3, (some .int))
theorem Y_J_floorMod : gY me_J_floorMod 2 := ⟨(gw_t3 (List.mem_of_getElem? (i := 36) rfl) rfl), (gw_t1 (List.mem_of_getElem? (i := 11) rfl) rfl), ⟨by decide +kernel, by decide +kernel, by decide +kernel⟩, by decide +kernel⟩
theorem I_J_floorMod : Cond.static me_J_floorMod.1 ∈ gw := (gw_t3 (List.mem_of_getElem? (i := 35) rfl) rfl)
def me_A_population : gs_M := (⟨"LineRules", "population", "(I)I"⟩, prog_1_method_9_code, 2, (some .int))
theorem Y_A_population : gY me_A_population 1 := ⟨(gw_t3 (List.mem_of_getElem? (i := 41) rfl) rfl), (gw_t1 (List.mem_of_getElem? (i := 1) rfl) rfl), ⟨by decide +kernel, by decide +kernel, by decide +kernel⟩, by decide +kernel⟩
theorem I_A_population : Cond.instanceMethod me_A_population.1 ∈ gw ∧ Cond.selects me_A_population.1.cls me_A_population.1 me_A_population.1 ∈ gw := ⟨(gw_t3 (List.mem_of_getElem? (i := 39) rfl) rfl), (gw_t3 (List.mem_of_getElem? (i := 40) rfl) rfl)⟩
def me_C_countOf : gs_M := (⟨"LineRules$Ring", "countOf", "(I)I"⟩, prog_6_method_5_code, 4, (some .int))
theorem Y_C_countOf : gY me_C_countOf 1 := ⟨(gw_t3 (List.mem_of_getElem? (i := 45) rfl) rfl), (gw_t1 (List.mem_of_getElem? (i := 4) rfl) rfl), ⟨by decide +kernel, by decide +kernel, by decide +kernel⟩, by decide +kernel⟩
theorem I_C_countOf : Cond.instanceMethod me_C_countOf.1 ∈ gw ∧ Cond.selects me_C_countOf.1.cls me_C_countOf.1 me_C_countOf.1 ∈ gw := ⟨(gw_t3 (List.mem_of_getElem? (i := 43) rfl) rfl), (gw_t3 (List.mem_of_getElem? (i := 44) rfl) rfl)⟩
def me_A_surjective : gs_M := (⟨"LineRules", "surjective", "()I"⟩, prog_1_method_10_code, 1, (some .int))
theorem Y_A_surjective : gY me_A_surjective 0 := ⟨(gw_t3 (List.mem_of_getElem? (i := 49) rfl) rfl), (gw_t1 (List.mem_of_getElem? (i := 1) rfl) rfl), ⟨by decide +kernel, by decide +kernel, by decide +kernel⟩, by decide +kernel⟩
theorem I_A_surjective : Cond.instanceMethod me_A_surjective.1 ∈ gw ∧ Cond.selects me_A_surjective.1.cls me_A_surjective.1 me_A_surjective.1 ∈ gw := ⟨(gw_t3 (List.mem_of_getElem? (i := 47) rfl) rfl), (gw_t3 (List.mem_of_getElem? (i := 48) rfl) rfl)⟩
def me_P_missesNothing : gs_M := (⟨"LineRules$Pairs", "missesNothing", "()Z"⟩, prog_4_method_3_code, 1, (some .boolean))
theorem Y_P_missesNothing : gY me_P_missesNothing 0 := ⟨(gw_t3 (List.mem_of_getElem? (i := 53) rfl) rfl), (gw_t1 (List.mem_of_getElem? (i := 5) rfl) rfl), ⟨by decide +kernel, by decide +kernel, by decide +kernel⟩, by decide +kernel⟩
theorem I_P_missesNothing : Cond.instanceMethod me_P_missesNothing.1 ∈ gw ∧ Cond.selects me_P_missesNothing.1.cls me_P_missesNothing.1 me_P_missesNothing.1 ∈ gw := ⟨(gw_t3 (List.mem_of_getElem? (i := 51) rfl) rfl), (gw_t3 (List.mem_of_getElem? (i := 52) rfl) rfl)⟩
def me_P_partAndMeet : gs_M := (⟨"LineRules$Pairs", "partAndMeet", "()Z"⟩, prog_4_method_5_code, 6, (some .boolean))
theorem Y_P_partAndMeet : gY me_P_partAndMeet 0 := ⟨(gw_t3 (List.mem_of_getElem? (i := 57) rfl) rfl), (gw_t1 (List.mem_of_getElem? (i := 5) rfl) rfl), ⟨by decide +kernel, by decide +kernel, by decide +kernel⟩, by decide +kernel⟩
theorem I_P_partAndMeet : Cond.instanceMethod me_P_partAndMeet.1 ∈ gw ∧ Cond.selects me_P_partAndMeet.1.cls me_P_partAndMeet.1 me_P_partAndMeet.1 ∈ gw := ⟨(gw_t3 (List.mem_of_getElem? (i := 56) rfl) rfl), (gw_s (q := (⟨"LineRules$Pairs", "partAndMeet", "()Z"⟩, 7)) (by decide +kernel) rfl)⟩
def me_P_partAt : gs_M := (⟨"LineRules$Pairs", "partAt", "(I)V"⟩, prog_4_method_6_code, 5, none)
theorem Y_P_partAt : gY me_P_partAt 1 := ⟨(gw_t3 (List.mem_of_getElem? (i := 62) rfl) rfl), (gw_t1 (List.mem_of_getElem? (i := 5) rfl) rfl), ⟨by decide +kernel, by decide +kernel, by decide +kernel⟩, by decide +kernel⟩
theorem I_P_partAt : Cond.instanceMethod me_P_partAt.1 ∈ gw ∧ Cond.selects me_P_partAt.1.cls me_P_partAt.1 me_P_partAt.1 ∈ gw := ⟨(gw_t3 (List.mem_of_getElem? (i := 61) rfl) rfl), (gw_s (q := (⟨"LineRules$Pairs", "partAt", "(I)V"⟩, 7)) (by decide +kernel) rfl)⟩
def me_P_meetsBehind : gs_M := (⟨"LineRules$Pairs", "meetsBehind", "(IJ)Z"⟩, prog_4_method_7_code, 10, (some .boolean))
theorem Y_P_meetsBehind : gY me_P_meetsBehind 2 := ⟨(gw_t3 (List.mem_of_getElem? (i := 68) rfl) rfl), (gw_t1 (List.mem_of_getElem? (i := 5) rfl) rfl), ⟨by decide +kernel, by decide +kernel, by decide +kernel⟩, by decide +kernel⟩
theorem I_P_meetsBehind : Cond.instanceMethod me_P_meetsBehind.1 ∈ gw ∧ Cond.selects me_P_meetsBehind.1.cls me_P_meetsBehind.1 me_P_meetsBehind.1 ∈ gw := ⟨(gw_t3 (List.mem_of_getElem? (i := 67) rfl) rfl), (gw_s (q := (⟨"LineRules$Pairs", "meetsBehind", "(IJ)Z"⟩, 7)) (by decide +kernel) rfl)⟩
def me_R_behind : gs_M := (⟨"LineRules$Rule", "behind", "(II)J"⟩, prog_7_method_6_code, 3, (some .long))
theorem Y_R_behind : gY me_R_behind 2 := ⟨(gw_t3 (List.mem_of_getElem? (i := 72) rfl) rfl), (gw_t1 (List.mem_of_getElem? (i := 3) rfl) rfl), ⟨by decide +kernel, by decide +kernel, by decide +kernel⟩, by decide +kernel⟩
theorem I_R_behind : Cond.instanceMethod me_R_behind.1 ∈ gw ∧ Cond.selects me_R_behind.1.cls me_R_behind.1 me_R_behind.1 ∈ gw := ⟨(gw_t3 (List.mem_of_getElem? (i := 70) rfl) rfl), (gw_t3 (List.mem_of_getElem? (i := 71) rfl) rfl)⟩
def me_A_injective : gs_M := (⟨"LineRules", "injective", "()I"⟩, prog_1_method_11_code, 1, (some .int))
theorem Y_A_injective : gY me_A_injective 0 := ⟨(gw_t3 (List.mem_of_getElem? (i := 76) rfl) rfl), (gw_t1 (List.mem_of_getElem? (i := 1) rfl) rfl), ⟨by decide +kernel, by decide +kernel, by decide +kernel⟩, by decide +kernel⟩
theorem I_A_injective : Cond.instanceMethod me_A_injective.1 ∈ gw ∧ Cond.selects me_A_injective.1.cls me_A_injective.1 me_A_injective.1 ∈ gw := ⟨(gw_t3 (List.mem_of_getElem? (i := 74) rfl) rfl), (gw_t3 (List.mem_of_getElem? (i := 75) rfl) rfl)⟩
def me_P_losesNothing : gs_M := (⟨"LineRules$Pairs", "losesNothing", "()Z"⟩, prog_4_method_4_code, 1, (some .boolean))
theorem Y_P_losesNothing : gY me_P_losesNothing 0 := ⟨(gw_t3 (List.mem_of_getElem? (i := 80) rfl) rfl), (gw_t1 (List.mem_of_getElem? (i := 5) rfl) rfl), ⟨by decide +kernel, by decide +kernel, by decide +kernel⟩, by decide +kernel⟩
theorem I_P_losesNothing : Cond.instanceMethod me_P_losesNothing.1 ∈ gw ∧ Cond.selects me_P_losesNothing.1.cls me_P_losesNothing.1 me_P_losesNothing.1 ∈ gw := ⟨(gw_t3 (List.mem_of_getElem? (i := 78) rfl) rfl), (gw_t3 (List.mem_of_getElem? (i := 79) rfl) rfl)⟩
def me_P_stayApart : gs_M := (⟨"LineRules$Pairs", "stayApart", "()Z"⟩, prog_4_method_8_code, 6, (some .boolean))
theorem Y_P_stayApart : gY me_P_stayApart 0 := ⟨(gw_t3 (List.mem_of_getElem? (i := 85) rfl) rfl), (gw_t1 (List.mem_of_getElem? (i := 5) rfl) rfl), ⟨by decide +kernel, by decide +kernel, by decide +kernel⟩, by decide +kernel⟩
theorem I_P_stayApart : Cond.instanceMethod me_P_stayApart.1 ∈ gw ∧ Cond.selects me_P_stayApart.1.cls me_P_stayApart.1 me_P_stayApart.1 ∈ gw := ⟨(gw_t3 (List.mem_of_getElem? (i := 84) rfl) rfl), (gw_s (q := (⟨"LineRules$Pairs", "stayApart", "()Z"⟩, 7)) (by decide +kernel) rfl)⟩
def me_R_allNodes : gs_M := (⟨"LineRules$Rule", "allNodes", "()J"⟩, prog_7_method_7_code, 1, (some .long))
theorem Y_R_allNodes : gY me_R_allNodes 0 := ⟨(gw_t3 (List.mem_of_getElem? (i := 89) rfl) rfl), (gw_t1 (List.mem_of_getElem? (i := 3) rfl) rfl), ⟨by decide +kernel, by decide +kernel, by decide +kernel⟩, by decide +kernel⟩
theorem I_R_allNodes : Cond.instanceMethod me_R_allNodes.1 ∈ gw ∧ Cond.selects me_R_allNodes.1.cls me_R_allNodes.1 me_R_allNodes.1 ∈ gw := ⟨(gw_t3 (List.mem_of_getElem? (i := 87) rfl) rfl), (gw_t3 (List.mem_of_getElem? (i := 88) rfl) rfl)⟩
def me_P_lasting : gs_M := (⟨"LineRules$Pairs", "lasting", "(I)J"⟩, prog_4_method_9_code, 9, (some .long))
theorem Y_P_lasting : gY me_P_lasting 1 := ⟨(gw_t3 (List.mem_of_getElem? (i := 94) rfl) rfl), (gw_t1 (List.mem_of_getElem? (i := 5) rfl) rfl), ⟨by decide +kernel, by decide +kernel, by decide +kernel⟩, by decide +kernel⟩
theorem I_P_lasting : Cond.instanceMethod me_P_lasting.1 ∈ gw ∧ Cond.selects me_P_lasting.1.cls me_P_lasting.1 me_P_lasting.1 ∈ gw := ⟨(gw_t3 (List.mem_of_getElem? (i := 93) rfl) rfl), (gw_s (q := (⟨"LineRules$Pairs", "lasting", "(I)J"⟩, 7)) (by decide +kernel) rfl)⟩
def me_A_inverse : gs_M := (⟨"LineRules", "inverse", "(I)I"⟩, prog_1_method_12_code, 2, (some .int))
theorem Y_A_inverse : gY me_A_inverse 1 := ⟨(gw_t3 (List.mem_of_getElem? (i := 98) rfl) rfl), (gw_t1 (List.mem_of_getElem? (i := 1) rfl) rfl), ⟨by decide +kernel, by decide +kernel, by decide +kernel⟩, by decide +kernel⟩
theorem I_A_inverse : Cond.instanceMethod me_A_inverse.1 ∈ gw ∧ Cond.selects me_A_inverse.1.cls me_A_inverse.1 me_A_inverse.1 ∈ gw := ⟨(gw_t3 (List.mem_of_getElem? (i := 96) rfl) rfl), (gw_t3 (List.mem_of_getElem? (i := 97) rfl) rfl)⟩
def me_V_width : gs_M := (⟨"LineRules$Inverse", "width", "()I"⟩, prog_2_method_3_code, 1, (some .int))
theorem Y_V_width : gY me_V_width 0 := ⟨(gw_t3 (List.mem_of_getElem? (i := 102) rfl) rfl), (gw_t1 (List.mem_of_getElem? (i := 6) rfl) rfl), ⟨by decide +kernel, by decide +kernel, by decide +kernel⟩, by decide +kernel⟩
theorem I_V_width : Cond.instanceMethod me_V_width.1 ∈ gw ∧ Cond.selects me_V_width.1.cls me_V_width.1 me_V_width.1 ∈ gw := ⟨(gw_t3 (List.mem_of_getElem? (i := 100) rfl) rfl), (gw_t3 (List.mem_of_getElem? (i := 101) rfl) rfl)⟩
def me_V_find : gs_M := (⟨"LineRules$Inverse", "find", "()V"⟩, prog_2_method_6_code, 2, none)
theorem Y_V_find : gY me_V_find 0 := ⟨(gw_t3 (List.mem_of_getElem? (i := 106) rfl) rfl), (gw_t1 (List.mem_of_getElem? (i := 6) rfl) rfl), ⟨by decide +kernel, by decide +kernel, by decide +kernel⟩, by decide +kernel⟩
theorem I_V_find : Cond.instanceMethod me_V_find.1 ∈ gw ∧ Cond.selects me_V_find.1.cls me_V_find.1 me_V_find.1 ∈ gw := ⟨(gw_t3 (List.mem_of_getElem? (i := 105) rfl) rfl), (gw_s (q := (⟨"LineRules$Inverse", "find", "()V"⟩, 6)) (by decide +kernel) rfl)⟩
def me_V_placesTold : gs_M := (⟨"LineRules$Inverse", "placesTold", "(I)I"⟩, prog_2_method_8_code, 7, (some .int))
theorem Y_V_placesTold : gY me_V_placesTold 1 := ⟨(gw_t3 (List.mem_of_getElem? (i := 111) rfl) rfl), (gw_t1 (List.mem_of_getElem? (i := 6) rfl) rfl), ⟨by decide +kernel, by decide +kernel, by decide +kernel⟩, by decide +kernel⟩
theorem I_V_placesTold : Cond.instanceMethod me_V_placesTold.1 ∈ gw ∧ Cond.selects me_V_placesTold.1.cls me_V_placesTold.1 me_V_placesTold.1 ∈ gw := ⟨(gw_t3 (List.mem_of_getElem? (i := 110) rfl) rfl), (gw_s (q := (⟨"LineRules$Inverse", "placesTold", "(I)I"⟩, 6)) (by decide +kernel) rfl)⟩
def me_V_madeOf : gs_M := (⟨"LineRules$Inverse", "madeOf", "(II)I"⟩, prog_2_method_9_code, 7, (some .int))
theorem Y_V_madeOf : gY me_V_madeOf 2 := ⟨(gw_t3 (List.mem_of_getElem? (i := 117) rfl) rfl), (gw_t1 (List.mem_of_getElem? (i := 6) rfl) rfl), ⟨by decide +kernel, by decide +kernel, by decide +kernel⟩, by decide +kernel⟩
theorem I_V_madeOf : Cond.instanceMethod me_V_madeOf.1 ∈ gw ∧ Cond.selects me_V_madeOf.1.cls me_V_madeOf.1 me_V_madeOf.1 ∈ gw := ⟨(gw_t3 (List.mem_of_getElem? (i := 116) rfl) rfl), (gw_s (q := (⟨"LineRules$Inverse", "madeOf", "(II)I"⟩, 6)) (by decide +kernel) rfl)⟩
def me_V_samePlaces : gs_M := (⟨"LineRules$Inverse", "samePlaces", "(III)I"⟩, prog_2_method_10_code, 8, (some .int))
theorem Y_V_samePlaces : gY me_V_samePlaces 3 := ⟨(gw_t3 (List.mem_of_getElem? (i := 121) rfl) rfl), (gw_t1 (List.mem_of_getElem? (i := 6) rfl) rfl), ⟨by decide +kernel, by decide +kernel, by decide +kernel⟩, by decide +kernel⟩
theorem I_V_samePlaces : Cond.instanceMethod me_V_samePlaces.1 ∈ gw ∧ Cond.selects me_V_samePlaces.1.cls me_V_samePlaces.1 me_V_samePlaces.1 ∈ gw := ⟨(gw_t3 (List.mem_of_getElem? (i := 120) rfl) rfl), (gw_s (q := (⟨"LineRules$Inverse", "samePlaces", "(III)I"⟩, 6)) (by decide +kernel) rfl)⟩
def me_V_takeLeast : gs_M := (⟨"LineRules$Inverse", "takeLeast", "(II)V"⟩, prog_2_method_7_code, 4, none)
theorem Y_V_takeLeast : gY me_V_takeLeast 2 := ⟨(gw_t3 (List.mem_of_getElem? (i := 125) rfl) rfl), (gw_t1 (List.mem_of_getElem? (i := 6) rfl) rfl), ⟨by decide +kernel, by decide +kernel, by decide +kernel⟩, by decide +kernel⟩
theorem I_V_takeLeast : Cond.instanceMethod me_V_takeLeast.1 ∈ gw ∧ Cond.selects me_V_takeLeast.1.cls me_V_takeLeast.1 me_V_takeLeast.1 ∈ gw := ⟨(gw_t3 (List.mem_of_getElem? (i := 124) rfl) rfl), (gw_s (q := (⟨"LineRules$Inverse", "takeLeast", "(II)V"⟩, 6)) (by decide +kernel) rfl)⟩
def me_V_place : gs_M := (⟨"LineRules$Inverse", "place", "()I"⟩, prog_2_method_4_code, 1, (some .int))
theorem Y_V_place : gY me_V_place 0 := ⟨(gw_t3 (List.mem_of_getElem? (i := 129) rfl) rfl), (gw_t1 (List.mem_of_getElem? (i := 6) rfl) rfl), ⟨by decide +kernel, by decide +kernel, by decide +kernel⟩, by decide +kernel⟩
theorem I_V_place : Cond.instanceMethod me_V_place.1 ∈ gw ∧ Cond.selects me_V_place.1.cls me_V_place.1 me_V_place.1 ∈ gw := ⟨(gw_t3 (List.mem_of_getElem? (i := 127) rfl) rfl), (gw_t3 (List.mem_of_getElem? (i := 128) rfl) rfl)⟩
def me_A_undo : gs_M := (⟨"LineRules", "undo", "(I)I"⟩, prog_1_method_13_code, 2, (some .int))
theorem Y_A_undo : gY me_A_undo 1 := ⟨(gw_t3 (List.mem_of_getElem? (i := 133) rfl) rfl), (gw_t1 (List.mem_of_getElem? (i := 1) rfl) rfl), ⟨by decide +kernel, by decide +kernel, by decide +kernel⟩, by decide +kernel⟩
theorem I_A_undo : Cond.instanceMethod me_A_undo.1 ∈ gw ∧ Cond.selects me_A_undo.1.cls me_A_undo.1 me_A_undo.1 ∈ gw := ⟨(gw_t3 (List.mem_of_getElem? (i := 131) rfl) rfl), (gw_t3 (List.mem_of_getElem? (i := 132) rfl) rfl)⟩
def me_V_cellOf : gs_M := (⟨"LineRules$Inverse", "cellOf", "(I)I"⟩, prog_2_method_5_code, 3, (some .int))
theorem Y_V_cellOf : gY me_V_cellOf 1 := ⟨(gw_t3 (List.mem_of_getElem? (i := 137) rfl) rfl), (gw_t1 (List.mem_of_getElem? (i := 6) rfl) rfl), ⟨by decide +kernel, by decide +kernel, by decide +kernel⟩, by decide +kernel⟩
theorem I_V_cellOf : Cond.instanceMethod me_V_cellOf.1 ∈ gw ∧ Cond.selects me_V_cellOf.1.cls me_V_cellOf.1 me_V_cellOf.1 ∈ gw := ⟨(gw_t3 (List.mem_of_getElem? (i := 135) rfl) rfl), (gw_t3 (List.mem_of_getElem? (i := 136) rfl) rfl)⟩
def me_A_conserved : gs_M := (⟨"LineRules", "conserved", "()I"⟩, prog_1_method_14_code, 1, (some .int))
theorem Y_A_conserved : gY me_A_conserved 0 := ⟨(gw_t3 (List.mem_of_getElem? (i := 141) rfl) rfl), (gw_t1 (List.mem_of_getElem? (i := 1) rfl) rfl), ⟨by decide +kernel, by decide +kernel, by decide +kernel⟩, by decide +kernel⟩
theorem I_A_conserved : Cond.instanceMethod me_A_conserved.1 ∈ gw ∧ Cond.selects me_A_conserved.1.cls me_A_conserved.1 me_A_conserved.1 ∈ gw := ⟨(gw_t3 (List.mem_of_getElem? (i := 139) rfl) rfl), (gw_t3 (List.mem_of_getElem? (i := 140) rfl) rfl)⟩
def me_W_count : gs_M := (⟨"LineRules$Weights", "count", "()I"⟩, prog_9_method_3_code, 1, (some .int))
theorem Y_W_count : gY me_W_count 0 := ⟨(gw_t3 (List.mem_of_getElem? (i := 145) rfl) rfl), (gw_t1 (List.mem_of_getElem? (i := 7) rfl) rfl), ⟨by decide +kernel, by decide +kernel, by decide +kernel⟩, by decide +kernel⟩
theorem I_W_count : Cond.instanceMethod me_W_count.1 ∈ gw ∧ Cond.selects me_W_count.1.cls me_W_count.1 me_W_count.1 ∈ gw := ⟨(gw_t3 (List.mem_of_getElem? (i := 143) rfl) rfl), (gw_t3 (List.mem_of_getElem? (i := 144) rfl) rfl)⟩
def me_W_find : gs_M := (⟨"LineRules$Weights", "find", "()V"⟩, prog_9_method_5_code, 2, none)
theorem Y_W_find : gY me_W_find 0 := ⟨(gw_t3 (List.mem_of_getElem? (i := 149) rfl) rfl), (gw_t1 (List.mem_of_getElem? (i := 7) rfl) rfl), ⟨by decide +kernel, by decide +kernel, by decide +kernel⟩, by decide +kernel⟩
theorem I_W_find : Cond.instanceMethod me_W_find.1 ∈ gw ∧ Cond.selects me_W_find.1.cls me_W_find.1 me_W_find.1 ∈ gw := ⟨(gw_t3 (List.mem_of_getElem? (i := 148) rfl) rfl), (gw_s (q := (⟨"LineRules$Weights", "find", "()V"⟩, 6)) (by decide +kernel) rfl)⟩
def me_W_writeEquation : gs_M := (⟨"LineRules$Weights", "writeEquation", "(I)V"⟩, prog_9_method_6_code, 2, none)
theorem Y_W_writeEquation : gY me_W_writeEquation 1 := ⟨(gw_t3 (List.mem_of_getElem? (i := 154) rfl) rfl), (gw_t1 (List.mem_of_getElem? (i := 7) rfl) rfl), ⟨by decide +kernel, by decide +kernel, by decide +kernel⟩, by decide +kernel⟩
theorem I_W_writeEquation : Cond.instanceMethod me_W_writeEquation.1 ∈ gw ∧ Cond.selects me_W_writeEquation.1.cls me_W_writeEquation.1 me_W_writeEquation.1 ∈ gw := ⟨(gw_t3 (List.mem_of_getElem? (i := 153) rfl) rfl), (gw_s (q := (⟨"LineRules$Weights", "writeEquation", "(I)V"⟩, 6)) (by decide +kernel) rfl)⟩
def me_W_addGain : gs_M := (⟨"LineRules$Weights", "addGain", "(II)V"⟩, prog_9_method_7_code, 5, none)
theorem Y_W_addGain : gY me_W_addGain 2 := ⟨(gw_t3 (List.mem_of_getElem? (i := 159) rfl) rfl), (gw_t1 (List.mem_of_getElem? (i := 7) rfl) rfl), ⟨by decide +kernel, by decide +kernel, by decide +kernel⟩, by decide +kernel⟩
theorem I_W_addGain : Cond.instanceMethod me_W_addGain.1 ∈ gw ∧ Cond.selects me_W_addGain.1.cls me_W_addGain.1 me_W_addGain.1 ∈ gw := ⟨(gw_t3 (List.mem_of_getElem? (i := 158) rfl) rfl), (gw_s (q := (⟨"LineRules$Weights", "addGain", "(II)V"⟩, 6)) (by decide +kernel) rfl)⟩
def me_W_tie : gs_M := (⟨"LineRules$Weights", "tie", "()V"⟩, prog_9_method_8_code, 5, none)
theorem Y_W_tie : gY me_W_tie 0 := ⟨(gw_t3 (List.mem_of_getElem? (i := 163) rfl) rfl), (gw_t1 (List.mem_of_getElem? (i := 7) rfl) rfl), ⟨by decide +kernel, by decide +kernel, by decide +kernel⟩, by decide +kernel⟩
theorem I_W_tie : Cond.instanceMethod me_W_tie.1 ∈ gw ∧ Cond.selects me_W_tie.1.cls me_W_tie.1 me_W_tie.1 ∈ gw := ⟨(gw_t3 (List.mem_of_getElem? (i := 162) rfl) rfl), (gw_s (q := (⟨"LineRules$Weights", "tie", "()V"⟩, 6)) (by decide +kernel) rfl)⟩
def me_W_shorten : gs_M := (⟨"LineRules$Weights", "shorten", "([J)V"⟩, prog_9_method_10_code, 5, none)
theorem Y_W_shorten : gY me_W_shorten 1 := ⟨(gw_t3 (List.mem_of_getElem? (i := 168) rfl) rfl), (gw_t1 (List.mem_of_getElem? (i := 7) rfl) rfl), ⟨by decide +kernel, by decide +kernel, by decide +kernel⟩, by decide +kernel⟩
theorem I_W_shorten : Cond.instanceMethod me_W_shorten.1 ∈ gw ∧ Cond.selects me_W_shorten.1.cls me_W_shorten.1 me_W_shorten.1 ∈ gw := ⟨(gw_t3 (List.mem_of_getElem? (i := 167) rfl) rfl), (gw_s (q := (⟨"LineRules$Weights", "shorten", "([J)V"⟩, 6)) (by decide +kernel) rfl)⟩
def me_J_abs : gs_M := (⟨"java/lang/Math", "abs", "(J)J"⟩, prog_12_method_61_code, 2, (some .long))
theorem Y_J_abs : gY me_J_abs 1 := ⟨(gw_t3 (List.mem_of_getElem? (i := 171) rfl) rfl), (gw_t1 (List.mem_of_getElem? (i := 11) rfl) rfl), ⟨by decide +kernel, by decide +kernel, by decide +kernel⟩, by decide +kernel⟩
theorem I_J_abs : Cond.static me_J_abs.1 ∈ gw := (gw_t3 (List.mem_of_getElem? (i := 170) rfl) rfl)
def me_W_commonDivisor : gs_M := (⟨"LineRules$Weights", "commonDivisor", "(JJ)J"⟩, prog_9_method_11_code, 11, (some .long))
theorem Y_W_commonDivisor : gY me_W_commonDivisor 2 := ⟨(gw_t3 (List.mem_of_getElem? (i := 174) rfl) rfl), (gw_t1 (List.mem_of_getElem? (i := 7) rfl) rfl), ⟨by decide +kernel, by decide +kernel, by decide +kernel⟩, by decide +kernel⟩
theorem I_W_commonDivisor : Cond.static me_W_commonDivisor.1 ∈ gw := (gw_t3 (List.mem_of_getElem? (i := 173) rfl) rfl)
def me_W_writeWeight : gs_M := (⟨"LineRules$Weights", "writeWeight", "(I[J)V"⟩, prog_9_method_9_code, 7, none)
theorem Y_W_writeWeight : gY me_W_writeWeight 2 := ⟨(gw_t3 (List.mem_of_getElem? (i := 178) rfl) rfl), (gw_t1 (List.mem_of_getElem? (i := 7) rfl) rfl), ⟨by decide +kernel, by decide +kernel, by decide +kernel⟩, by decide +kernel⟩
theorem I_W_writeWeight : Cond.instanceMethod me_W_writeWeight.1 ∈ gw ∧ Cond.selects me_W_writeWeight.1.cls me_W_writeWeight.1 me_W_writeWeight.1 ∈ gw := ⟨(gw_t3 (List.mem_of_getElem? (i := 177) rfl) rfl), (gw_s (q := (⟨"LineRules$Weights", "writeWeight", "(I[J)V"⟩, 6)) (by decide +kernel) rfl)⟩
def me_A_weight : gs_M := (⟨"LineRules", "weight", "(II)I"⟩, prog_1_method_15_code, 3, (some .int))
theorem Y_A_weight : gY me_A_weight 2 := ⟨(gw_t3 (List.mem_of_getElem? (i := 182) rfl) rfl), (gw_t1 (List.mem_of_getElem? (i := 1) rfl) rfl), ⟨by decide +kernel, by decide +kernel, by decide +kernel⟩, by decide +kernel⟩
theorem I_A_weight : Cond.instanceMethod me_A_weight.1 ∈ gw ∧ Cond.selects me_A_weight.1.cls me_A_weight.1 me_A_weight.1 ∈ gw := ⟨(gw_t3 (List.mem_of_getElem? (i := 180) rfl) rfl), (gw_t3 (List.mem_of_getElem? (i := 181) rfl) rfl)⟩
def me_W_at : gs_M := (⟨"LineRules$Weights", "at", "(II)I"⟩, prog_9_method_4_code, 3, (some .int))
theorem Y_W_at : gY me_W_at 2 := ⟨(gw_t3 (List.mem_of_getElem? (i := 186) rfl) rfl), (gw_t1 (List.mem_of_getElem? (i := 7) rfl) rfl), ⟨by decide +kernel, by decide +kernel, by decide +kernel⟩, by decide +kernel⟩
theorem I_W_at : Cond.instanceMethod me_W_at.1 ∈ gw ∧ Cond.selects me_W_at.1.cls me_W_at.1 me_W_at.1 ∈ gw := ⟨(gw_t3 (List.mem_of_getElem? (i := 184) rfl) rfl), (gw_t3 (List.mem_of_getElem? (i := 185) rfl) rfl)⟩
def me_A_orphan : gs_M := (⟨"LineRules", "orphan", "()I"⟩, prog_1_method_16_code, 1, (some .int))
theorem Y_A_orphan : gY me_A_orphan 0 := ⟨(gw_t3 (List.mem_of_getElem? (i := 191) rfl) rfl), (gw_t1 (List.mem_of_getElem? (i := 1) rfl) rfl), ⟨by decide +kernel, by decide +kernel, by decide +kernel⟩, by decide +kernel⟩
theorem I_A_orphan : Cond.instanceMethod me_A_orphan.1 ∈ gw ∧ Cond.selects me_A_orphan.1.cls me_A_orphan.1 me_A_orphan.1 ∈ gw := ⟨(gw_t3 (List.mem_of_getElem? (i := 189) rfl) rfl), (gw_t3 (List.mem_of_getElem? (i := 190) rfl) rfl)⟩
def me_O_length : gs_M := (⟨"LineRules$Orphan", "length", "()I"⟩, prog_3_method_3_code, 1, (some .int))
theorem Y_O_length : gY me_O_length 0 := ⟨(gw_t3 (List.mem_of_getElem? (i := 195) rfl) rfl), (gw_t1 (List.mem_of_getElem? (i := 8) rfl) rfl), ⟨by decide +kernel, by decide +kernel, by decide +kernel⟩, by decide +kernel⟩
theorem I_O_length : Cond.instanceMethod me_O_length.1 ∈ gw ∧ Cond.selects me_O_length.1.cls me_O_length.1 me_O_length.1 ∈ gw := ⟨(gw_t3 (List.mem_of_getElem? (i := 193) rfl) rfl), (gw_t3 (List.mem_of_getElem? (i := 194) rfl) rfl)⟩
def me_O_find : gs_M := (⟨"LineRules$Orphan", "find", "()V"⟩, prog_3_method_5_code, 1, none)
theorem Y_O_find : gY me_O_find 0 := ⟨(gw_t3 (List.mem_of_getElem? (i := 199) rfl) rfl), (gw_t1 (List.mem_of_getElem? (i := 8) rfl) rfl), ⟨by decide +kernel, by decide +kernel, by decide +kernel⟩, by decide +kernel⟩
theorem I_O_find : Cond.instanceMethod me_O_find.1 ∈ gw ∧ Cond.selects me_O_find.1.cls me_O_find.1 me_O_find.1 ∈ gw := ⟨(gw_t3 (List.mem_of_getElem? (i := 198) rfl) rfl), (gw_s (q := (⟨"LineRules$Orphan", "find", "()V"⟩, 10)) (by decide +kernel) rfl)⟩
def me_O_search : gs_M := (⟨"LineRules$Orphan", "search", "()I"⟩, prog_3_method_6_code, 3, (some .int))
theorem Y_O_search : gY me_O_search 0 := ⟨(gw_t3 (List.mem_of_getElem? (i := 204) rfl) rfl), (gw_t1 (List.mem_of_getElem? (i := 8) rfl) rfl), ⟨by decide +kernel, by decide +kernel, by decide +kernel⟩, by decide +kernel⟩
theorem I_O_search : Cond.instanceMethod me_O_search.1 ∈ gw ∧ Cond.selects me_O_search.1.cls me_O_search.1 me_O_search.1 ∈ gw := ⟨(gw_t3 (List.mem_of_getElem? (i := 203) rfl) rfl), (gw_s (q := (⟨"LineRules$Orphan", "search", "()I"⟩, 10)) (by decide +kernel) rfl)⟩
def me_O_meet : gs_M := (⟨"LineRules$Orphan", "meet", "(JII)V"⟩, prog_3_method_7_code, 6, none)
theorem Y_O_meet : gY me_O_meet 3 := ⟨(gw_t3 (List.mem_of_getElem? (i := 209) rfl) rfl), (gw_t1 (List.mem_of_getElem? (i := 8) rfl) rfl), ⟨by decide +kernel, by decide +kernel, by decide +kernel⟩, by decide +kernel⟩
theorem I_O_meet : Cond.instanceMethod me_O_meet.1 ∈ gw ∧ Cond.selects me_O_meet.1.cls me_O_meet.1 me_O_meet.1 ∈ gw := ⟨(gw_t3 (List.mem_of_getElem? (i := 208) rfl) rfl), (gw_s (q := (⟨"LineRules$Orphan", "meet", "(JII)V"⟩, 10)) (by decide +kernel) rfl)⟩
def me_O_spread : gs_M := (⟨"LineRules$Orphan", "spread", "(J)V"⟩, prog_3_method_8_code, 5, none)
theorem Y_O_spread : gY me_O_spread 1 := ⟨(gw_t3 (List.mem_of_getElem? (i := 213) rfl) rfl), (gw_t1 (List.mem_of_getElem? (i := 8) rfl) rfl), ⟨by decide +kernel, by decide +kernel, by decide +kernel⟩, by decide +kernel⟩
theorem I_O_spread : Cond.instanceMethod me_O_spread.1 ∈ gw ∧ Cond.selects me_O_spread.1.cls me_O_spread.1 me_O_spread.1 ∈ gw := ⟨(gw_t3 (List.mem_of_getElem? (i := 212) rfl) rfl), (gw_s (q := (⟨"LineRules$Orphan", "spread", "(J)V"⟩, 10)) (by decide +kernel) rfl)⟩
def me_O_write : gs_M := (⟨"LineRules$Orphan", "write", "(II)I"⟩, prog_3_method_9_code, 6, (some .int))
theorem Y_O_write : gY me_O_write 2 := ⟨(gw_t3 (List.mem_of_getElem? (i := 219) rfl) rfl), (gw_t1 (List.mem_of_getElem? (i := 8) rfl) rfl), ⟨by decide +kernel, by decide +kernel, by decide +kernel⟩, by decide +kernel⟩
theorem I_O_write : Cond.instanceMethod me_O_write.1 ∈ gw ∧ Cond.selects me_O_write.1.cls me_O_write.1 me_O_write.1 ∈ gw := ⟨(gw_t3 (List.mem_of_getElem? (i := 218) rfl) rfl), (gw_s (q := (⟨"LineRules$Orphan", "write", "(II)I"⟩, 10)) (by decide +kernel) rfl)⟩
def me_A_orphanAt : gs_M := (⟨"LineRules", "orphanAt", "(I)I"⟩, prog_1_method_17_code, 2, (some .int))
theorem Y_A_orphanAt : gY me_A_orphanAt 1 := ⟨(gw_t3 (List.mem_of_getElem? (i := 223) rfl) rfl), (gw_t1 (List.mem_of_getElem? (i := 1) rfl) rfl), ⟨by decide +kernel, by decide +kernel, by decide +kernel⟩, by decide +kernel⟩
theorem I_A_orphanAt : Cond.instanceMethod me_A_orphanAt.1 ∈ gw ∧ Cond.selects me_A_orphanAt.1.cls me_A_orphanAt.1 me_A_orphanAt.1 ∈ gw := ⟨(gw_t3 (List.mem_of_getElem? (i := 221) rfl) rfl), (gw_t3 (List.mem_of_getElem? (i := 222) rfl) rfl)⟩
def me_O_cell : gs_M := (⟨"LineRules$Orphan", "cell", "(I)I"⟩, prog_3_method_4_code, 2, (some .int))
theorem Y_O_cell : gY me_O_cell 1 := ⟨(gw_t3 (List.mem_of_getElem? (i := 227) rfl) rfl), (gw_t1 (List.mem_of_getElem? (i := 8) rfl) rfl), ⟨by decide +kernel, by decide +kernel, by decide +kernel⟩, by decide +kernel⟩
theorem I_O_cell : Cond.instanceMethod me_O_cell.1 ∈ gw ∧ Cond.selects me_O_cell.1.cls me_O_cell.1 me_O_cell.1 ∈ gw := ⟨(gw_t3 (List.mem_of_getElem? (i := 225) rfl) rfl), (gw_t3 (List.mem_of_getElem? (i := 226) rfl) rfl)⟩
def me_A_before : gs_M := (⟨"LineRules", "before", "()I"⟩, prog_1_method_18_code, 1, (some .int))
theorem Y_A_before : gY me_A_before 0 := ⟨(gw_t3 (List.mem_of_getElem? (i := 231) rfl) rfl), (gw_t1 (List.mem_of_getElem? (i := 1) rfl) rfl), ⟨by decide +kernel, by decide +kernel, by decide +kernel⟩, by decide +kernel⟩
theorem I_A_before : Cond.instanceMethod me_A_before.1 ∈ gw ∧ Cond.selects me_A_before.1.cls me_A_before.1 me_A_before.1 ∈ gw := ⟨(gw_t3 (List.mem_of_getElem? (i := 229) rfl) rfl), (gw_t3 (List.mem_of_getElem? (i := 230) rfl) rfl)⟩
def me_H_exists : gs_M := (⟨"LineRules$Past", "exists", "()Z"⟩, prog_5_method_3_code, 1, (some .boolean))
theorem Y_H_exists : gY me_H_exists 0 := ⟨(gw_t3 (List.mem_of_getElem? (i := 235) rfl) rfl), (gw_t1 (List.mem_of_getElem? (i := 9) rfl) rfl), ⟨by decide +kernel, by decide +kernel, by decide +kernel⟩, by decide +kernel⟩
theorem I_H_exists : Cond.instanceMethod me_H_exists.1 ∈ gw ∧ Cond.selects me_H_exists.1.cls me_H_exists.1 me_H_exists.1 ∈ gw := ⟨(gw_t3 (List.mem_of_getElem? (i := 233) rfl) rfl), (gw_t3 (List.mem_of_getElem? (i := 234) rfl) rfl)⟩
def me_H_find : gs_M := (⟨"LineRules$Past", "find", "()V"⟩, prog_5_method_6_code, 2, none)
theorem Y_H_find : gY me_H_find 0 := ⟨(gw_t3 (List.mem_of_getElem? (i := 239) rfl) rfl), (gw_t1 (List.mem_of_getElem? (i := 9) rfl) rfl), ⟨by decide +kernel, by decide +kernel, by decide +kernel⟩, by decide +kernel⟩
theorem I_H_find : Cond.instanceMethod me_H_find.1 ∈ gw ∧ Cond.selects me_H_find.1.cls me_H_find.1 me_H_find.1 ∈ gw := ⟨(gw_t3 (List.mem_of_getElem? (i := 238) rfl) rfl), (gw_s (q := (⟨"LineRules$Past", "find", "()V"⟩, 10)) (by decide +kernel) rfl)⟩
def me_H_comesBackTo : gs_M := (⟨"LineRules$Past", "comesBackTo", "(I)Z"⟩, prog_5_method_8_code, 3, (some .boolean))
theorem Y_H_comesBackTo : gY me_H_comesBackTo 1 := ⟨(gw_t4 (List.mem_of_getElem? (i := 3) rfl) rfl), (gw_t1 (List.mem_of_getElem? (i := 9) rfl) rfl), ⟨by decide +kernel, by decide +kernel, by decide +kernel⟩, by decide +kernel⟩
theorem I_H_comesBackTo : Cond.instanceMethod me_H_comesBackTo.1 ∈ gw ∧ Cond.selects me_H_comesBackTo.1.cls me_H_comesBackTo.1 me_H_comesBackTo.1 ∈ gw := ⟨(gw_t4 (List.mem_of_getElem? (i := 2) rfl) rfl), (gw_s (q := (⟨"LineRules$Past", "comesBackTo", "(I)Z"⟩, 10)) (by decide +kernel) rfl)⟩
def me_H_due : gs_M := (⟨"LineRules$Past", "due", "(I)I"⟩, prog_5_method_7_code, 2, (some .int))
theorem Y_H_due : gY me_H_due 1 := ⟨(gw_t4 (List.mem_of_getElem? (i := 7) rfl) rfl), (gw_t1 (List.mem_of_getElem? (i := 9) rfl) rfl), ⟨by decide +kernel, by decide +kernel, by decide +kernel⟩, by decide +kernel⟩
theorem I_H_due : Cond.instanceMethod me_H_due.1 ∈ gw ∧ Cond.selects me_H_due.1.cls me_H_due.1 me_H_due.1 ∈ gw := ⟨(gw_t4 (List.mem_of_getElem? (i := 6) rfl) rfl), (gw_s (q := (⟨"LineRules$Past", "due", "(I)I"⟩, 10)) (by decide +kernel) rfl)⟩
def me_H_leadingInto : gs_M := (⟨"LineRules$Past", "leadingInto", "(JI)J"⟩, prog_5_method_9_code, 7, (some .long))
theorem Y_H_leadingInto : gY me_H_leadingInto 2 := ⟨(gw_t4 (List.mem_of_getElem? (i := 12) rfl) rfl), (gw_t1 (List.mem_of_getElem? (i := 9) rfl) rfl), ⟨by decide +kernel, by decide +kernel, by decide +kernel⟩, by decide +kernel⟩
theorem I_H_leadingInto : Cond.instanceMethod me_H_leadingInto.1 ∈ gw ∧ Cond.selects me_H_leadingInto.1.cls me_H_leadingInto.1 me_H_leadingInto.1 ∈ gw := ⟨(gw_t4 (List.mem_of_getElem? (i := 11) rfl) rfl), (gw_s (q := (⟨"LineRules$Past", "leadingInto", "(JI)J"⟩, 10)) (by decide +kernel) rfl)⟩
def me_H_trace : gs_M := (⟨"LineRules$Past", "trace", "(I)V"⟩, prog_5_method_10_code, 5, none)
theorem Y_H_trace : gY me_H_trace 1 := ⟨(gw_t4 (List.mem_of_getElem? (i := 17) rfl) rfl), (gw_t1 (List.mem_of_getElem? (i := 9) rfl) rfl), ⟨by decide +kernel, by decide +kernel, by decide +kernel⟩, by decide +kernel⟩
theorem I_H_trace : Cond.instanceMethod me_H_trace.1 ∈ gw ∧ Cond.selects me_H_trace.1.cls me_H_trace.1 me_H_trace.1 ∈ gw := ⟨(gw_t4 (List.mem_of_getElem? (i := 16) rfl) rfl), (gw_s (q := (⟨"LineRules$Past", "trace", "(I)V"⟩, 10)) (by decide +kernel) rfl)⟩
def me_H_leastCell : gs_M := (⟨"LineRules$Past", "leastCell", "(II)I"⟩, prog_5_method_11_code, 6, (some .int))
theorem Y_H_leastCell : gY me_H_leastCell 2 := ⟨(gw_t4 (List.mem_of_getElem? (i := 21) rfl) rfl), (gw_t1 (List.mem_of_getElem? (i := 9) rfl) rfl), ⟨by decide +kernel, by decide +kernel, by decide +kernel⟩, by decide +kernel⟩
theorem I_H_leastCell : Cond.instanceMethod me_H_leastCell.1 ∈ gw ∧ Cond.selects me_H_leastCell.1.cls me_H_leastCell.1 me_H_leastCell.1 ∈ gw := ⟨(gw_t4 (List.mem_of_getElem? (i := 20) rfl) rfl), (gw_s (q := (⟨"LineRules$Past", "leastCell", "(II)I"⟩, 10)) (by decide +kernel) rfl)⟩
def me_A_beforeAt : gs_M := (⟨"LineRules", "beforeAt", "(I)I"⟩, prog_1_method_19_code, 2, (some .int))
theorem Y_A_beforeAt : gY me_A_beforeAt 1 := ⟨(gw_t4 (List.mem_of_getElem? (i := 26) rfl) rfl), (gw_t1 (List.mem_of_getElem? (i := 1) rfl) rfl), ⟨by decide +kernel, by decide +kernel, by decide +kernel⟩, by decide +kernel⟩
theorem I_A_beforeAt : Cond.instanceMethod me_A_beforeAt.1 ∈ gw ∧ Cond.selects me_A_beforeAt.1.cls me_A_beforeAt.1 me_A_beforeAt.1 ∈ gw := ⟨(gw_t4 (List.mem_of_getElem? (i := 24) rfl) rfl), (gw_t4 (List.mem_of_getElem? (i := 25) rfl) rfl)⟩
def me_H_cell : gs_M := (⟨"LineRules$Past", "cell", "(I)I"⟩, prog_5_method_4_code, 2, (some .int))
theorem Y_H_cell : gY me_H_cell 1 := ⟨(gw_t4 (List.mem_of_getElem? (i := 30) rfl) rfl), (gw_t1 (List.mem_of_getElem? (i := 9) rfl) rfl), ⟨by decide +kernel, by decide +kernel, by decide +kernel⟩, by decide +kernel⟩
theorem I_H_cell : Cond.instanceMethod me_H_cell.1 ∈ gw ∧ Cond.selects me_H_cell.1.cls me_H_cell.1 me_H_cell.1 ∈ gw := ⟨(gw_t4 (List.mem_of_getElem? (i := 28) rfl) rfl), (gw_t4 (List.mem_of_getElem? (i := 29) rfl) rfl)⟩
def me_A_ways : gs_M := (⟨"LineRules", "ways", "()J"⟩, prog_1_method_20_code, 1, (some .long))
theorem Y_A_ways : gY me_A_ways 0 := ⟨(gw_t4 (List.mem_of_getElem? (i := 35) rfl) rfl), (gw_t1 (List.mem_of_getElem? (i := 1) rfl) rfl), ⟨by decide +kernel, by decide +kernel, by decide +kernel⟩, by decide +kernel⟩
theorem I_A_ways : Cond.instanceMethod me_A_ways.1 ∈ gw ∧ Cond.selects me_A_ways.1.cls me_A_ways.1 me_A_ways.1 ∈ gw := ⟨(gw_t4 (List.mem_of_getElem? (i := 33) rfl) rfl), (gw_t4 (List.mem_of_getElem? (i := 34) rfl) rfl)⟩
def me_H_count : gs_M := (⟨"LineRules$Past", "count", "()J"⟩, prog_5_method_5_code, 2, (some .long))
theorem Y_H_count : gY me_H_count 0 := ⟨(gw_t4 (List.mem_of_getElem? (i := 39) rfl) rfl), (gw_t1 (List.mem_of_getElem? (i := 9) rfl) rfl), ⟨by decide +kernel, by decide +kernel, by decide +kernel⟩, by decide +kernel⟩
theorem I_H_count : Cond.instanceMethod me_H_count.1 ∈ gw ∧ Cond.selects me_H_count.1.cls me_H_count.1 me_H_count.1 ∈ gw := ⟨(gw_t4 (List.mem_of_getElem? (i := 37) rfl) rfl), (gw_t4 (List.mem_of_getElem? (i := 38) rfl) rfl)⟩
def me_H_walksBackTo : gs_M := (⟨"LineRules$Past", "walksBackTo", "(I)J"⟩, prog_5_method_12_code, 3, (some .long))
theorem Y_H_walksBackTo : gY me_H_walksBackTo 1 := ⟨(gw_t4 (List.mem_of_getElem? (i := 43) rfl) rfl), (gw_t1 (List.mem_of_getElem? (i := 9) rfl) rfl), ⟨by decide +kernel, by decide +kernel, by decide +kernel⟩, by decide +kernel⟩
theorem I_H_walksBackTo : Cond.instanceMethod me_H_walksBackTo.1 ∈ gw ∧ Cond.selects me_H_walksBackTo.1.cls me_H_walksBackTo.1 me_H_walksBackTo.1 ∈ gw := ⟨(gw_t4 (List.mem_of_getElem? (i := 42) rfl) rfl), (gw_s (q := (⟨"LineRules$Past", "walksBackTo", "(I)J"⟩, 10)) (by decide +kernel) rfl)⟩
def me_H_goOn : gs_M := (⟨"LineRules$Past", "goOn", "(I)V"⟩, prog_5_method_13_code, 8, none)
theorem Y_H_goOn : gY me_H_goOn 1 := ⟨(gw_t4 (List.mem_of_getElem? (i := 48) rfl) rfl), (gw_t1 (List.mem_of_getElem? (i := 9) rfl) rfl), ⟨by decide +kernel, by decide +kernel, by decide +kernel⟩, by decide +kernel⟩
theorem I_H_goOn : Cond.instanceMethod me_H_goOn.1 ∈ gw ∧ Cond.selects me_H_goOn.1.cls me_H_goOn.1 me_H_goOn.1 ∈ gw := ⟨(gw_t4 (List.mem_of_getElem? (i := 47) rfl) rfl), (gw_s (q := (⟨"LineRules$Past", "goOn", "(I)V"⟩, 10)) (by decide +kernel) rfl)⟩
def me_Y_fillR : gs_M := (⟨"java/util/Arrays", "fill", "([JIIJ)V"⟩, prog_14_method_102_code, 6, none)
theorem Y_Y_fillR : gY me_Y_fillR 4 := ⟨(gw_t4 (List.mem_of_getElem? (i := 51) rfl) rfl), (gw_t1 (List.mem_of_getElem? (i := 12) rfl) rfl), ⟨by decide +kernel, by decide +kernel, by decide +kernel⟩, by decide +kernel⟩
theorem I_Y_fillR : Cond.static me_Y_fillR.1 ∈ gw := (gw_t4 (List.mem_of_getElem? (i := 50) rfl) rfl)
def me_Y_rangeCheck : gs_M := (⟨"java/util/Arrays", "rangeCheck", "(III)V"⟩, prog_14_method_30_code, 3, none)
theorem Y_Y_rangeCheck : gY me_Y_rangeCheck 3 := ⟨(gw_t4 (List.mem_of_getElem? (i := 54) rfl) rfl), (gw_t1 (List.mem_of_getElem? (i := 12) rfl) rfl), ⟨by decide +kernel, by decide +kernel, by decide +kernel⟩, by decide +kernel⟩
theorem I_Y_rangeCheck : Cond.static me_Y_rangeCheck.1 ∈ gw := (gw_t4 (List.mem_of_getElem? (i := 53) rfl) rfl)
def me_M_init : gs_M := (⟨"LineRulesModel", "<init>", "()V"⟩, prog_11_method_1_code, 1, none)
theorem Y_M_init : gY me_M_init 0 := ⟨(gw_t4 (List.mem_of_getElem? (i := 60) rfl) rfl), (gw_t1 (List.mem_of_getElem? (i := 10) rfl) rfl), ⟨by decide +kernel, by decide +kernel, by decide +kernel⟩, by decide +kernel⟩
def me_M_load : gs_M := (⟨"LineRulesModel", "load", "(I)I"⟩, prog_11_method_2_code, 2, (some .int))
theorem Y_M_load : gY me_M_load 1 := ⟨(gw_t4 (List.mem_of_getElem? (i := 229) rfl) rfl), (gw_t1 (List.mem_of_getElem? (i := 10) rfl) rfl), ⟨by decide +kernel, by decide +kernel, by decide +kernel⟩, by decide +kernel⟩
theorem I_M_load : Cond.instanceMethod me_M_load.1 ∈ gw ∧ Cond.selects me_M_load.1.cls me_M_load.1 me_M_load.1 ∈ gw := ⟨(gw_t4 (List.mem_of_getElem? (i := 227) rfl) rfl), (gw_t4 (List.mem_of_getElem? (i := 228) rfl) rfl)⟩
def me_M_rule : gs_M := (⟨"LineRulesModel", "rule", "()I"⟩, prog_11_method_19_code, 3, (some .int))
theorem Y_M_rule : gY me_M_rule 0 := ⟨(gw_t4 (List.mem_of_getElem? (i := 233) rfl) rfl), (gw_t1 (List.mem_of_getElem? (i := 10) rfl) rfl), ⟨by decide +kernel, by decide +kernel, by decide +kernel⟩, by decide +kernel⟩
theorem I_M_rule : Cond.instanceMethod me_M_rule.1 ∈ gw ∧ Cond.selects me_M_rule.1.cls me_M_rule.1 me_M_rule.1 ∈ gw := ⟨(gw_t4 (List.mem_of_getElem? (i := 231) rfl) rfl), (gw_t4 (List.mem_of_getElem? (i := 232) rfl) rfl)⟩
def me_M_readAll : gs_M := (⟨"LineRulesModel", "readAll", "()I"⟩, prog_11_method_17_code, 3, (some .int))
theorem Y_M_readAll : gY me_M_readAll 0 := ⟨(gw_t4 (List.mem_of_getElem? (i := 237) rfl) rfl), (gw_t1 (List.mem_of_getElem? (i := 10) rfl) rfl), ⟨by decide +kernel, by decide +kernel, by decide +kernel⟩, by decide +kernel⟩
theorem I_M_readAll : Cond.instanceMethod me_M_readAll.1 ∈ gw ∧ Cond.selects me_M_readAll.1.cls me_M_readAll.1 me_M_readAll.1 ∈ gw := ⟨(gw_t4 (List.mem_of_getElem? (i := 236) rfl) rfl), (gw_s (q := (⟨"LineRulesModel", "readAll", "()I"⟩, 54)) (by decide +kernel) rfl)⟩
def me_M_powerOf : gs_M := (⟨"LineRulesModel", "powerOf", "(II)I"⟩, prog_11_method_3_code, 4, (some .int))
theorem Y_M_powerOf : gY me_M_powerOf 2 := ⟨(gw_t5 (List.mem_of_getElem? (i := 0) rfl) rfl), (gw_t1 (List.mem_of_getElem? (i := 10) rfl) rfl), ⟨by decide +kernel, by decide +kernel, by decide +kernel⟩, by decide +kernel⟩
theorem I_M_powerOf : Cond.static me_M_powerOf.1 ∈ gw := (gw_t4 (List.mem_of_getElem? (i := 239) rfl) rfl)
def me_M_readRow : gs_M := (⟨"LineRulesModel", "readRow", "(I)I"⟩, prog_11_method_16_code, 3, (some .int))
theorem Y_M_readRow : gY me_M_readRow 1 := ⟨(gw_t5 (List.mem_of_getElem? (i := 4) rfl) rfl), (gw_t1 (List.mem_of_getElem? (i := 10) rfl) rfl), ⟨by decide +kernel, by decide +kernel, by decide +kernel⟩, by decide +kernel⟩
theorem I_M_readRow : Cond.instanceMethod me_M_readRow.1 ∈ gw ∧ Cond.selects me_M_readRow.1.cls me_M_readRow.1 me_M_readRow.1 ∈ gw := ⟨(gw_t5 (List.mem_of_getElem? (i := 3) rfl) rfl), (gw_s (q := (⟨"LineRulesModel", "readRow", "(I)I"⟩, 54)) (by decide +kernel) rfl)⟩
def me_M_work : gs_M := (⟨"LineRulesModel", "work", "(I)I"⟩, prog_11_method_15_code, 6, (some .int))
theorem Y_M_work : gY me_M_work 1 := ⟨(gw_t5 (List.mem_of_getElem? (i := 8) rfl) rfl), (gw_t1 (List.mem_of_getElem? (i := 10) rfl) rfl), ⟨by decide +kernel, by decide +kernel, by decide +kernel⟩, by decide +kernel⟩
theorem I_M_work : Cond.instanceMethod me_M_work.1 ∈ gw ∧ Cond.selects me_M_work.1.cls me_M_work.1 me_M_work.1 ∈ gw := ⟨(gw_t5 (List.mem_of_getElem? (i := 7) rfl) rfl), (gw_s (q := (⟨"LineRulesModel", "work", "(I)I"⟩, 54)) (by decide +kernel) rfl)⟩
def me_M_fresh : gs_M := (⟨"LineRulesModel", "fresh", "(I)V"⟩, prog_11_method_4_code, 2, none)
theorem Y_M_fresh : gY me_M_fresh 1 := ⟨(gw_t5 (List.mem_of_getElem? (i := 12) rfl) rfl), (gw_t1 (List.mem_of_getElem? (i := 10) rfl) rfl), ⟨by decide +kernel, by decide +kernel, by decide +kernel⟩, by decide +kernel⟩
theorem I_M_fresh : Cond.instanceMethod me_M_fresh.1 ∈ gw ∧ Cond.selects me_M_fresh.1.cls me_M_fresh.1 me_M_fresh.1 ∈ gw := ⟨(gw_t5 (List.mem_of_getElem? (i := 11) rfl) rfl), (gw_s (q := (⟨"LineRulesModel", "fresh", "(I)V"⟩, 54)) (by decide +kernel) rfl)⟩
def me_M_begins : gs_M := (⟨"LineRulesModel", "begins", "(II)Z"⟩, prog_11_method_13_code, 3, (some .boolean))
theorem Y_M_begins : gY me_M_begins 2 := ⟨(gw_t5 (List.mem_of_getElem? (i := 16) rfl) rfl), (gw_t1 (List.mem_of_getElem? (i := 10) rfl) rfl), ⟨by decide +kernel, by decide +kernel, by decide +kernel⟩, by decide +kernel⟩
theorem I_M_begins : Cond.instanceMethod me_M_begins.1 ∈ gw ∧ Cond.selects me_M_begins.1.cls me_M_begins.1 me_M_begins.1 ∈ gw := ⟨(gw_t5 (List.mem_of_getElem? (i := 15) rfl) rfl), (gw_s (q := (⟨"LineRulesModel", "begins", "(II)Z"⟩, 54)) (by decide +kernel) rfl)⟩
def me_M_operand : gs_M := (⟨"LineRulesModel", "operand", "(I)V"⟩, prog_11_method_6_code, 3, none)
theorem Y_M_operand : gY me_M_operand 1 := ⟨(gw_t5 (List.mem_of_getElem? (i := 20) rfl) rfl), (gw_t1 (List.mem_of_getElem? (i := 10) rfl) rfl), ⟨by decide +kernel, by decide +kernel, by decide +kernel⟩, by decide +kernel⟩
theorem I_M_operand : Cond.instanceMethod me_M_operand.1 ∈ gw ∧ Cond.selects me_M_operand.1.cls me_M_operand.1 me_M_operand.1 ∈ gw := ⟨(gw_t5 (List.mem_of_getElem? (i := 19) rfl) rfl), (gw_s (q := (⟨"LineRulesModel", "operand", "(I)V"⟩, 54)) (by decide +kernel) rfl)⟩
def me_M_open : gs_M := (⟨"LineRulesModel", "open", "(II)V"⟩, prog_11_method_5_code, 3, none)
theorem Y_M_open : gY me_M_open 2 := ⟨(gw_t5 (List.mem_of_getElem? (i := 24) rfl) rfl), (gw_t1 (List.mem_of_getElem? (i := 10) rfl) rfl), ⟨by decide +kernel, by decide +kernel, by decide +kernel⟩, by decide +kernel⟩
theorem I_M_open : Cond.instanceMethod me_M_open.1 ∈ gw ∧ Cond.selects me_M_open.1.cls me_M_open.1 me_M_open.1 ∈ gw := ⟨(gw_t5 (List.mem_of_getElem? (i := 23) rfl) rfl), (gw_s (q := (⟨"LineRulesModel", "open", "(II)V"⟩, 54)) (by decide +kernel) rfl)⟩
def me_M_goesOn : gs_M := (⟨"LineRulesModel", "goesOn", "(I)Z"⟩, prog_11_method_14_code, 3, (some .boolean))
theorem Y_M_goesOn : gY me_M_goesOn 1 := ⟨(gw_t5 (List.mem_of_getElem? (i := 28) rfl) rfl), (gw_t1 (List.mem_of_getElem? (i := 10) rfl) rfl), ⟨by decide +kernel, by decide +kernel, by decide +kernel⟩, by decide +kernel⟩
theorem I_M_goesOn : Cond.instanceMethod me_M_goesOn.1 ∈ gw ∧ Cond.selects me_M_goesOn.1.cls me_M_goesOn.1 me_M_goesOn.1 ∈ gw := ⟨(gw_t5 (List.mem_of_getElem? (i := 27) rfl) rfl), (gw_s (q := (⟨"LineRulesModel", "goesOn", "(I)Z"⟩, 54)) (by decide +kernel) rfl)⟩
def me_M_endProduct : gs_M := (⟨"LineRulesModel", "endProduct", "()V"⟩, prog_11_method_7_code, 3, none)
theorem Y_M_endProduct : gY me_M_endProduct 0 := ⟨(gw_t5 (List.mem_of_getElem? (i := 32) rfl) rfl), (gw_t1 (List.mem_of_getElem? (i := 10) rfl) rfl), ⟨by decide +kernel, by decide +kernel, by decide +kernel⟩, by decide +kernel⟩
theorem I_M_endProduct : Cond.instanceMethod me_M_endProduct.1 ∈ gw ∧ Cond.selects me_M_endProduct.1.cls me_M_endProduct.1 me_M_endProduct.1 ∈ gw := ⟨(gw_t5 (List.mem_of_getElem? (i := 31) rfl) rfl), (gw_s (q := (⟨"LineRulesModel", "endProduct", "()V"⟩, 54)) (by decide +kernel) rfl)⟩
def me_M_endSum : gs_M := (⟨"LineRulesModel", "endSum", "()I"⟩, prog_11_method_8_code, 1, (some .int))
theorem Y_M_endSum : gY me_M_endSum 0 := ⟨(gw_t5 (List.mem_of_getElem? (i := 36) rfl) rfl), (gw_t1 (List.mem_of_getElem? (i := 10) rfl) rfl), ⟨by decide +kernel, by decide +kernel, by decide +kernel⟩, by decide +kernel⟩
theorem I_M_endSum : Cond.instanceMethod me_M_endSum.1 ∈ gw ∧ Cond.selects me_M_endSum.1.cls me_M_endSum.1 me_M_endSum.1 ∈ gw := ⟨(gw_t5 (List.mem_of_getElem? (i := 35) rfl) rfl), (gw_s (q := (⟨"LineRulesModel", "endSum", "()I"⟩, 54)) (by decide +kernel) rfl)⟩
def me_M_endTest : gs_M := (⟨"LineRulesModel", "endTest", "()V"⟩, prog_11_method_9_code, 3, none)
theorem Y_M_endTest : gY me_M_endTest 0 := ⟨(gw_t5 (List.mem_of_getElem? (i := 40) rfl) rfl), (gw_t1 (List.mem_of_getElem? (i := 10) rfl) rfl), ⟨by decide +kernel, by decide +kernel, by decide +kernel⟩, by decide +kernel⟩
theorem I_M_endTest : Cond.instanceMethod me_M_endTest.1 ∈ gw ∧ Cond.selects me_M_endTest.1.cls me_M_endTest.1 me_M_endTest.1 ∈ gw := ⟨(gw_t5 (List.mem_of_getElem? (i := 39) rfl) rfl), (gw_s (q := (⟨"LineRulesModel", "endTest", "()V"⟩, 54)) (by decide +kernel) rfl)⟩
def me_M_endBoth : gs_M := (⟨"LineRulesModel", "endBoth", "()V"⟩, prog_11_method_10_code, 2, none)
theorem Y_M_endBoth : gY me_M_endBoth 0 := ⟨(gw_t5 (List.mem_of_getElem? (i := 44) rfl) rfl), (gw_t1 (List.mem_of_getElem? (i := 10) rfl) rfl), ⟨by decide +kernel, by decide +kernel, by decide +kernel⟩, by decide +kernel⟩
theorem I_M_endBoth : Cond.instanceMethod me_M_endBoth.1 ∈ gw ∧ Cond.selects me_M_endBoth.1.cls me_M_endBoth.1 me_M_endBoth.1 ∈ gw := ⟨(gw_t5 (List.mem_of_getElem? (i := 43) rfl) rfl), (gw_s (q := (⟨"LineRulesModel", "endBoth", "()V"⟩, 54)) (by decide +kernel) rfl)⟩
def me_M_endEither : gs_M := (⟨"LineRulesModel", "endEither", "()I"⟩, prog_11_method_11_code, 1, (some .int))
theorem Y_M_endEither : gY me_M_endEither 0 := ⟨(gw_t5 (List.mem_of_getElem? (i := 48) rfl) rfl), (gw_t1 (List.mem_of_getElem? (i := 10) rfl) rfl), ⟨by decide +kernel, by decide +kernel, by decide +kernel⟩, by decide +kernel⟩
theorem I_M_endEither : Cond.instanceMethod me_M_endEither.1 ∈ gw ∧ Cond.selects me_M_endEither.1.cls me_M_endEither.1 me_M_endEither.1 ∈ gw := ⟨(gw_t5 (List.mem_of_getElem? (i := 47) rfl) rfl), (gw_s (q := (⟨"LineRulesModel", "endEither", "()I"⟩, 54)) (by decide +kernel) rfl)⟩
def me_M_endChoice : gs_M := (⟨"LineRulesModel", "endChoice", "()I"⟩, prog_11_method_12_code, 2, (some .int))
theorem Y_M_endChoice : gY me_M_endChoice 0 := ⟨(gw_t5 (List.mem_of_getElem? (i := 52) rfl) rfl), (gw_t1 (List.mem_of_getElem? (i := 10) rfl) rfl), ⟨by decide +kernel, by decide +kernel, by decide +kernel⟩, by decide +kernel⟩
theorem I_M_endChoice : Cond.instanceMethod me_M_endChoice.1 ∈ gw ∧ Cond.selects me_M_endChoice.1.cls me_M_endChoice.1 me_M_endChoice.1 ∈ gw := ⟨(gw_t5 (List.mem_of_getElem? (i := 51) rfl) rfl), (gw_s (q := (⟨"LineRulesModel", "endChoice", "()I"⟩, 54)) (by decide +kernel) rfl)⟩
def me_M_digitSum : gs_M := (⟨"LineRulesModel", "digitSum", "(II)I"⟩, prog_11_method_18_code, 4, (some .int))
theorem Y_M_digitSum : gY me_M_digitSum 2 := ⟨(gw_t5 (List.mem_of_getElem? (i := 55) rfl) rfl), (gw_t1 (List.mem_of_getElem? (i := 10) rfl) rfl), ⟨by decide +kernel, by decide +kernel, by decide +kernel⟩, by decide +kernel⟩
theorem I_M_digitSum : Cond.static me_M_digitSum.1 ∈ gw := (gw_t5 (List.mem_of_getElem? (i := 54) rfl) rfl)
def me_M_next : gs_M := (⟨"LineRulesModel", "next", "(I)I"⟩, prog_11_method_20_code, 2, (some .int))
theorem Y_M_next : gY me_M_next 1 := ⟨(gw_t5 (List.mem_of_getElem? (i := 59) rfl) rfl), (gw_t1 (List.mem_of_getElem? (i := 10) rfl) rfl), ⟨by decide +kernel, by decide +kernel, by decide +kernel⟩, by decide +kernel⟩
theorem I_M_next : Cond.instanceMethod me_M_next.1 ∈ gw ∧ Cond.selects me_M_next.1.cls me_M_next.1 me_M_next.1 ∈ gw := ⟨(gw_t5 (List.mem_of_getElem? (i := 57) rfl) rfl), (gw_t5 (List.mem_of_getElem? (i := 58) rfl) rfl)⟩
def me_M_ring : gs_M := (⟨"LineRulesModel", "ring", "(I)I"⟩, prog_11_method_21_code, 4, (some .int))
theorem Y_M_ring : gY me_M_ring 1 := ⟨(gw_t5 (List.mem_of_getElem? (i := 63) rfl) rfl), (gw_t1 (List.mem_of_getElem? (i := 10) rfl) rfl), ⟨by decide +kernel, by decide +kernel, by decide +kernel⟩, by decide +kernel⟩
theorem I_M_ring : Cond.instanceMethod me_M_ring.1 ∈ gw ∧ Cond.selects me_M_ring.1.cls me_M_ring.1 me_M_ring.1 ∈ gw := ⟨(gw_t5 (List.mem_of_getElem? (i := 61) rfl) rfl), (gw_t5 (List.mem_of_getElem? (i := 62) rfl) rfl)⟩
def me_M_set : gs_M := (⟨"LineRulesModel", "set", "(II)I"⟩, prog_11_method_22_code, 4, (some .int))
theorem Y_M_set : gY me_M_set 2 := ⟨(gw_t5 (List.mem_of_getElem? (i := 67) rfl) rfl), (gw_t1 (List.mem_of_getElem? (i := 10) rfl) rfl), ⟨by decide +kernel, by decide +kernel, by decide +kernel⟩, by decide +kernel⟩
theorem I_M_set : Cond.instanceMethod me_M_set.1 ∈ gw ∧ Cond.selects me_M_set.1.cls me_M_set.1 me_M_set.1 ∈ gw := ⟨(gw_t5 (List.mem_of_getElem? (i := 65) rfl) rfl), (gw_t5 (List.mem_of_getElem? (i := 66) rfl) rfl)⟩
def me_M_get : gs_M := (⟨"LineRulesModel", "get", "(I)I"⟩, prog_11_method_23_code, 2, (some .int))
theorem Y_M_get : gY me_M_get 1 := ⟨(gw_t5 (List.mem_of_getElem? (i := 71) rfl) rfl), (gw_t1 (List.mem_of_getElem? (i := 10) rfl) rfl), ⟨by decide +kernel, by decide +kernel, by decide +kernel⟩, by decide +kernel⟩
theorem I_M_get : Cond.instanceMethod me_M_get.1 ∈ gw ∧ Cond.selects me_M_get.1.cls me_M_get.1 me_M_get.1 ∈ gw := ⟨(gw_t5 (List.mem_of_getElem? (i := 69) rfl) rfl), (gw_t5 (List.mem_of_getElem? (i := 70) rfl) rfl)⟩
def me_M_step : gs_M := (⟨"LineRulesModel", "step", "(I)I"⟩, prog_11_method_25_code, 4, (some .int))
theorem Y_M_step : gY me_M_step 1 := ⟨(gw_t5 (List.mem_of_getElem? (i := 75) rfl) rfl), (gw_t1 (List.mem_of_getElem? (i := 10) rfl) rfl), ⟨by decide +kernel, by decide +kernel, by decide +kernel⟩, by decide +kernel⟩
theorem I_M_step : Cond.instanceMethod me_M_step.1 ∈ gw ∧ Cond.selects me_M_step.1.cls me_M_step.1 me_M_step.1 ∈ gw := ⟨(gw_t5 (List.mem_of_getElem? (i := 73) rfl) rfl), (gw_t5 (List.mem_of_getElem? (i := 74) rfl) rfl)⟩
def me_M_turn : gs_M := (⟨"LineRulesModel", "turn", "()V"⟩, prog_11_method_24_code, 5, none)
theorem Y_M_turn : gY me_M_turn 0 := ⟨(gw_t5 (List.mem_of_getElem? (i := 79) rfl) rfl), (gw_t1 (List.mem_of_getElem? (i := 10) rfl) rfl), ⟨by decide +kernel, by decide +kernel, by decide +kernel⟩, by decide +kernel⟩
theorem I_M_turn : Cond.instanceMethod me_M_turn.1 ∈ gw ∧ Cond.selects me_M_turn.1.cls me_M_turn.1 me_M_turn.1 ∈ gw := ⟨(gw_t5 (List.mem_of_getElem? (i := 78) rfl) rfl), (gw_s (q := (⟨"LineRulesModel", "turn", "()V"⟩, 54)) (by decide +kernel) rfl)⟩
def me_M_population : gs_M := (⟨"LineRulesModel", "population", "(I)I"⟩, prog_11_method_26_code, 4, (some .int))
theorem Y_M_population : gY me_M_population 1 := ⟨(gw_t5 (List.mem_of_getElem? (i := 83) rfl) rfl), (gw_t1 (List.mem_of_getElem? (i := 10) rfl) rfl), ⟨by decide +kernel, by decide +kernel, by decide +kernel⟩, by decide +kernel⟩
theorem I_M_population : Cond.instanceMethod me_M_population.1 ∈ gw ∧ Cond.selects me_M_population.1.cls me_M_population.1 me_M_population.1 ∈ gw := ⟨(gw_t5 (List.mem_of_getElem? (i := 81) rfl) rfl), (gw_t5 (List.mem_of_getElem? (i := 82) rfl) rfl)⟩
def me_M_surjective : gs_M := (⟨"LineRulesModel", "surjective", "()I"⟩, prog_11_method_32_code, 2, (some .int))
theorem Y_M_surjective : gY me_M_surjective 0 := ⟨(gw_t5 (List.mem_of_getElem? (i := 87) rfl) rfl), (gw_t1 (List.mem_of_getElem? (i := 10) rfl) rfl), ⟨by decide +kernel, by decide +kernel, by decide +kernel⟩, by decide +kernel⟩
theorem I_M_surjective : Cond.instanceMethod me_M_surjective.1 ∈ gw ∧ Cond.selects me_M_surjective.1.cls me_M_surjective.1 me_M_surjective.1 ∈ gw := ⟨(gw_t5 (List.mem_of_getElem? (i := 85) rfl) rfl), (gw_t5 (List.mem_of_getElem? (i := 86) rfl) rfl)⟩
def me_M_makesAll : gs_M := (⟨"LineRulesModel", "makesAll", "()Z"⟩, prog_11_method_27_code, 3, (some .boolean))
theorem Y_M_makesAll : gY me_M_makesAll 0 := ⟨(gw_t5 (List.mem_of_getElem? (i := 91) rfl) rfl), (gw_t1 (List.mem_of_getElem? (i := 10) rfl) rfl), ⟨by decide +kernel, by decide +kernel, by decide +kernel⟩, by decide +kernel⟩
theorem I_M_makesAll : Cond.instanceMethod me_M_makesAll.1 ∈ gw ∧ Cond.selects me_M_makesAll.1.cls me_M_makesAll.1 me_M_makesAll.1 ∈ gw := ⟨(gw_t5 (List.mem_of_getElem? (i := 90) rfl) rfl), (gw_s (q := (⟨"LineRulesModel", "makesAll", "()Z"⟩, 54)) (by decide +kernel) rfl)⟩
def me_M_losesSomewhere : gs_M := (⟨"LineRulesModel", "losesSomewhere", "()Z"⟩, prog_11_method_30_code, 4, (some .boolean))
theorem Y_M_losesSomewhere : gY me_M_losesSomewhere 0 := ⟨(gw_t5 (List.mem_of_getElem? (i := 95) rfl) rfl), (gw_t1 (List.mem_of_getElem? (i := 10) rfl) rfl), ⟨by decide +kernel, by decide +kernel, by decide +kernel⟩, by decide +kernel⟩
theorem I_M_losesSomewhere : Cond.instanceMethod me_M_losesSomewhere.1 ∈ gw ∧ Cond.selects me_M_losesSomewhere.1.cls me_M_losesSomewhere.1 me_M_losesSomewhere.1 ∈ gw := ⟨(gw_t5 (List.mem_of_getElem? (i := 94) rfl) rfl), (gw_s (q := (⟨"LineRulesModel", "losesSomewhere", "()Z"⟩, 54)) (by decide +kernel) rfl)⟩
def me_M_comesFrom : gs_M := (⟨"LineRulesModel", "comesFrom", "(II)Z"⟩, prog_11_method_29_code, 7, (some .boolean))
theorem Y_M_comesFrom : gY me_M_comesFrom 2 := ⟨(gw_t5 (List.mem_of_getElem? (i := 99) rfl) rfl), (gw_t1 (List.mem_of_getElem? (i := 10) rfl) rfl), ⟨by decide +kernel, by decide +kernel, by decide +kernel⟩, by decide +kernel⟩
theorem I_M_comesFrom : Cond.instanceMethod me_M_comesFrom.1 ∈ gw ∧ Cond.selects me_M_comesFrom.1.cls me_M_comesFrom.1 me_M_comesFrom.1 ∈ gw := ⟨(gw_t5 (List.mem_of_getElem? (i := 98) rfl) rfl), (gw_s (q := (⟨"LineRulesModel", "comesFrom", "(II)Z"⟩, 54)) (by decide +kernel) rfl)⟩
def me_M_leadsOn : gs_M := (⟨"LineRulesModel", "leadsOn", "(IIZZ)Z"⟩, prog_11_method_28_code, 10, (some .boolean))
theorem Y_M_leadsOn : gY me_M_leadsOn 4 := ⟨(gw_t5 (List.mem_of_getElem? (i := 103) rfl) rfl), (gw_t1 (List.mem_of_getElem? (i := 10) rfl) rfl), ⟨by decide +kernel, by decide +kernel, by decide +kernel⟩, by decide +kernel⟩
theorem I_M_leadsOn : Cond.instanceMethod me_M_leadsOn.1 ∈ gw ∧ Cond.selects me_M_leadsOn.1.cls me_M_leadsOn.1 me_M_leadsOn.1 ∈ gw := ⟨(gw_t5 (List.mem_of_getElem? (i := 102) rfl) rfl), (gw_s (q := (⟨"LineRulesModel", "leadsOn", "(IIZZ)Z"⟩, 54)) (by decide +kernel) rfl)⟩
def me_M_injective : gs_M := (⟨"LineRulesModel", "injective", "()I"⟩, prog_11_method_33_code, 2, (some .int))
theorem Y_M_injective : gY me_M_injective 0 := ⟨(gw_t5 (List.mem_of_getElem? (i := 107) rfl) rfl), (gw_t1 (List.mem_of_getElem? (i := 10) rfl) rfl), ⟨by decide +kernel, by decide +kernel, by decide +kernel⟩, by decide +kernel⟩
theorem I_M_injective : Cond.instanceMethod me_M_injective.1 ∈ gw ∧ Cond.selects me_M_injective.1.cls me_M_injective.1 me_M_injective.1 ∈ gw := ⟨(gw_t5 (List.mem_of_getElem? (i := 105) rfl) rfl), (gw_t5 (List.mem_of_getElem? (i := 106) rfl) rfl)⟩
def me_M_anyPair : gs_M := (⟨"LineRulesModel", "anyPair", "()Z"⟩, prog_11_method_31_code, 4, (some .boolean))
theorem Y_M_anyPair : gY me_M_anyPair 0 := ⟨(gw_t5 (List.mem_of_getElem? (i := 111) rfl) rfl), (gw_t1 (List.mem_of_getElem? (i := 10) rfl) rfl), ⟨by decide +kernel, by decide +kernel, by decide +kernel⟩, by decide +kernel⟩
theorem I_M_anyPair : Cond.instanceMethod me_M_anyPair.1 ∈ gw ∧ Cond.selects me_M_anyPair.1.cls me_M_anyPair.1 me_M_anyPair.1 ∈ gw := ⟨(gw_t5 (List.mem_of_getElem? (i := 110) rfl) rfl), (gw_s (q := (⟨"LineRulesModel", "anyPair", "()Z"⟩, 54)) (by decide +kernel) rfl)⟩
def me_M_inverse : gs_M := (⟨"LineRulesModel", "inverse", "(I)I"⟩, prog_11_method_37_code, 2, (some .int))
theorem Y_M_inverse : gY me_M_inverse 1 := ⟨(gw_t5 (List.mem_of_getElem? (i := 115) rfl) rfl), (gw_t1 (List.mem_of_getElem? (i := 10) rfl) rfl), ⟨by decide +kernel, by decide +kernel, by decide +kernel⟩, by decide +kernel⟩
theorem I_M_inverse : Cond.instanceMethod me_M_inverse.1 ∈ gw ∧ Cond.selects me_M_inverse.1.cls me_M_inverse.1 me_M_inverse.1 ∈ gw := ⟨(gw_t5 (List.mem_of_getElem? (i := 113) rfl) rfl), (gw_t5 (List.mem_of_getElem? (i := 114) rfl) rfl)⟩
def me_M_findInverse : gs_M := (⟨"LineRulesModel", "findInverse", "()V"⟩, prog_11_method_36_code, 3, none)
theorem Y_M_findInverse : gY me_M_findInverse 0 := ⟨(gw_t5 (List.mem_of_getElem? (i := 119) rfl) rfl), (gw_t1 (List.mem_of_getElem? (i := 10) rfl) rfl), ⟨by decide +kernel, by decide +kernel, by decide +kernel⟩, by decide +kernel⟩
theorem I_M_findInverse : Cond.instanceMethod me_M_findInverse.1 ∈ gw ∧ Cond.selects me_M_findInverse.1.cls me_M_findInverse.1 me_M_findInverse.1 ∈ gw := ⟨(gw_t5 (List.mem_of_getElem? (i := 118) rfl) rfl), (gw_s (q := (⟨"LineRulesModel", "findInverse", "()V"⟩, 54)) (by decide +kernel) rfl)⟩
def me_M_tells : gs_M := (⟨"LineRulesModel", "tells", "(II)Z"⟩, prog_11_method_35_code, 9, (some .boolean))
theorem Y_M_tells : gY me_M_tells 2 := ⟨(gw_t5 (List.mem_of_getElem? (i := 123) rfl) rfl), (gw_t1 (List.mem_of_getElem? (i := 10) rfl) rfl), ⟨by decide +kernel, by decide +kernel, by decide +kernel⟩, by decide +kernel⟩
theorem I_M_tells : Cond.instanceMethod me_M_tells.1 ∈ gw ∧ Cond.selects me_M_tells.1.cls me_M_tells.1 me_M_tells.1 ∈ gw := ⟨(gw_t5 (List.mem_of_getElem? (i := 122) rfl) rfl), (gw_s (q := (⟨"LineRulesModel", "tells", "(II)Z"⟩, 54)) (by decide +kernel) rfl)⟩
def me_M_madeOf : gs_M := (⟨"LineRulesModel", "madeOf", "(II)I"⟩, prog_11_method_34_code, 5, (some .int))
theorem Y_M_madeOf : gY me_M_madeOf 2 := ⟨(gw_t5 (List.mem_of_getElem? (i := 127) rfl) rfl), (gw_t1 (List.mem_of_getElem? (i := 10) rfl) rfl), ⟨by decide +kernel, by decide +kernel, by decide +kernel⟩, by decide +kernel⟩
theorem I_M_madeOf : Cond.instanceMethod me_M_madeOf.1 ∈ gw ∧ Cond.selects me_M_madeOf.1.cls me_M_madeOf.1 me_M_madeOf.1 ∈ gw := ⟨(gw_t5 (List.mem_of_getElem? (i := 126) rfl) rfl), (gw_s (q := (⟨"LineRulesModel", "madeOf", "(II)I"⟩, 54)) (by decide +kernel) rfl)⟩
def me_M_undo : gs_M := (⟨"LineRulesModel", "undo", "(I)I"⟩, prog_11_method_38_code, 2, (some .int))
theorem Y_M_undo : gY me_M_undo 1 := ⟨(gw_t5 (List.mem_of_getElem? (i := 131) rfl) rfl), (gw_t1 (List.mem_of_getElem? (i := 10) rfl) rfl), ⟨by decide +kernel, by decide +kernel, by decide +kernel⟩, by decide +kernel⟩
theorem I_M_undo : Cond.instanceMethod me_M_undo.1 ∈ gw ∧ Cond.selects me_M_undo.1.cls me_M_undo.1 me_M_undo.1 ∈ gw := ⟨(gw_t5 (List.mem_of_getElem? (i := 129) rfl) rfl), (gw_t5 (List.mem_of_getElem? (i := 130) rfl) rfl)⟩
def me_M_conserved : gs_M := (⟨"LineRulesModel", "conserved", "()I"⟩, prog_11_method_45_code, 1, (some .int))
theorem Y_M_conserved : gY me_M_conserved 0 := ⟨(gw_t5 (List.mem_of_getElem? (i := 135) rfl) rfl), (gw_t1 (List.mem_of_getElem? (i := 10) rfl) rfl), ⟨by decide +kernel, by decide +kernel, by decide +kernel⟩, by decide +kernel⟩
theorem I_M_conserved : Cond.instanceMethod me_M_conserved.1 ∈ gw ∧ Cond.selects me_M_conserved.1.cls me_M_conserved.1 me_M_conserved.1 ∈ gw := ⟨(gw_t5 (List.mem_of_getElem? (i := 133) rfl) rfl), (gw_t5 (List.mem_of_getElem? (i := 134) rfl) rfl)⟩
def me_M_findWeights : gs_M := (⟨"LineRulesModel", "findWeights", "()V"⟩, prog_11_method_44_code, 11, none)
theorem Y_M_findWeights : gY me_M_findWeights 0 := ⟨(gw_t5 (List.mem_of_getElem? (i := 139) rfl) rfl), (gw_t1 (List.mem_of_getElem? (i := 10) rfl) rfl), ⟨by decide +kernel, by decide +kernel, by decide +kernel⟩, by decide +kernel⟩
theorem I_M_findWeights : Cond.instanceMethod me_M_findWeights.1 ∈ gw ∧ Cond.selects me_M_findWeights.1.cls me_M_findWeights.1 me_M_findWeights.1 ∈ gw := ⟨(gw_t5 (List.mem_of_getElem? (i := 138) rfl) rfl), (gw_s (q := (⟨"LineRulesModel", "findWeights", "()V"⟩, 54)) (by decide +kernel) rfl)⟩
def me_M_equation : gs_M := (⟨"LineRulesModel", "equation", "(I)V"⟩, prog_11_method_40_code, 3, none)
theorem Y_M_equation : gY me_M_equation 1 := ⟨(gw_t5 (List.mem_of_getElem? (i := 143) rfl) rfl), (gw_t1 (List.mem_of_getElem? (i := 10) rfl) rfl), ⟨by decide +kernel, by decide +kernel, by decide +kernel⟩, by decide +kernel⟩
theorem I_M_equation : Cond.instanceMethod me_M_equation.1 ∈ gw ∧ Cond.selects me_M_equation.1.cls me_M_equation.1 me_M_equation.1 ∈ gw := ⟨(gw_t5 (List.mem_of_getElem? (i := 142) rfl) rfl), (gw_s (q := (⟨"LineRulesModel", "equation", "(I)V"⟩, 54)) (by decide +kernel) rfl)⟩
def me_M_keep : gs_M := (⟨"LineRulesModel", "keep", "()V"⟩, prog_11_method_42_code, 3, none)
theorem Y_M_keep : gY me_M_keep 0 := ⟨(gw_t5 (List.mem_of_getElem? (i := 147) rfl) rfl), (gw_t1 (List.mem_of_getElem? (i := 10) rfl) rfl), ⟨by decide +kernel, by decide +kernel, by decide +kernel⟩, by decide +kernel⟩
theorem I_M_keep : Cond.instanceMethod me_M_keep.1 ∈ gw ∧ Cond.selects me_M_keep.1.cls me_M_keep.1 me_M_keep.1 ∈ gw := ⟨(gw_t5 (List.mem_of_getElem? (i := 146) rfl) rfl), (gw_s (q := (⟨"LineRulesModel", "keep", "()V"⟩, 54)) (by decide +kernel) rfl)⟩
def me_M_reduce : gs_M := (⟨"LineRulesModel", "reduce", "(II)V"⟩, prog_11_method_41_code, 10, none)
theorem Y_M_reduce : gY me_M_reduce 2 := ⟨(gw_t5 (List.mem_of_getElem? (i := 151) rfl) rfl), (gw_t1 (List.mem_of_getElem? (i := 10) rfl) rfl), ⟨by decide +kernel, by decide +kernel, by decide +kernel⟩, by decide +kernel⟩
theorem I_M_reduce : Cond.instanceMethod me_M_reduce.1 ∈ gw ∧ Cond.selects me_M_reduce.1.cls me_M_reduce.1 me_M_reduce.1 ∈ gw := ⟨(gw_t5 (List.mem_of_getElem? (i := 150) rfl) rfl), (gw_s (q := (⟨"LineRulesModel", "reduce", "(II)V"⟩, 54)) (by decide +kernel) rfl)⟩
def me_M_divisor : gs_M := (⟨"LineRulesModel", "divisor", "(JJ)J"⟩, prog_11_method_39_code, 10, (some .long))
theorem Y_M_divisor : gY me_M_divisor 2 := ⟨(gw_t5 (List.mem_of_getElem? (i := 154) rfl) rfl), (gw_t1 (List.mem_of_getElem? (i := 10) rfl) rfl), ⟨by decide +kernel, by decide +kernel, by decide +kernel⟩, by decide +kernel⟩
theorem I_M_divisor : Cond.static me_M_divisor.1 ∈ gw := (gw_t5 (List.mem_of_getElem? (i := 153) rfl) rfl)
def me_M_clearRow : gs_M := (⟨"LineRulesModel", "clearRow", "(I)V"⟩, prog_11_method_43_code, 3, none)
theorem Y_M_clearRow : gY me_M_clearRow 1 := ⟨(gw_t5 (List.mem_of_getElem? (i := 158) rfl) rfl), (gw_t1 (List.mem_of_getElem? (i := 10) rfl) rfl), ⟨by decide +kernel, by decide +kernel, by decide +kernel⟩, by decide +kernel⟩
theorem I_M_clearRow : Cond.instanceMethod me_M_clearRow.1 ∈ gw ∧ Cond.selects me_M_clearRow.1.cls me_M_clearRow.1 me_M_clearRow.1 ∈ gw := ⟨(gw_t5 (List.mem_of_getElem? (i := 157) rfl) rfl), (gw_s (q := (⟨"LineRulesModel", "clearRow", "(I)V"⟩, 54)) (by decide +kernel) rfl)⟩
def me_M_weight : gs_M := (⟨"LineRulesModel", "weight", "(II)I"⟩, prog_11_method_46_code, 3, (some .int))
theorem Y_M_weight : gY me_M_weight 2 := ⟨(gw_t5 (List.mem_of_getElem? (i := 162) rfl) rfl), (gw_t1 (List.mem_of_getElem? (i := 10) rfl) rfl), ⟨by decide +kernel, by decide +kernel, by decide +kernel⟩, by decide +kernel⟩
theorem I_M_weight : Cond.instanceMethod me_M_weight.1 ∈ gw ∧ Cond.selects me_M_weight.1.cls me_M_weight.1 me_M_weight.1 ∈ gw := ⟨(gw_t5 (List.mem_of_getElem? (i := 160) rfl) rfl), (gw_t5 (List.mem_of_getElem? (i := 161) rfl) rfl)⟩
def me_M_orphan : gs_M := (⟨"LineRulesModel", "orphan", "()I"⟩, prog_11_method_50_code, 1, (some .int))
theorem Y_M_orphan : gY me_M_orphan 0 := ⟨(gw_t5 (List.mem_of_getElem? (i := 166) rfl) rfl), (gw_t1 (List.mem_of_getElem? (i := 10) rfl) rfl), ⟨by decide +kernel, by decide +kernel, by decide +kernel⟩, by decide +kernel⟩
theorem I_M_orphan : Cond.instanceMethod me_M_orphan.1 ∈ gw ∧ Cond.selects me_M_orphan.1.cls me_M_orphan.1 me_M_orphan.1 ∈ gw := ⟨(gw_t5 (List.mem_of_getElem? (i := 164) rfl) rfl), (gw_t5 (List.mem_of_getElem? (i := 165) rfl) rfl)⟩
def me_M_findOrphan : gs_M := (⟨"LineRulesModel", "findOrphan", "()V"⟩, prog_11_method_49_code, 8, none)
theorem Y_M_findOrphan : gY me_M_findOrphan 0 := ⟨(gw_t5 (List.mem_of_getElem? (i := 170) rfl) rfl), (gw_t1 (List.mem_of_getElem? (i := 10) rfl) rfl), ⟨by decide +kernel, by decide +kernel, by decide +kernel⟩, by decide +kernel⟩
theorem I_M_findOrphan : Cond.instanceMethod me_M_findOrphan.1 ∈ gw ∧ Cond.selects me_M_findOrphan.1.cls me_M_findOrphan.1 me_M_findOrphan.1 ∈ gw := ⟨(gw_t5 (List.mem_of_getElem? (i := 169) rfl) rfl), (gw_s (q := (⟨"LineRulesModel", "findOrphan", "()V"⟩, 54)) (by decide +kernel) rfl)⟩
def me_M_behind : gs_M := (⟨"LineRulesModel", "behind", "(JI)J"⟩, prog_11_method_47_code, 8, (some .long))
theorem Y_M_behind : gY me_M_behind 2 := ⟨(gw_t5 (List.mem_of_getElem? (i := 176) rfl) rfl), (gw_t1 (List.mem_of_getElem? (i := 10) rfl) rfl), ⟨by decide +kernel, by decide +kernel, by decide +kernel⟩, by decide +kernel⟩
theorem I_M_behind : Cond.instanceMethod me_M_behind.1 ∈ gw ∧ Cond.selects me_M_behind.1.cls me_M_behind.1 me_M_behind.1 ∈ gw := ⟨(gw_t5 (List.mem_of_getElem? (i := 175) rfl) rfl), (gw_s (q := (⟨"LineRulesModel", "behind", "(JI)J"⟩, 54)) (by decide +kernel) rfl)⟩
def me_M_spell : gs_M := (⟨"LineRulesModel", "spell", "(II)V"⟩, prog_11_method_48_code, 6, none)
theorem Y_M_spell : gY me_M_spell 2 := ⟨(gw_t5 (List.mem_of_getElem? (i := 180) rfl) rfl), (gw_t1 (List.mem_of_getElem? (i := 10) rfl) rfl), ⟨by decide +kernel, by decide +kernel, by decide +kernel⟩, by decide +kernel⟩
theorem I_M_spell : Cond.instanceMethod me_M_spell.1 ∈ gw ∧ Cond.selects me_M_spell.1.cls me_M_spell.1 me_M_spell.1 ∈ gw := ⟨(gw_t5 (List.mem_of_getElem? (i := 179) rfl) rfl), (gw_s (q := (⟨"LineRulesModel", "spell", "(II)V"⟩, 54)) (by decide +kernel) rfl)⟩
def me_M_orphanAt : gs_M := (⟨"LineRulesModel", "orphanAt", "(I)I"⟩, prog_11_method_51_code, 2, (some .int))
theorem Y_M_orphanAt : gY me_M_orphanAt 1 := ⟨(gw_t5 (List.mem_of_getElem? (i := 184) rfl) rfl), (gw_t1 (List.mem_of_getElem? (i := 10) rfl) rfl), ⟨by decide +kernel, by decide +kernel, by decide +kernel⟩, by decide +kernel⟩
theorem I_M_orphanAt : Cond.instanceMethod me_M_orphanAt.1 ∈ gw ∧ Cond.selects me_M_orphanAt.1.cls me_M_orphanAt.1 me_M_orphanAt.1 ∈ gw := ⟨(gw_t5 (List.mem_of_getElem? (i := 182) rfl) rfl), (gw_t5 (List.mem_of_getElem? (i := 183) rfl) rfl)⟩
def me_M_before : gs_M := (⟨"LineRulesModel", "before", "()I"⟩, prog_11_method_57_code, 1, (some .int))
theorem Y_M_before : gY me_M_before 0 := ⟨(gw_t5 (List.mem_of_getElem? (i := 188) rfl) rfl), (gw_t1 (List.mem_of_getElem? (i := 10) rfl) rfl), ⟨by decide +kernel, by decide +kernel, by decide +kernel⟩, by decide +kernel⟩
theorem I_M_before : Cond.instanceMethod me_M_before.1 ∈ gw ∧ Cond.selects me_M_before.1.cls me_M_before.1 me_M_before.1 ∈ gw := ⟨(gw_t5 (List.mem_of_getElem? (i := 186) rfl) rfl), (gw_t5 (List.mem_of_getElem? (i := 187) rfl) rfl)⟩
def me_M_findBefore : gs_M := (⟨"LineRulesModel", "findBefore", "()V"⟩, prog_11_method_56_code, 2, none)
theorem Y_M_findBefore : gY me_M_findBefore 0 := ⟨(gw_t5 (List.mem_of_getElem? (i := 192) rfl) rfl), (gw_t1 (List.mem_of_getElem? (i := 10) rfl) rfl), ⟨by decide +kernel, by decide +kernel, by decide +kernel⟩, by decide +kernel⟩
theorem I_M_findBefore : Cond.instanceMethod me_M_findBefore.1 ∈ gw ∧ Cond.selects me_M_findBefore.1.cls me_M_findBefore.1 me_M_findBefore.1 ∈ gw := ⟨(gw_t5 (List.mem_of_getElem? (i := 191) rfl) rfl), (gw_s (q := (⟨"LineRulesModel", "findBefore", "()V"⟩, 54)) (by decide +kernel) rfl)⟩
def me_M_lookBack : gs_M := (⟨"LineRulesModel", "lookBack", "(I)V"⟩, prog_11_method_53_code, 4, none)
theorem Y_M_lookBack : gY me_M_lookBack 1 := ⟨(gw_t5 (List.mem_of_getElem? (i := 196) rfl) rfl), (gw_t1 (List.mem_of_getElem? (i := 10) rfl) rfl), ⟨by decide +kernel, by decide +kernel, by decide +kernel⟩, by decide +kernel⟩
theorem I_M_lookBack : Cond.instanceMethod me_M_lookBack.1 ∈ gw ∧ Cond.selects me_M_lookBack.1.cls me_M_lookBack.1 me_M_lookBack.1 ∈ gw := ⟨(gw_t5 (List.mem_of_getElem? (i := 195) rfl) rfl), (gw_s (q := (⟨"LineRulesModel", "lookBack", "(I)V"⟩, 54)) (by decide +kernel) rfl)⟩
def me_M_wanted : gs_M := (⟨"LineRulesModel", "wanted", "(I)I"⟩, prog_11_method_52_code, 2, (some .int))
theorem Y_M_wanted : gY me_M_wanted 1 := ⟨(gw_t5 (List.mem_of_getElem? (i := 200) rfl) rfl), (gw_t1 (List.mem_of_getElem? (i := 10) rfl) rfl), ⟨by decide +kernel, by decide +kernel, by decide +kernel⟩, by decide +kernel⟩
theorem I_M_wanted : Cond.instanceMethod me_M_wanted.1 ∈ gw ∧ Cond.selects me_M_wanted.1.cls me_M_wanted.1 me_M_wanted.1 ∈ gw := ⟨(gw_t5 (List.mem_of_getElem? (i := 199) rfl) rfl), (gw_s (q := (⟨"LineRulesModel", "wanted", "(I)I"⟩, 54)) (by decide +kernel) rfl)⟩
def me_M_spellRing : gs_M := (⟨"LineRulesModel", "spellRing", "(I)V"⟩, prog_11_method_54_code, 5, none)
theorem Y_M_spellRing : gY me_M_spellRing 1 := ⟨(gw_t5 (List.mem_of_getElem? (i := 204) rfl) rfl), (gw_t1 (List.mem_of_getElem? (i := 10) rfl) rfl), ⟨by decide +kernel, by decide +kernel, by decide +kernel⟩, by decide +kernel⟩
theorem I_M_spellRing : Cond.instanceMethod me_M_spellRing.1 ∈ gw ∧ Cond.selects me_M_spellRing.1.cls me_M_spellRing.1 me_M_spellRing.1 ∈ gw := ⟨(gw_t5 (List.mem_of_getElem? (i := 203) rfl) rfl), (gw_s (q := (⟨"LineRulesModel", "spellRing", "(I)V"⟩, 54)) (by decide +kernel) rfl)⟩
def me_M_waysFrom : gs_M := (⟨"LineRulesModel", "waysFrom", "(I)J"⟩, prog_11_method_55_code, 4, (some .long))
theorem Y_M_waysFrom : gY me_M_waysFrom 1 := ⟨(gw_t5 (List.mem_of_getElem? (i := 208) rfl) rfl), (gw_t1 (List.mem_of_getElem? (i := 10) rfl) rfl), ⟨by decide +kernel, by decide +kernel, by decide +kernel⟩, by decide +kernel⟩
theorem I_M_waysFrom : Cond.instanceMethod me_M_waysFrom.1 ∈ gw ∧ Cond.selects me_M_waysFrom.1.cls me_M_waysFrom.1 me_M_waysFrom.1 ∈ gw := ⟨(gw_t5 (List.mem_of_getElem? (i := 207) rfl) rfl), (gw_s (q := (⟨"LineRulesModel", "waysFrom", "(I)J"⟩, 54)) (by decide +kernel) rfl)⟩
def me_M_beforeAt : gs_M := (⟨"LineRulesModel", "beforeAt", "(I)I"⟩, prog_11_method_58_code, 2, (some .int))
theorem Y_M_beforeAt : gY me_M_beforeAt 1 := ⟨(gw_t5 (List.mem_of_getElem? (i := 212) rfl) rfl), (gw_t1 (List.mem_of_getElem? (i := 10) rfl) rfl), ⟨by decide +kernel, by decide +kernel, by decide +kernel⟩, by decide +kernel⟩
theorem I_M_beforeAt : Cond.instanceMethod me_M_beforeAt.1 ∈ gw ∧ Cond.selects me_M_beforeAt.1.cls me_M_beforeAt.1 me_M_beforeAt.1 ∈ gw := ⟨(gw_t5 (List.mem_of_getElem? (i := 210) rfl) rfl), (gw_t5 (List.mem_of_getElem? (i := 211) rfl) rfl)⟩
def me_M_ways : gs_M := (⟨"LineRulesModel", "ways", "()J"⟩, prog_11_method_59_code, 1, (some .long))
theorem Y_M_ways : gY me_M_ways 0 := ⟨(gw_t5 (List.mem_of_getElem? (i := 216) rfl) rfl), (gw_t1 (List.mem_of_getElem? (i := 10) rfl) rfl), ⟨by decide +kernel, by decide +kernel, by decide +kernel⟩, by decide +kernel⟩
theorem I_M_ways : Cond.instanceMethod me_M_ways.1 ∈ gw ∧ Cond.selects me_M_ways.1.cls me_M_ways.1 me_M_ways.1 ∈ gw := ⟨(gw_t5 (List.mem_of_getElem? (i := 214) rfl) rfl), (gw_t5 (List.mem_of_getElem? (i := 215) rfl) rfl)⟩
theorem lk_A_9 : (("LineRules", 9, me_T_init.1, "LineRules") : String × Nat × MethodName × String) ∈ gw_n := List.mem_of_getElem? (i := 0) rfl
theorem lk_A_18 : (("LineRules", 18, me_R_init.1, "LineRules") : String × Nat × MethodName × String) ∈ gw_n := List.mem_of_getElem? (i := 1) rfl
theorem lk_A_25 : Cond.methodLink "LineRules" 25 me_C_init.1 ∈ gw := (gw_t1 (List.mem_of_getElem? (i := 128) rfl) rfl)
theorem lk_A_34 : Cond.methodLink "LineRules" 34 me_P_init.1 ∈ gw := (gw_t1 (List.mem_of_getElem? (i := 154) rfl) rfl)
theorem lk_A_41 : Cond.methodLink "LineRules" 41 me_V_init.1 ∈ gw := (gw_t1 (List.mem_of_getElem? (i := 182) rfl) rfl)
theorem lk_A_50 : Cond.methodLink "LineRules" 50 me_W_init.1 ∈ gw := (gw_t1 (List.mem_of_getElem? (i := 207) rfl) rfl)
theorem lk_A_57 : Cond.methodLink "LineRules" 57 me_O_init.1 ∈ gw := (gw_t1 (List.mem_of_getElem? (i := 234) rfl) rfl)
theorem lk_A_64 : Cond.methodLink "LineRules" 64 me_H_init.1 ∈ gw := (gw_t2 (List.mem_of_getElem? (i := 31) rfl) rfl)
theorem lk_A_71 : Cond.methodLink "LineRules" 71 me_T_append.1 ∈ gw := (gw_t2 (List.mem_of_getElem? (i := 95) rfl) rfl)
theorem lk_A_75 : Cond.methodLink "LineRules" 75 me_T_readInto.1 ∈ gw := (gw_t2 (List.mem_of_getElem? (i := 103) rfl) rfl)
theorem lk_A_79 : Cond.methodLink "LineRules" 79 me_C_clear.1 ∈ gw := (gw_t2 (List.mem_of_getElem? (i := 199) rfl) rfl)
theorem lk_A_82 : Cond.methodLink "LineRules" 82 me_P_forget.1 ∈ gw := (gw_t2 (List.mem_of_getElem? (i := 206) rfl) rfl)
theorem lk_A_85 : Cond.methodLink "LineRules" 85 me_V_forget.1 ∈ gw := (gw_t2 (List.mem_of_getElem? (i := 210) rfl) rfl)
theorem lk_A_86 : Cond.methodLink "LineRules" 86 me_W_forget.1 ∈ gw := (gw_t2 (List.mem_of_getElem? (i := 214) rfl) rfl)
theorem lk_A_87 : Cond.methodLink "LineRules" 87 me_O_forget.1 ∈ gw := (gw_t2 (List.mem_of_getElem? (i := 218) rfl) rfl)
theorem lk_A_88 : Cond.methodLink "LineRules" 88 me_H_forget.1 ∈ gw := (gw_t2 (List.mem_of_getElem? (i := 222) rfl) rfl)
theorem lk_T_43 : Cond.methodLink "LineRules$Text" 43 me_T_fault.1 ∈ gw := (gw_t2 (List.mem_of_getElem? (i := 107) rfl) rfl)
theorem lk_T_47 : Cond.methodLink "LineRules$Text" 47 me_T_fill.1 ∈ gw := (gw_t2 (List.mem_of_getElem? (i := 167) rfl) rfl)
theorem lk_T_51 : Cond.methodLink "LineRules$Text" 51 me_T_fitsHead.1 ∈ gw := (gw_t2 (List.mem_of_getElem? (i := 111) rfl) rfl)
theorem lk_T_55 : (("LineRules$Text", 55, me_A_power.1, "LineRules") : String × Nat × MethodName × String) ∈ gw_n := List.mem_of_getElem? (i := 2) rfl
theorem lk_T_59 : Cond.methodLink "LineRules$Text" 59 me_T_digitsFault.1 ∈ gw := (gw_t2 (List.mem_of_getElem? (i := 118) rfl) rfl)
theorem lk_T_63 : Cond.methodLink "LineRules$Text" 63 me_T_valueFor.1 ∈ gw := (gw_t2 (List.mem_of_getElem? (i := 122) rfl) rfl)
theorem lk_T_87 : Cond.methodLink "LineRules$Text" 87 me_T_choice.1 ∈ gw := (gw_t2 (List.mem_of_getElem? (i := 126) rfl) rfl)
theorem lk_T_90 : Cond.methodLink "LineRules$Text" 90 me_T_joined.1 ∈ gw := (gw_t2 (List.mem_of_getElem? (i := 130) rfl) rfl)
theorem lk_T_93 : Cond.methodLink "LineRules$Text" 93 me_T_here.1 ∈ gw := (gw_t2 (List.mem_of_getElem? (i := 138) rfl) rfl)
theorem lk_T_97 : Cond.methodLink "LineRules$Text" 97 me_T_opens.1 ∈ gw := (gw_t2 (List.mem_of_getElem? (i := 150) rfl) rfl)
theorem lk_T_101 : Cond.methodLink "LineRules$Text" 101 me_T_part.1 ∈ gw := (gw_t2 (List.mem_of_getElem? (i := 134) rfl) rfl)
theorem lk_T_104 : Cond.methodLink "LineRules$Text" 104 me_T_levelOf.1 ∈ gw := (gw_t2 (List.mem_of_getElem? (i := 154) rfl) rfl)
theorem lk_T_108 : Cond.methodLink "LineRules$Text" 108 me_T_together.1 ∈ gw := (gw_t2 (List.mem_of_getElem? (i := 157) rfl) rfl)
theorem lk_T_120 : Cond.methodLink "LineRules$Text" 120 me_T_unturned.1 ∈ gw := (gw_t2 (List.mem_of_getElem? (i := 142) rfl) rfl)
theorem lk_T_123 : Cond.methodLink "LineRules$Text" 123 me_T_bracket.1 ∈ gw := (gw_t2 (List.mem_of_getElem? (i := 146) rfl) rfl)
theorem lk_T_112 : Cond.methodLink "LineRules$Text" 112 me_J_max.1 ∈ gw := (gw_t2 (List.mem_of_getElem? (i := 161) rfl) rfl)
theorem lk_T_117 : Cond.methodLink "LineRules$Text" 117 me_J_min.1 ∈ gw := (gw_t2 (List.mem_of_getElem? (i := 164) rfl) rfl)
theorem lk_T_66 : Cond.methodLink "LineRules$Text" 66 me_R_shape.1 ∈ gw := (gw_t2 (List.mem_of_getElem? (i := 171) rfl) rfl)
theorem lk_T_78 : Cond.methodLink "LineRules$Text" 78 me_T_made.1 ∈ gw := (gw_t2 (List.mem_of_getElem? (i := 176) rfl) rfl)
theorem lk_T_81 : Cond.methodLink "LineRules$Text" 81 me_R_complete.1 ∈ gw := (gw_t2 (List.mem_of_getElem? (i := 184) rfl) rfl)
theorem lk_R_45 : (("LineRules$Rule", 45, me_A_power.1, "LineRules") : String × Nat × MethodName × String) ∈ gw_n := List.mem_of_getElem? (i := 3) rfl
theorem lk_T_84 : Cond.methodLink "LineRules$Text" 84 me_T_sumOf.1 ∈ gw := (gw_t2 (List.mem_of_getElem? (i := 180) rfl) rfl)
theorem lk_R_49 : Cond.methodLink "LineRules$Rule" 49 me_Y_fillJ.1 ∈ gw := (gw_t2 (List.mem_of_getElem? (i := 188) rfl) rfl)
theorem lk_R_55 : Cond.methodLink "LineRules$Rule" 55 me_R_enter.1 ∈ gw := (gw_t2 (List.mem_of_getElem? (i := 191) rfl) rfl)
theorem lk_R_59 : Cond.methodLink "LineRules$Rule" 59 me_R_end.1 ∈ gw := (gw_t2 (List.mem_of_getElem? (i := 195) rfl) rfl)
theorem lk_C_32 : Cond.methodLink "LineRules$Ring" 32 me_Y_fillI.1 ∈ gw := (gw_t2 (List.mem_of_getElem? (i := 203) rfl) rfl)
theorem lk_A_107 : Cond.methodLink "LineRules" 107 me_C_resize.1 ∈ gw := (gw_t2 (List.mem_of_getElem? (i := 234) rfl) rfl)
theorem lk_C_29 : Cond.methodLink "LineRules$Ring" 29 me_C_clear.1 ∈ gw := (gw_t2 (List.mem_of_getElem? (i := 238) rfl) rfl)
theorem lk_A_111 : Cond.methodLink "LineRules" 111 me_C_has.1 ∈ gw := (gw_t3 (List.mem_of_getElem? (i := 3) rfl) rfl)
theorem lk_A_115 : Cond.methodLink "LineRules" 115 me_R_hasState.1 ∈ gw := (gw_t3 (List.mem_of_getElem? (i := 7) rfl) rfl)
theorem lk_A_121 : Cond.methodLink "LineRules" 121 me_C_run.1 ∈ gw := (gw_t3 (List.mem_of_getElem? (i := 19) rfl) rfl)
theorem lk_C_38 : Cond.methodLink "LineRules$Ring" 38 arraycopyName ∈ gw := (gw_t3 (List.mem_of_getElem? (i := 23) rfl) rfl)
theorem lk_C_44 : Cond.methodLink "LineRules$Ring" 44 me_C_stepOnce.1 ∈ gw := (gw_t3 (List.mem_of_getElem? (i := 26) rfl) rfl)
theorem lk_C_55 : Cond.methodLink "LineRules$Ring" 55 me_R_left.1 ∈ gw := (gw_t3 (List.mem_of_getElem? (i := 30) rfl) rfl)
theorem lk_C_59 : Cond.methodLink "LineRules$Ring" 59 me_J_floorMod.1 ∈ gw := (gw_t3 (List.mem_of_getElem? (i := 34) rfl) rfl)
theorem lk_C_68 : Cond.methodLink "LineRules$Ring" 68 me_R_end.1 ∈ gw := (gw_t3 (List.mem_of_getElem? (i := 37) rfl) rfl)
theorem lk_A_124 : Cond.methodLink "LineRules" 124 me_C_countOf.1 ∈ gw := (gw_t3 (List.mem_of_getElem? (i := 42) rfl) rfl)
theorem lk_A_127 : Cond.methodLink "LineRules" 127 me_P_missesNothing.1 ∈ gw := (gw_t3 (List.mem_of_getElem? (i := 50) rfl) rfl)
theorem lk_P_35 : Cond.methodLink "LineRules$Pairs" 35 me_P_partAndMeet.1 ∈ gw := (gw_t3 (List.mem_of_getElem? (i := 54) rfl) rfl)
theorem lk_P_45 : Cond.methodLink "LineRules$Pairs" 45 me_Y_fillJ.1 ∈ gw := (gw_t3 (List.mem_of_getElem? (i := 58) rfl) rfl)
theorem lk_P_57 : Cond.methodLink "LineRules$Pairs" 57 me_P_partAt.1 ∈ gw := (gw_t3 (List.mem_of_getElem? (i := 59) rfl) rfl)
theorem lk_P_63 : Cond.methodLink "LineRules$Pairs" 63 me_P_meetsBehind.1 ∈ gw := (gw_t3 (List.mem_of_getElem? (i := 65) rfl) rfl)
theorem lk_P_74 : Cond.methodLink "LineRules$Pairs" 74 me_R_end.1 ∈ gw := (gw_t3 (List.mem_of_getElem? (i := 63) rfl) rfl)
theorem lk_P_78 : Cond.methodLink "LineRules$Pairs" 78 me_R_behind.1 ∈ gw := (gw_t3 (List.mem_of_getElem? (i := 69) rfl) rfl)
theorem lk_A_131 : Cond.methodLink "LineRules" 131 me_P_losesNothing.1 ∈ gw := (gw_t3 (List.mem_of_getElem? (i := 77) rfl) rfl)
theorem lk_P_39 : Cond.methodLink "LineRules$Pairs" 39 me_P_missesNothing.1 ∈ gw := (gw_t3 (List.mem_of_getElem? (i := 81) rfl) rfl)
theorem lk_P_42 : Cond.methodLink "LineRules$Pairs" 42 me_P_stayApart.1 ∈ gw := (gw_t3 (List.mem_of_getElem? (i := 82) rfl) rfl)
theorem lk_P_82 : Cond.methodLink "LineRules$Pairs" 82 me_R_allNodes.1 ∈ gw := (gw_t3 (List.mem_of_getElem? (i := 86) rfl) rfl)
theorem lk_P_86 : Cond.methodLink "LineRules$Pairs" 86 me_P_lasting.1 ∈ gw := (gw_t3 (List.mem_of_getElem? (i := 91) rfl) rfl)
theorem lk_A_134 : Cond.methodLink "LineRules" 134 me_V_width.1 ∈ gw := (gw_t3 (List.mem_of_getElem? (i := 99) rfl) rfl)
theorem lk_A_138 : Cond.methodLink "LineRules" 138 me_V_place.1 ∈ gw := (gw_t3 (List.mem_of_getElem? (i := 126) rfl) rfl)
theorem lk_V_34 : Cond.methodLink "LineRules$Inverse" 34 me_V_find.1 ∈ gw := (gw_t3 (List.mem_of_getElem? (i := 103) rfl) rfl)
theorem lk_V_49 : Cond.methodLink "LineRules$Inverse" 49 me_P_losesNothing.1 ∈ gw := (gw_t3 (List.mem_of_getElem? (i := 107) rfl) rfl)
theorem lk_V_55 : Cond.methodLink "LineRules$Inverse" 55 me_V_placesTold.1 ∈ gw := (gw_t3 (List.mem_of_getElem? (i := 108) rfl) rfl)
theorem lk_V_59 : Cond.methodLink "LineRules$Inverse" 59 me_V_takeLeast.1 ∈ gw := (gw_t3 (List.mem_of_getElem? (i := 122) rfl) rfl)
theorem lk_V_63 : Cond.methodLink "LineRules$Inverse" 63 me_Y_fillI.1 ∈ gw := (gw_t3 (List.mem_of_getElem? (i := 112) rfl) rfl)
theorem lk_V_42 : (("LineRules$Inverse", 42, me_A_power.1, "LineRules") : String × Nat × MethodName × String) ∈ gw_n := List.mem_of_getElem? (i := 4) rfl
theorem lk_V_69 : Cond.methodLink "LineRules$Inverse" 69 me_V_madeOf.1 ∈ gw := (gw_t3 (List.mem_of_getElem? (i := 114) rfl) rfl)
theorem lk_V_72 : Cond.methodLink "LineRules$Inverse" 72 me_V_samePlaces.1 ∈ gw := (gw_t3 (List.mem_of_getElem? (i := 118) rfl) rfl)
theorem lk_A_141 : Cond.methodLink "LineRules" 141 me_V_cellOf.1 ∈ gw := (gw_t3 (List.mem_of_getElem? (i := 134) rfl) rfl)
theorem lk_A_144 : Cond.methodLink "LineRules" 144 me_W_count.1 ∈ gw := (gw_t3 (List.mem_of_getElem? (i := 142) rfl) rfl)
theorem lk_W_35 : Cond.methodLink "LineRules$Weights" 35 me_W_find.1 ∈ gw := (gw_t3 (List.mem_of_getElem? (i := 146) rfl) rfl)
theorem lk_W_44 : Cond.methodLink "LineRules$Weights" 44 me_Y_fillJ.1 ∈ gw := (gw_t3 (List.mem_of_getElem? (i := 150) rfl) rfl)
theorem lk_W_53 : Cond.methodLink "LineRules$Weights" 53 me_W_writeEquation.1 ∈ gw := (gw_t3 (List.mem_of_getElem? (i := 151) rfl) rfl)
theorem lk_W_57 : Cond.methodLink "LineRules$Weights" 57 me_W_tie.1 ∈ gw := (gw_t3 (List.mem_of_getElem? (i := 160) rfl) rfl)
theorem lk_W_63 : Cond.methodLink "LineRules$Weights" 63 me_W_writeWeight.1 ∈ gw := (gw_t3 (List.mem_of_getElem? (i := 175) rfl) rfl)
theorem lk_W_74 : Cond.methodLink "LineRules$Weights" 74 me_R_end.1 ∈ gw := (gw_t3 (List.mem_of_getElem? (i := 155) rfl) rfl)
theorem lk_W_78 : Cond.methodLink "LineRules$Weights" 78 me_W_addGain.1 ∈ gw := (gw_t3 (List.mem_of_getElem? (i := 156) rfl) rfl)
theorem lk_W_85 : Cond.methodLink "LineRules$Weights" 85 arraycopyName ∈ gw := (gw_t3 (List.mem_of_getElem? (i := 164) rfl) rfl)
theorem lk_W_91 : Cond.methodLink "LineRules$Weights" 91 me_W_shorten.1 ∈ gw := (gw_t3 (List.mem_of_getElem? (i := 165) rfl) rfl)
theorem lk_W_95 : Cond.methodLink "LineRules$Weights" 95 me_J_abs.1 ∈ gw := (gw_t3 (List.mem_of_getElem? (i := 169) rfl) rfl)
theorem lk_W_101 : Cond.methodLink "LineRules$Weights" 101 me_W_commonDivisor.1 ∈ gw := (gw_t3 (List.mem_of_getElem? (i := 172) rfl) rfl)
theorem lk_A_146 : Cond.methodLink "LineRules" 146 me_W_at.1 ∈ gw := (gw_t3 (List.mem_of_getElem? (i := 183) rfl) rfl)
theorem lk_W_38 : Cond.methodLink "LineRules$Weights" 38 me_R_hasState.1 ∈ gw := (gw_t3 (List.mem_of_getElem? (i := 187) rfl) rfl)
theorem lk_A_150 : Cond.methodLink "LineRules" 150 me_O_length.1 ∈ gw := (gw_t3 (List.mem_of_getElem? (i := 192) rfl) rfl)
theorem lk_O_47 : Cond.methodLink "LineRules$Orphan" 47 me_O_find.1 ∈ gw := (gw_t3 (List.mem_of_getElem? (i := 196) rfl) rfl)
theorem lk_O_50 : Cond.methodLink "LineRules$Orphan" 50 me_P_missesNothing.1 ∈ gw := (gw_t3 (List.mem_of_getElem? (i := 200) rfl) rfl)
theorem lk_O_56 : Cond.methodLink "LineRules$Orphan" 56 me_O_search.1 ∈ gw := (gw_t3 (List.mem_of_getElem? (i := 201) rfl) rfl)
theorem lk_O_60 : Cond.methodLink "LineRules$Orphan" 60 me_R_allNodes.1 ∈ gw := (gw_t3 (List.mem_of_getElem? (i := 205) rfl) rfl)
theorem lk_O_66 : Cond.methodLink "LineRules$Orphan" 66 me_O_meet.1 ∈ gw := (gw_t3 (List.mem_of_getElem? (i := 206) rfl) rfl)
theorem lk_O_70 : Cond.methodLink "LineRules$Orphan" 70 me_O_spread.1 ∈ gw := (gw_t3 (List.mem_of_getElem? (i := 210) rfl) rfl)
theorem lk_O_77 : Cond.methodLink "LineRules$Orphan" 77 me_O_write.1 ∈ gw := (gw_t3 (List.mem_of_getElem? (i := 216) rfl) rfl)
theorem lk_O_81 : Cond.methodLink "LineRules$Orphan" 81 me_Y_fillJ.1 ∈ gw := (gw_t3 (List.mem_of_getElem? (i := 214) rfl) rfl)
theorem lk_O_90 : Cond.methodLink "LineRules$Orphan" 90 me_R_behind.1 ∈ gw := (gw_t3 (List.mem_of_getElem? (i := 215) rfl) rfl)
theorem lk_A_153 : Cond.methodLink "LineRules" 153 me_O_cell.1 ∈ gw := (gw_t3 (List.mem_of_getElem? (i := 224) rfl) rfl)
theorem lk_A_156 : Cond.methodLink "LineRules" 156 me_H_exists.1 ∈ gw := (gw_t3 (List.mem_of_getElem? (i := 232) rfl) rfl)
theorem lk_H_47 : Cond.methodLink "LineRules$Past" 47 me_H_find.1 ∈ gw := (gw_t3 (List.mem_of_getElem? (i := 236) rfl) rfl)
theorem lk_H_66 : Cond.methodLink "LineRules$Past" 66 me_H_comesBackTo.1 ∈ gw := (gw_t4 (List.mem_of_getElem? (i := 0) rfl) rfl)
theorem lk_H_69 : Cond.methodLink "LineRules$Past" 69 me_H_trace.1 ∈ gw := (gw_t4 (List.mem_of_getElem? (i := 14) rfl) rfl)
theorem lk_H_83 : Cond.methodLink "LineRules$Past" 83 me_H_due.1 ∈ gw := (gw_t4 (List.mem_of_getElem? (i := 4) rfl) rfl)
theorem lk_H_87 : Cond.methodLink "LineRules$Past" 87 me_H_leadingInto.1 ∈ gw := (gw_t4 (List.mem_of_getElem? (i := 9) rfl) rfl)
theorem lk_H_76 : Cond.methodLink "LineRules$Past" 76 me_R_left.1 ∈ gw := (gw_t4 (List.mem_of_getElem? (i := 8) rfl) rfl)
theorem lk_H_91 : Cond.methodLink "LineRules$Past" 91 me_R_behind.1 ∈ gw := (gw_t4 (List.mem_of_getElem? (i := 13) rfl) rfl)
theorem lk_H_95 : Cond.methodLink "LineRules$Past" 95 me_H_leastCell.1 ∈ gw := (gw_t4 (List.mem_of_getElem? (i := 18) rfl) rfl)
theorem lk_H_105 : Cond.methodLink "LineRules$Past" 105 me_R_end.1 ∈ gw := (gw_t4 (List.mem_of_getElem? (i := 22) rfl) rfl)
theorem lk_A_159 : Cond.methodLink "LineRules" 159 me_H_cell.1 ∈ gw := (gw_t4 (List.mem_of_getElem? (i := 27) rfl) rfl)
theorem lk_H_50 : Cond.methodLink "LineRules$Past" 50 me_C_has.1 ∈ gw := (gw_t4 (List.mem_of_getElem? (i := 31) rfl) rfl)
theorem lk_A_160 : Cond.methodLink "LineRules" 160 me_H_count.1 ∈ gw := (gw_t4 (List.mem_of_getElem? (i := 36) rfl) rfl)
theorem lk_H_62 : Cond.methodLink "LineRules$Past" 62 me_H_walksBackTo.1 ∈ gw := (gw_t4 (List.mem_of_getElem? (i := 40) rfl) rfl)
theorem lk_H_111 : Cond.methodLink "LineRules$Past" 111 me_Y_fillJ.1 ∈ gw := (gw_t4 (List.mem_of_getElem? (i := 44) rfl) rfl)
theorem lk_H_117 : Cond.methodLink "LineRules$Past" 117 me_H_goOn.1 ∈ gw := (gw_t4 (List.mem_of_getElem? (i := 45) rfl) rfl)
theorem lk_H_129 : Cond.methodLink "LineRules$Past" 129 me_Y_fillR.1 ∈ gw := (gw_t4 (List.mem_of_getElem? (i := 49) rfl) rfl)
theorem lk_Y_13 : Cond.methodLink "java/util/Arrays" 13 me_Y_rangeCheck.1 ∈ gw := (gw_t4 (List.mem_of_getElem? (i := 52) rfl) rfl)
theorem lk_M_176 : Cond.methodLink "LineRulesModel" 176 me_M_readAll.1 ∈ gw := (gw_t4 (List.mem_of_getElem? (i := 234) rfl) rfl)
theorem lk_M_147 : Cond.methodLink "LineRulesModel" 147 me_M_powerOf.1 ∈ gw := (gw_t4 (List.mem_of_getElem? (i := 238) rfl) rfl)
theorem lk_M_191 : Cond.methodLink "LineRulesModel" 191 me_M_digitSum.1 ∈ gw := (gw_t5 (List.mem_of_getElem? (i := 53) rfl) rfl)
theorem lk_M_173 : Cond.methodLink "LineRulesModel" 173 me_M_work.1 ∈ gw := (gw_t5 (List.mem_of_getElem? (i := 5) rfl) rfl)
theorem lk_M_169 : Cond.methodLink "LineRulesModel" 169 me_M_readRow.1 ∈ gw := (gw_t5 (List.mem_of_getElem? (i := 1) rfl) rfl)
theorem lk_M_118 : Cond.methodLink "LineRulesModel" 118 me_M_fresh.1 ∈ gw := (gw_t5 (List.mem_of_getElem? (i := 9) rfl) rfl)
theorem lk_M_161 : Cond.methodLink "LineRulesModel" 161 me_M_begins.1 ∈ gw := (gw_t5 (List.mem_of_getElem? (i := 13) rfl) rfl)
theorem lk_M_165 : Cond.methodLink "LineRulesModel" 165 me_M_goesOn.1 ∈ gw := (gw_t5 (List.mem_of_getElem? (i := 25) rfl) rfl)
theorem lk_M_155 : Cond.methodLink "LineRulesModel" 155 me_M_endChoice.1 ∈ gw := (gw_t5 (List.mem_of_getElem? (i := 49) rfl) rfl)
theorem lk_M_141 : Cond.methodLink "LineRulesModel" 141 me_M_operand.1 ∈ gw := (gw_t5 (List.mem_of_getElem? (i := 17) rfl) rfl)
theorem lk_M_151 : Cond.methodLink "LineRulesModel" 151 me_M_open.1 ∈ gw := (gw_t5 (List.mem_of_getElem? (i := 21) rfl) rfl)
theorem lk_M_125 : Cond.methodLink "LineRulesModel" 125 me_M_endProduct.1 ∈ gw := (gw_t5 (List.mem_of_getElem? (i := 29) rfl) rfl)
theorem lk_M_128 : Cond.methodLink "LineRulesModel" 128 me_M_endSum.1 ∈ gw := (gw_t5 (List.mem_of_getElem? (i := 33) rfl) rfl)
theorem lk_M_132 : Cond.methodLink "LineRulesModel" 132 me_M_endTest.1 ∈ gw := (gw_t5 (List.mem_of_getElem? (i := 37) rfl) rfl)
theorem lk_M_135 : Cond.methodLink "LineRulesModel" 135 me_M_endBoth.1 ∈ gw := (gw_t5 (List.mem_of_getElem? (i := 41) rfl) rfl)
theorem lk_M_138 : Cond.methodLink "LineRulesModel" 138 me_M_endEither.1 ∈ gw := (gw_t5 (List.mem_of_getElem? (i := 45) rfl) rfl)
theorem lk_M_213 : Cond.methodLink "LineRulesModel" 213 me_M_turn.1 ∈ gw := (gw_t5 (List.mem_of_getElem? (i := 76) rfl) rfl)
theorem lk_M_223 : Cond.methodLink "LineRulesModel" 223 me_M_makesAll.1 ∈ gw := (gw_t5 (List.mem_of_getElem? (i := 88) rfl) rfl)
theorem lk_M_227 : Cond.methodLink "LineRulesModel" 227 me_M_losesSomewhere.1 ∈ gw := (gw_t5 (List.mem_of_getElem? (i := 92) rfl) rfl)
theorem lk_M_216 : Cond.methodLink "LineRulesModel" 216 me_M_comesFrom.1 ∈ gw := (gw_t5 (List.mem_of_getElem? (i := 96) rfl) rfl)
theorem lk_M_219 : Cond.methodLink "LineRulesModel" 219 me_M_leadsOn.1 ∈ gw := (gw_t5 (List.mem_of_getElem? (i := 100) rfl) rfl)
theorem lk_M_230 : Cond.methodLink "LineRulesModel" 230 me_M_anyPair.1 ∈ gw := (gw_t5 (List.mem_of_getElem? (i := 108) rfl) rfl)
theorem lk_M_245 : Cond.methodLink "LineRulesModel" 245 me_M_findInverse.1 ∈ gw := (gw_t5 (List.mem_of_getElem? (i := 116) rfl) rfl)
theorem lk_M_242 : Cond.methodLink "LineRulesModel" 242 me_M_tells.1 ∈ gw := (gw_t5 (List.mem_of_getElem? (i := 120) rfl) rfl)
theorem lk_M_233 : Cond.methodLink "LineRulesModel" 233 me_M_madeOf.1 ∈ gw := (gw_t5 (List.mem_of_getElem? (i := 124) rfl) rfl)
theorem lk_M_267 : Cond.methodLink "LineRulesModel" 267 me_M_findWeights.1 ∈ gw := (gw_t5 (List.mem_of_getElem? (i := 136) rfl) rfl)
theorem lk_M_258 : Cond.methodLink "LineRulesModel" 258 me_M_equation.1 ∈ gw := (gw_t5 (List.mem_of_getElem? (i := 140) rfl) rfl)
theorem lk_M_261 : Cond.methodLink "LineRulesModel" 261 me_M_keep.1 ∈ gw := (gw_t5 (List.mem_of_getElem? (i := 144) rfl) rfl)
theorem lk_M_264 : Cond.methodLink "LineRulesModel" 264 me_M_clearRow.1 ∈ gw := (gw_t5 (List.mem_of_getElem? (i := 155) rfl) rfl)
theorem lk_M_248 : Cond.methodLink "LineRulesModel" 248 me_M_divisor.1 ∈ gw := (gw_t5 (List.mem_of_getElem? (i := 152) rfl) rfl)
theorem lk_M_252 : Cond.methodLink "LineRulesModel" 252 me_M_reduce.1 ∈ gw := (gw_t5 (List.mem_of_getElem? (i := 148) rfl) rfl)
theorem lk_M_285 : Cond.methodLink "LineRulesModel" 285 me_M_findOrphan.1 ∈ gw := (gw_t5 (List.mem_of_getElem? (i := 167) rfl) rfl)
theorem lk_M_273 : Cond.methodLink "LineRulesModel" 273 me_M_surjective.1 ∈ gw := (gw_t5 (List.mem_of_getElem? (i := 171) rfl) rfl)
theorem lk_M_278 : Cond.methodLink "LineRulesModel" 278 me_M_behind.1 ∈ gw := (gw_t5 (List.mem_of_getElem? (i := 173) rfl) rfl)
theorem lk_M_282 : Cond.methodLink "LineRulesModel" 282 me_M_spell.1 ∈ gw := (gw_t5 (List.mem_of_getElem? (i := 177) rfl) rfl)
theorem lk_M_308 : Cond.methodLink "LineRulesModel" 308 me_M_findBefore.1 ∈ gw := (gw_t5 (List.mem_of_getElem? (i := 189) rfl) rfl)
theorem lk_M_298 : Cond.methodLink "LineRulesModel" 298 me_M_lookBack.1 ∈ gw := (gw_t5 (List.mem_of_getElem? (i := 193) rfl) rfl)
theorem lk_M_301 : Cond.methodLink "LineRulesModel" 301 me_M_spellRing.1 ∈ gw := (gw_t5 (List.mem_of_getElem? (i := 201) rfl) rfl)
theorem lk_M_304 : Cond.methodLink "LineRulesModel" 304 me_M_waysFrom.1 ∈ gw := (gw_t5 (List.mem_of_getElem? (i := 205) rfl) rfl)
theorem lk_M_288 : Cond.methodLink "LineRulesModel" 288 me_M_wanted.1 ∈ gw := (gw_t5 (List.mem_of_getElem? (i := 197) rfl) rfl)
theorem fl_A_10 : gF "LineRules" 10 0 0 := ⟨"LineRules", TX0, 8, rfl, by decide, inX0, (gw_t2 (List.mem_of_getElem? (i := 66) rfl) rfl), rfl⟩
theorem fl_A_19 : gF "LineRules" 19 0 1 := ⟨"LineRules", TX0, 8, rfl, by decide, inX0, (gw_t2 (List.mem_of_getElem? (i := 67) rfl) rfl), rfl⟩
theorem fl_A_28 : gF "LineRules" 28 0 2 := ⟨"LineRules", TX0, 8, rfl, by decide, inX0, (gw_t2 (List.mem_of_getElem? (i := 68) rfl) rfl), rfl⟩
theorem fl_A_35 : gF "LineRules" 35 0 3 := ⟨"LineRules", TX0, 8, rfl, by decide, inX0, (gw_t2 (List.mem_of_getElem? (i := 69) rfl) rfl), rfl⟩
theorem fl_A_44 : gF "LineRules" 44 0 4 := ⟨"LineRules", TX0, 8, rfl, by decide, inX0, (gw_t2 (List.mem_of_getElem? (i := 70) rfl) rfl), rfl⟩
theorem fl_A_51 : gF "LineRules" 51 0 5 := ⟨"LineRules", TX0, 8, rfl, by decide, inX0, (gw_t2 (List.mem_of_getElem? (i := 71) rfl) rfl), rfl⟩
theorem fl_A_58 : gF "LineRules" 58 0 6 := ⟨"LineRules", TX0, 8, rfl, by decide, inX0, (gw_t2 (List.mem_of_getElem? (i := 72) rfl) rfl), rfl⟩
theorem fl_A_67 : gF "LineRules" 67 0 7 := ⟨"LineRules", TX0, 8, rfl, by decide, inX0, (gw_t2 (List.mem_of_getElem? (i := 73) rfl) rfl), rfl⟩
theorem fl_T_9 : gF "LineRules$Text" 9 1 0 := ⟨"LineRules$Text", TX1, 9, rfl, by decide, inX1, (gw_t1 (List.mem_of_getElem? (i := 28) rfl) rfl), rfl⟩
theorem fl_T_15 : gF "LineRules$Text" 15 1 1 := ⟨"LineRules$Text", TX1, 9, rfl, by decide, inX1, (gw_t1 (List.mem_of_getElem? (i := 29) rfl) rfl), rfl⟩
theorem fl_T_19 : gF "LineRules$Text" 19 1 2 := ⟨"LineRules$Text", TX1, 9, rfl, by decide, inX1, (gw_t1 (List.mem_of_getElem? (i := 30) rfl) rfl), rfl⟩
theorem fp_T_19 : gFp "LineRules$Text" 19 1 2 .int := ⟨"LineRules$Text", TX1, 9, tyX1, rfl, by decide, inX1, (gw_t1 (List.mem_of_getElem? (i := 30) rfl) rfl), rfl, tyX1_ok, nmX1, rfl, by decide +kernel⟩
theorem fl_T_23 : gF "LineRules$Text" 23 1 3 := ⟨"LineRules$Text", TX1, 9, rfl, by decide, inX1, (gw_t1 (List.mem_of_getElem? (i := 31) rfl) rfl), rfl⟩
theorem fp_T_23 : gFp "LineRules$Text" 23 1 3 .int := ⟨"LineRules$Text", TX1, 9, tyX1, rfl, by decide, inX1, (gw_t1 (List.mem_of_getElem? (i := 31) rfl) rfl), rfl, tyX1_ok, nmX1, rfl, by decide +kernel⟩
theorem fl_T_26 : gF "LineRules$Text" 26 1 4 := ⟨"LineRules$Text", TX1, 9, rfl, by decide, inX1, (gw_t1 (List.mem_of_getElem? (i := 32) rfl) rfl), rfl⟩
theorem fp_T_26 : gFp "LineRules$Text" 26 1 4 .int := ⟨"LineRules$Text", TX1, 9, tyX1, rfl, by decide, inX1, (gw_t1 (List.mem_of_getElem? (i := 32) rfl) rfl), rfl, tyX1_ok, nmX1, rfl, by decide +kernel⟩
theorem fl_T_29 : gF "LineRules$Text" 29 1 5 := ⟨"LineRules$Text", TX1, 9, rfl, by decide, inX1, (gw_t1 (List.mem_of_getElem? (i := 33) rfl) rfl), rfl⟩
theorem fp_T_29 : gFp "LineRules$Text" 29 1 5 .char := ⟨"LineRules$Text", TX1, 9, tyX1, rfl, by decide, inX1, (gw_t1 (List.mem_of_getElem? (i := 33) rfl) rfl), rfl, tyX1_ok, nmX1, rfl, by decide +kernel⟩
theorem fl_T_33 : gF "LineRules$Text" 33 1 6 := ⟨"LineRules$Text", TX1, 9, rfl, by decide, inX1, (gw_t1 (List.mem_of_getElem? (i := 34) rfl) rfl), rfl⟩
theorem fp_T_33 : gFp "LineRules$Text" 33 1 6 .int := ⟨"LineRules$Text", TX1, 9, tyX1, rfl, by decide, inX1, (gw_t1 (List.mem_of_getElem? (i := 34) rfl) rfl), rfl, tyX1_ok, nmX1, rfl, by decide +kernel⟩
theorem fl_T_36 : gF "LineRules$Text" 36 1 7 := ⟨"LineRules$Text", TX1, 9, rfl, by decide, inX1, (gw_t1 (List.mem_of_getElem? (i := 35) rfl) rfl), rfl⟩
theorem fp_T_36 : gFp "LineRules$Text" 36 1 7 .int := ⟨"LineRules$Text", TX1, 9, tyX1, rfl, by decide, inX1, (gw_t1 (List.mem_of_getElem? (i := 35) rfl) rfl), rfl, tyX1_ok, nmX1, rfl, by decide +kernel⟩
theorem fl_T_39 : gF "LineRules$Text" 39 1 8 := ⟨"LineRules$Text", TX1, 9, rfl, by decide, inX1, (gw_t1 (List.mem_of_getElem? (i := 36) rfl) rfl), rfl⟩
theorem fp_T_39 : gFp "LineRules$Text" 39 1 8 .boolean := ⟨"LineRules$Text", TX1, 9, tyX1, rfl, by decide, inX1, (gw_t1 (List.mem_of_getElem? (i := 36) rfl) rfl), rfl, tyX1_ok, nmX1, rfl, by decide +kernel⟩
theorem fl_R_9 : gF "LineRules$Rule" 9 2 0 := ⟨"LineRules$Rule", TX2, 10, rfl, by decide, inX2, (gw_t1 (List.mem_of_getElem? (i := 64) rfl) rfl), rfl⟩
theorem fl_R_15 : gF "LineRules$Rule" 15 2 1 := ⟨"LineRules$Rule", TX2, 10, rfl, by decide, inX2, (gw_t1 (List.mem_of_getElem? (i := 72) rfl) rfl), rfl⟩
theorem fl_R_19 : gF "LineRules$Rule" 19 2 2 := ⟨"LineRules$Rule", TX2, 10, rfl, by decide, inX2, (gw_t1 (List.mem_of_getElem? (i := 73) rfl) rfl), rfl⟩
theorem fl_R_22 : gF "LineRules$Rule" 22 2 3 := ⟨"LineRules$Rule", TX2, 10, rfl, by decide, inX2, (gw_t1 (List.mem_of_getElem? (i := 75) rfl) rfl), rfl⟩
theorem fl_R_25 : gF "LineRules$Rule" 25 2 4 := ⟨"LineRules$Rule", TX2, 10, rfl, by decide, inX2, (gw_t1 (List.mem_of_getElem? (i := 77) rfl) rfl), rfl⟩
theorem fl_R_28 : gF "LineRules$Rule" 28 2 5 := ⟨"LineRules$Rule", TX2, 10, rfl, by decide, inX2, (gw_t1 (List.mem_of_getElem? (i := 79) rfl) rfl), rfl⟩
theorem fp_R_28 : gFp "LineRules$Rule" 28 2 5 .boolean := ⟨"LineRules$Rule", TX2, 10, tyX2, rfl, by decide, inX2, (gw_t1 (List.mem_of_getElem? (i := 79) rfl) rfl), rfl, tyX2_ok, nmX2, rfl, by decide +kernel⟩
theorem fl_R_32 : gF "LineRules$Rule" 32 2 6 := ⟨"LineRules$Rule", TX2, 10, rfl, by decide, inX2, (gw_t1 (List.mem_of_getElem? (i := 81) rfl) rfl), rfl⟩
theorem fp_R_32 : gFp "LineRules$Rule" 32 2 6 .int := ⟨"LineRules$Rule", TX2, 10, tyX2, rfl, by decide, inX2, (gw_t1 (List.mem_of_getElem? (i := 81) rfl) rfl), rfl, tyX2_ok, nmX2, rfl, by decide +kernel⟩
theorem fl_R_36 : gF "LineRules$Rule" 36 2 7 := ⟨"LineRules$Rule", TX2, 10, rfl, by decide, inX2, (gw_t1 (List.mem_of_getElem? (i := 89) rfl) rfl), rfl⟩
theorem fp_R_36 : gFp "LineRules$Rule" 36 2 7 .int := ⟨"LineRules$Rule", TX2, 10, tyX2, rfl, by decide, inX2, (gw_t1 (List.mem_of_getElem? (i := 89) rfl) rfl), rfl, tyX2_ok, nmX2, rfl, by decide +kernel⟩
theorem fl_R_39 : gF "LineRules$Rule" 39 2 8 := ⟨"LineRules$Rule", TX2, 10, rfl, by decide, inX2, (gw_t1 (List.mem_of_getElem? (i := 94) rfl) rfl), rfl⟩
theorem fp_R_39 : gFp "LineRules$Rule" 39 2 8 .int := ⟨"LineRules$Rule", TX2, 10, tyX2, rfl, by decide, inX2, (gw_t1 (List.mem_of_getElem? (i := 94) rfl) rfl), rfl, tyX2_ok, nmX2, rfl, by decide +kernel⟩
theorem fl_R_42 : gF "LineRules$Rule" 42 2 9 := ⟨"LineRules$Rule", TX2, 10, rfl, by decide, inX2, (gw_t1 (List.mem_of_getElem? (i := 99) rfl) rfl), rfl⟩
theorem fp_R_42 : gFp "LineRules$Rule" 42 2 9 .int := ⟨"LineRules$Rule", TX2, 10, tyX2, rfl, by decide, inX2, (gw_t1 (List.mem_of_getElem? (i := 99) rfl) rfl), rfl, tyX2_ok, nmX2, rfl, by decide +kernel⟩
theorem fl_C_9 : gF "LineRules$Ring" 9 3 0 := ⟨"LineRules$Ring", TX3, 5, rfl, by decide, inX3, (gw_t1 (List.mem_of_getElem? (i := 132) rfl) rfl), rfl⟩
theorem fl_C_15 : gF "LineRules$Ring" 15 3 1 := ⟨"LineRules$Ring", TX3, 5, rfl, by decide, inX3, (gw_t1 (List.mem_of_getElem? (i := 135) rfl) rfl), rfl⟩
theorem fp_C_15 : gFp "LineRules$Ring" 15 3 1 .int := ⟨"LineRules$Ring", TX3, 5, tyX3, rfl, by decide, inX3, (gw_t1 (List.mem_of_getElem? (i := 135) rfl) rfl), rfl, tyX3_ok, nmX3, rfl, by decide +kernel⟩
theorem fl_C_19 : gF "LineRules$Ring" 19 3 3 := ⟨"LineRules$Ring", TX3, 5, rfl, by decide, inX3, (gw_t1 (List.mem_of_getElem? (i := 139) rfl) rfl), rfl⟩
theorem fl_C_22 : gF "LineRules$Ring" 22 3 4 := ⟨"LineRules$Ring", TX3, 5, rfl, by decide, inX3, (gw_t1 (List.mem_of_getElem? (i := 140) rfl) rfl), rfl⟩
theorem fl_C_25 : gF "LineRules$Ring" 25 3 2 := ⟨"LineRules$Ring", TX3, 5, rfl, by decide, inX3, (gw_t1 (List.mem_of_getElem? (i := 138) rfl) rfl), rfl⟩
theorem fl_P_9 : gF "LineRules$Pairs" 9 4 1 := ⟨"LineRules$Pairs", TX4, 7, rfl, by decide, inX4, (gw_t1 (List.mem_of_getElem? (i := 159) rfl) rfl), rfl⟩
theorem fl_P_15 : gF "LineRules$Pairs" 15 4 2 := ⟨"LineRules$Pairs", TX4, 7, rfl, by decide, inX4, (gw_t1 (List.mem_of_getElem? (i := 160) rfl) rfl), rfl⟩
theorem fl_P_18 : gF "LineRules$Pairs" 18 4 3 := ⟨"LineRules$Pairs", TX4, 7, rfl, by decide, inX4, (gw_t1 (List.mem_of_getElem? (i := 161) rfl) rfl), rfl⟩
theorem fp_P_18 : gFp "LineRules$Pairs" 18 4 3 .boolean := ⟨"LineRules$Pairs", TX4, 7, tyX4, rfl, by decide, inX4, (gw_t1 (List.mem_of_getElem? (i := 161) rfl) rfl), rfl, tyX4_ok, nmX4, rfl, by decide +kernel⟩
theorem fl_P_22 : gF "LineRules$Pairs" 22 4 4 := ⟨"LineRules$Pairs", TX4, 7, rfl, by decide, inX4, (gw_t1 (List.mem_of_getElem? (i := 162) rfl) rfl), rfl⟩
theorem fp_P_22 : gFp "LineRules$Pairs" 22 4 4 .boolean := ⟨"LineRules$Pairs", TX4, 7, tyX4, rfl, by decide, inX4, (gw_t1 (List.mem_of_getElem? (i := 162) rfl) rfl), rfl, tyX4_ok, nmX4, rfl, by decide +kernel⟩
theorem fl_P_25 : gF "LineRules$Pairs" 25 4 5 := ⟨"LineRules$Pairs", TX4, 7, rfl, by decide, inX4, (gw_t1 (List.mem_of_getElem? (i := 163) rfl) rfl), rfl⟩
theorem fp_P_25 : gFp "LineRules$Pairs" 25 4 5 .boolean := ⟨"LineRules$Pairs", TX4, 7, tyX4, rfl, by decide, inX4, (gw_t1 (List.mem_of_getElem? (i := 163) rfl) rfl), rfl, tyX4_ok, nmX4, rfl, by decide +kernel⟩
theorem fl_P_28 : gF "LineRules$Pairs" 28 4 6 := ⟨"LineRules$Pairs", TX4, 7, rfl, by decide, inX4, (gw_t1 (List.mem_of_getElem? (i := 164) rfl) rfl), rfl⟩
theorem fp_P_28 : gFp "LineRules$Pairs" 28 4 6 .boolean := ⟨"LineRules$Pairs", TX4, 7, tyX4, rfl, by decide, inX4, (gw_t1 (List.mem_of_getElem? (i := 164) rfl) rfl), rfl, tyX4_ok, nmX4, rfl, by decide +kernel⟩
theorem fl_P_31 : gF "LineRules$Pairs" 31 4 0 := ⟨"LineRules$Pairs", TX4, 7, rfl, by decide, inX4, (gw_t1 (List.mem_of_getElem? (i := 158) rfl) rfl), rfl⟩
theorem fl_V_9 : gF "LineRules$Inverse" 9 5 2 := ⟨"LineRules$Inverse", TX5, 6, rfl, by decide, inX5, (gw_t1 (List.mem_of_getElem? (i := 188) rfl) rfl), rfl⟩
theorem fl_V_15 : gF "LineRules$Inverse" 15 5 3 := ⟨"LineRules$Inverse", TX5, 6, rfl, by decide, inX5, (gw_t1 (List.mem_of_getElem? (i := 189) rfl) rfl), rfl⟩
theorem fp_V_15 : gFp "LineRules$Inverse" 15 5 3 .boolean := ⟨"LineRules$Inverse", TX5, 6, tyX5, rfl, by decide, inX5, (gw_t1 (List.mem_of_getElem? (i := 189) rfl) rfl), rfl, tyX5_ok, nmX5, rfl, by decide +kernel⟩
theorem fl_V_19 : gF "LineRules$Inverse" 19 5 4 := ⟨"LineRules$Inverse", TX5, 6, rfl, by decide, inX5, (gw_t1 (List.mem_of_getElem? (i := 190) rfl) rfl), rfl⟩
theorem fp_V_19 : gFp "LineRules$Inverse" 19 5 4 .int := ⟨"LineRules$Inverse", TX5, 6, tyX5, rfl, by decide, inX5, (gw_t1 (List.mem_of_getElem? (i := 190) rfl) rfl), rfl, tyX5_ok, nmX5, rfl, by decide +kernel⟩
theorem fl_V_23 : gF "LineRules$Inverse" 23 5 5 := ⟨"LineRules$Inverse", TX5, 6, rfl, by decide, inX5, (gw_t1 (List.mem_of_getElem? (i := 191) rfl) rfl), rfl⟩
theorem fp_V_23 : gFp "LineRules$Inverse" 23 5 5 .int := ⟨"LineRules$Inverse", TX5, 6, tyX5, rfl, by decide, inX5, (gw_t1 (List.mem_of_getElem? (i := 191) rfl) rfl), rfl, tyX5_ok, nmX5, rfl, by decide +kernel⟩
theorem fl_V_26 : gF "LineRules$Inverse" 26 5 0 := ⟨"LineRules$Inverse", TX5, 6, rfl, by decide, inX5, (gw_t1 (List.mem_of_getElem? (i := 186) rfl) rfl), rfl⟩
theorem fl_V_30 : gF "LineRules$Inverse" 30 5 1 := ⟨"LineRules$Inverse", TX5, 6, rfl, by decide, inX5, (gw_t1 (List.mem_of_getElem? (i := 187) rfl) rfl), rfl⟩
theorem fl_W_11 : gF "LineRules$Weights" 11 6 1 := ⟨"LineRules$Weights", TX6, 6, rfl, by decide, inX6, (gw_t1 (List.mem_of_getElem? (i := 214) rfl) rfl), rfl⟩
theorem fl_W_16 : gF "LineRules$Weights" 16 6 2 := ⟨"LineRules$Weights", TX6, 6, rfl, by decide, inX6, (gw_t1 (List.mem_of_getElem? (i := 215) rfl) rfl), rfl⟩
theorem fl_W_19 : gF "LineRules$Weights" 19 6 3 := ⟨"LineRules$Weights", TX6, 6, rfl, by decide, inX6, (gw_t1 (List.mem_of_getElem? (i := 216) rfl) rfl), rfl⟩
theorem fl_W_23 : gF "LineRules$Weights" 23 6 4 := ⟨"LineRules$Weights", TX6, 6, rfl, by decide, inX6, (gw_t1 (List.mem_of_getElem? (i := 217) rfl) rfl), rfl⟩
theorem fp_W_23 : gFp "LineRules$Weights" 23 6 4 .boolean := ⟨"LineRules$Weights", TX6, 6, tyX6, rfl, by decide, inX6, (gw_t1 (List.mem_of_getElem? (i := 217) rfl) rfl), rfl, tyX6_ok, nmX6, rfl, by decide +kernel⟩
theorem fl_W_27 : gF "LineRules$Weights" 27 6 5 := ⟨"LineRules$Weights", TX6, 6, rfl, by decide, inX6, (gw_t1 (List.mem_of_getElem? (i := 218) rfl) rfl), rfl⟩
theorem fp_W_27 : gFp "LineRules$Weights" 27 6 5 .int := ⟨"LineRules$Weights", TX6, 6, tyX6, rfl, by decide, inX6, (gw_t1 (List.mem_of_getElem? (i := 218) rfl) rfl), rfl, tyX6_ok, nmX6, rfl, by decide +kernel⟩
theorem fl_W_31 : gF "LineRules$Weights" 31 6 0 := ⟨"LineRules$Weights", TX6, 6, rfl, by decide, inX6, (gw_t1 (List.mem_of_getElem? (i := 213) rfl) rfl), rfl⟩
theorem fl_O_9 : gF "LineRules$Orphan" 9 7 2 := ⟨"LineRules$Orphan", TX7, 10, rfl, by decide, inX7, (gw_t2 (List.mem_of_getElem? (i := 0) rfl) rfl), rfl⟩
theorem fl_O_15 : gF "LineRules$Orphan" 15 7 3 := ⟨"LineRules$Orphan", TX7, 10, rfl, by decide, inX7, (gw_t2 (List.mem_of_getElem? (i := 1) rfl) rfl), rfl⟩
theorem fl_O_19 : gF "LineRules$Orphan" 19 7 4 := ⟨"LineRules$Orphan", TX7, 10, rfl, by decide, inX7, (gw_t2 (List.mem_of_getElem? (i := 2) rfl) rfl), rfl⟩
theorem fl_O_22 : gF "LineRules$Orphan" 22 7 5 := ⟨"LineRules$Orphan", TX7, 10, rfl, by decide, inX7, (gw_t2 (List.mem_of_getElem? (i := 3) rfl) rfl), rfl⟩
theorem fl_O_25 : gF "LineRules$Orphan" 25 7 6 := ⟨"LineRules$Orphan", TX7, 10, rfl, by decide, inX7, (gw_t2 (List.mem_of_getElem? (i := 4) rfl) rfl), rfl⟩
theorem fl_O_28 : gF "LineRules$Orphan" 28 7 7 := ⟨"LineRules$Orphan", TX7, 10, rfl, by decide, inX7, (gw_t2 (List.mem_of_getElem? (i := 5) rfl) rfl), rfl⟩
theorem fp_O_28 : gFp "LineRules$Orphan" 28 7 7 .int := ⟨"LineRules$Orphan", TX7, 10, tyX7, rfl, by decide, inX7, (gw_t2 (List.mem_of_getElem? (i := 5) rfl) rfl), rfl, tyX7_ok, nmX7, rfl, by decide +kernel⟩
theorem fl_O_32 : gF "LineRules$Orphan" 32 7 8 := ⟨"LineRules$Orphan", TX7, 10, rfl, by decide, inX7, (gw_t2 (List.mem_of_getElem? (i := 6) rfl) rfl), rfl⟩
theorem fp_O_32 : gFp "LineRules$Orphan" 32 7 8 .boolean := ⟨"LineRules$Orphan", TX7, 10, tyX7, rfl, by decide, inX7, (gw_t2 (List.mem_of_getElem? (i := 6) rfl) rfl), rfl, tyX7_ok, nmX7, rfl, by decide +kernel⟩
theorem fl_O_36 : gF "LineRules$Orphan" 36 7 9 := ⟨"LineRules$Orphan", TX7, 10, rfl, by decide, inX7, (gw_t2 (List.mem_of_getElem? (i := 7) rfl) rfl), rfl⟩
theorem fp_O_36 : gFp "LineRules$Orphan" 36 7 9 .int := ⟨"LineRules$Orphan", TX7, 10, tyX7, rfl, by decide, inX7, (gw_t2 (List.mem_of_getElem? (i := 7) rfl) rfl), rfl, tyX7_ok, nmX7, rfl, by decide +kernel⟩
theorem fl_O_39 : gF "LineRules$Orphan" 39 7 0 := ⟨"LineRules$Orphan", TX7, 10, rfl, by decide, inX7, (gw_t1 (List.mem_of_getElem? (i := 238) rfl) rfl), rfl⟩
theorem fl_O_43 : gF "LineRules$Orphan" 43 7 1 := ⟨"LineRules$Orphan", TX7, 10, rfl, by decide, inX7, (gw_t1 (List.mem_of_getElem? (i := 239) rfl) rfl), rfl⟩
theorem fl_H_9 : gF "LineRules$Past" 9 8 2 := ⟨"LineRules$Past", TX8, 10, rfl, by decide, inX8, (gw_t2 (List.mem_of_getElem? (i := 37) rfl) rfl), rfl⟩
theorem fl_H_15 : gF "LineRules$Past" 15 8 3 := ⟨"LineRules$Past", TX8, 10, rfl, by decide, inX8, (gw_t2 (List.mem_of_getElem? (i := 38) rfl) rfl), rfl⟩
theorem fl_H_19 : gF "LineRules$Past" 19 8 4 := ⟨"LineRules$Past", TX8, 10, rfl, by decide, inX8, (gw_t2 (List.mem_of_getElem? (i := 39) rfl) rfl), rfl⟩
theorem fp_H_19 : gFp "LineRules$Past" 19 8 4 (.array .long) := ⟨"LineRules$Past", TX8, 10, tyX8, rfl, by decide, inX8, (gw_t2 (List.mem_of_getElem? (i := 39) rfl) rfl), rfl, tyX8_ok, nmX8, rfl, by decide +kernel⟩
theorem fl_H_22 : gF "LineRules$Past" 22 8 5 := ⟨"LineRules$Past", TX8, 10, rfl, by decide, inX8, (gw_t2 (List.mem_of_getElem? (i := 40) rfl) rfl), rfl⟩
theorem fp_H_22 : gFp "LineRules$Past" 22 8 5 (.array .long) := ⟨"LineRules$Past", TX8, 10, tyX8, rfl, by decide, inX8, (gw_t2 (List.mem_of_getElem? (i := 40) rfl) rfl), rfl, tyX8_ok, nmX8, rfl, by decide +kernel⟩
theorem fl_H_25 : gF "LineRules$Past" 25 8 6 := ⟨"LineRules$Past", TX8, 10, rfl, by decide, inX8, (gw_t2 (List.mem_of_getElem? (i := 41) rfl) rfl), rfl⟩
theorem fp_H_25 : gFp "LineRules$Past" 25 8 6 .boolean := ⟨"LineRules$Past", TX8, 10, tyX8, rfl, by decide, inX8, (gw_t2 (List.mem_of_getElem? (i := 41) rfl) rfl), rfl, tyX8_ok, nmX8, rfl, by decide +kernel⟩
theorem fl_H_29 : gF "LineRules$Past" 29 8 7 := ⟨"LineRules$Past", TX8, 10, rfl, by decide, inX8, (gw_t2 (List.mem_of_getElem? (i := 42) rfl) rfl), rfl⟩
theorem fp_H_29 : gFp "LineRules$Past" 29 8 7 .boolean := ⟨"LineRules$Past", TX8, 10, tyX8, rfl, by decide, inX8, (gw_t2 (List.mem_of_getElem? (i := 42) rfl) rfl), rfl, tyX8_ok, nmX8, rfl, by decide +kernel⟩
theorem fl_H_32 : gF "LineRules$Past" 32 8 8 := ⟨"LineRules$Past", TX8, 10, rfl, by decide, inX8, (gw_t2 (List.mem_of_getElem? (i := 43) rfl) rfl), rfl⟩
theorem fp_H_32 : gFp "LineRules$Past" 32 8 8 .boolean := ⟨"LineRules$Past", TX8, 10, tyX8, rfl, by decide, inX8, (gw_t2 (List.mem_of_getElem? (i := 43) rfl) rfl), rfl, tyX8_ok, nmX8, rfl, by decide +kernel⟩
theorem fl_H_35 : gF "LineRules$Past" 35 8 9 := ⟨"LineRules$Past", TX8, 10, rfl, by decide, inX8, (gw_t2 (List.mem_of_getElem? (i := 44) rfl) rfl), rfl⟩
theorem fp_H_35 : gFp "LineRules$Past" 35 8 9 .long := ⟨"LineRules$Past", TX8, 10, tyX8, rfl, by decide, inX8, (gw_t2 (List.mem_of_getElem? (i := 44) rfl) rfl), rfl, tyX8_ok, nmX8, rfl, by decide +kernel⟩
theorem fl_H_39 : gF "LineRules$Past" 39 8 0 := ⟨"LineRules$Past", TX8, 10, rfl, by decide, inX8, (gw_t2 (List.mem_of_getElem? (i := 35) rfl) rfl), rfl⟩
theorem fl_H_43 : gF "LineRules$Past" 43 8 1 := ⟨"LineRules$Past", TX8, 10, rfl, by decide, inX8, (gw_t2 (List.mem_of_getElem? (i := 36) rfl) rfl), rfl⟩
theorem fl_A_89 : gF "LineRules" 89 2 6 := ⟨"LineRules$Rule", TX2, 10, rfl, by decide, inX2, (gw_t1 (List.mem_of_getElem? (i := 82) rfl) rfl), rfl⟩
theorem fl_T_72 : gF "LineRules$Text" 72 2 8 := ⟨"LineRules$Rule", TX2, 10, rfl, by decide, inX2, (gw_t1 (List.mem_of_getElem? (i := 97) rfl) rfl), rfl⟩
theorem fl_T_75 : gF "LineRules$Text" 75 2 0 := ⟨"LineRules$Rule", TX2, 10, rfl, by decide, inX2, (gw_t1 (List.mem_of_getElem? (i := 68) rfl) rfl), rfl⟩
theorem fl_A_93 : gF "LineRules" 93 2 5 := ⟨"LineRules$Rule", TX2, 10, rfl, by decide, inX2, (gw_t1 (List.mem_of_getElem? (i := 80) rfl) rfl), rfl⟩
theorem fl_A_97 : gF "LineRules" 97 2 8 := ⟨"LineRules$Rule", TX2, 10, rfl, by decide, inX2, (gw_t1 (List.mem_of_getElem? (i := 95) rfl) rfl), rfl⟩
theorem fl_A_100 : gF "LineRules" 100 2 0 := ⟨"LineRules$Rule", TX2, 10, rfl, by decide, inX2, (gw_t1 (List.mem_of_getElem? (i := 65) rfl) rfl), rfl⟩
theorem fl_A_104 : gF "LineRules" 104 3 1 := ⟨"LineRules$Ring", TX3, 5, rfl, by decide, inX3, (gw_t1 (List.mem_of_getElem? (i := 136) rfl) rfl), rfl⟩
theorem fl_A_118 : gF "LineRules" 118 3 0 := ⟨"LineRules$Ring", TX3, 5, rfl, by decide, inX3, (gw_t1 (List.mem_of_getElem? (i := 133) rfl) rfl), rfl⟩
theorem fl_C_47 : gF "LineRules$Ring" 47 2 7 := ⟨"LineRules$Rule", TX2, 10, rfl, by decide, inX2, (gw_t1 (List.mem_of_getElem? (i := 91) rfl) rfl), rfl⟩
theorem fl_C_52 : gF "LineRules$Ring" 52 2 6 := ⟨"LineRules$Rule", TX2, 10, rfl, by decide, inX2, (gw_t1 (List.mem_of_getElem? (i := 87) rfl) rfl), rfl⟩
theorem fl_C_65 : gF "LineRules$Ring" 65 2 0 := ⟨"LineRules$Rule", TX2, 10, rfl, by decide, inX2, (gw_t1 (List.mem_of_getElem? (i := 69) rfl) rfl), rfl⟩
theorem fl_P_51 : gF "LineRules$Pairs" 51 2 9 := ⟨"LineRules$Rule", TX2, 10, rfl, by decide, inX2, (gw_t1 (List.mem_of_getElem? (i := 100) rfl) rfl), rfl⟩
theorem fl_P_67 : gF "LineRules$Pairs" 67 2 6 := ⟨"LineRules$Rule", TX2, 10, rfl, by decide, inX2, (gw_t1 (List.mem_of_getElem? (i := 85) rfl) rfl), rfl⟩
theorem fl_P_70 : gF "LineRules$Pairs" 70 2 0 := ⟨"LineRules$Rule", TX2, 10, rfl, by decide, inX2, (gw_t1 (List.mem_of_getElem? (i := 67) rfl) rfl), rfl⟩
theorem fl_V_46 : gF "LineRules$Inverse" 46 2 7 := ⟨"LineRules$Rule", TX2, 10, rfl, by decide, inX2, (gw_t1 (List.mem_of_getElem? (i := 90) rfl) rfl), rfl⟩
theorem fl_V_37 : gF "LineRules$Inverse" 37 2 6 := ⟨"LineRules$Rule", TX2, 10, rfl, by decide, inX2, (gw_t1 (List.mem_of_getElem? (i := 83) rfl) rfl), rfl⟩
theorem fl_V_76 : gF "LineRules$Inverse" 76 2 0 := ⟨"LineRules$Rule", TX2, 10, rfl, by decide, inX2, (gw_t1 (List.mem_of_getElem? (i := 70) rfl) rfl), rfl⟩
theorem fl_V_79 : gF "LineRules$Inverse" 79 2 8 := ⟨"LineRules$Rule", TX2, 10, rfl, by decide, inX2, (gw_t1 (List.mem_of_getElem? (i := 98) rfl) rfl), rfl⟩
theorem fl_W_50 : gF "LineRules$Weights" 50 2 8 := ⟨"LineRules$Rule", TX2, 10, rfl, by decide, inX2, (gw_t1 (List.mem_of_getElem? (i := 96) rfl) rfl), rfl⟩
theorem fl_W_60 : gF "LineRules$Weights" 60 2 6 := ⟨"LineRules$Rule", TX2, 10, rfl, by decide, inX2, (gw_t1 (List.mem_of_getElem? (i := 84) rfl) rfl), rfl⟩
theorem fl_W_67 : gF "LineRules$Weights" 67 2 0 := ⟨"LineRules$Rule", TX2, 10, rfl, by decide, inX2, (gw_t1 (List.mem_of_getElem? (i := 66) rfl) rfl), rfl⟩
theorem fl_W_71 : gF "LineRules$Weights" 71 2 9 := ⟨"LineRules$Rule", TX2, 10, rfl, by decide, inX2, (gw_t1 (List.mem_of_getElem? (i := 102) rfl) rfl), rfl⟩
theorem fl_W_82 : gF "LineRules$Weights" 82 2 7 := ⟨"LineRules$Rule", TX2, 10, rfl, by decide, inX2, (gw_t1 (List.mem_of_getElem? (i := 92) rfl) rfl), rfl⟩
theorem fl_O_74 : gF "LineRules$Orphan" 74 2 6 := ⟨"LineRules$Rule", TX2, 10, rfl, by decide, inX2, (gw_t1 (List.mem_of_getElem? (i := 86) rfl) rfl), rfl⟩
theorem fl_O_87 : gF "LineRules$Orphan" 87 2 9 := ⟨"LineRules$Rule", TX2, 10, rfl, by decide, inX2, (gw_t1 (List.mem_of_getElem? (i := 103) rfl) rfl), rfl⟩
theorem fl_H_56 : gF "LineRules$Past" 56 2 9 := ⟨"LineRules$Rule", TX2, 10, rfl, by decide, inX2, (gw_t1 (List.mem_of_getElem? (i := 101) rfl) rfl), rfl⟩
theorem fl_H_80 : gF "LineRules$Past" 80 3 1 := ⟨"LineRules$Ring", TX3, 5, rfl, by decide, inX3, (gw_t1 (List.mem_of_getElem? (i := 137) rfl) rfl), rfl⟩
theorem fl_H_73 : gF "LineRules$Past" 73 3 0 := ⟨"LineRules$Ring", TX3, 5, rfl, by decide, inX3, (gw_t1 (List.mem_of_getElem? (i := 134) rfl) rfl), rfl⟩
theorem fl_H_99 : gF "LineRules$Past" 99 2 7 := ⟨"LineRules$Rule", TX2, 10, rfl, by decide, inX2, (gw_t1 (List.mem_of_getElem? (i := 93) rfl) rfl), rfl⟩
theorem fl_H_102 : gF "LineRules$Past" 102 2 6 := ⟨"LineRules$Rule", TX2, 10, rfl, by decide, inX2, (gw_t1 (List.mem_of_getElem? (i := 88) rfl) rfl), rfl⟩
theorem fl_H_108 : gF "LineRules$Past" 108 2 0 := ⟨"LineRules$Rule", TX2, 10, rfl, by decide, inX2, (gw_t1 (List.mem_of_getElem? (i := 71) rfl) rfl), rfl⟩
theorem fl_H_120 : gF "LineRules$Past" 120 2 2 := ⟨"LineRules$Rule", TX2, 10, rfl, by decide, inX2, (gw_t1 (List.mem_of_getElem? (i := 74) rfl) rfl), rfl⟩
theorem fl_H_123 : gF "LineRules$Past" 123 2 3 := ⟨"LineRules$Rule", TX2, 10, rfl, by decide, inX2, (gw_t1 (List.mem_of_getElem? (i := 76) rfl) rfl), rfl⟩
theorem fl_H_126 : gF "LineRules$Past" 126 2 4 := ⟨"LineRules$Rule", TX2, 10, rfl, by decide, inX2, (gw_t1 (List.mem_of_getElem? (i := 78) rfl) rfl), rfl⟩
theorem fl_M_7 : gF "LineRulesModel" 7 9 1 := ⟨"LineRulesModel", TX9, 54, rfl, by decide, inX9, (gw_t4 (List.mem_of_getElem? (i := 63) rfl) rfl), rfl⟩
theorem fl_M_13 : gF "LineRulesModel" 13 9 6 := ⟨"LineRulesModel", TX9, 54, rfl, by decide, inX9, (gw_t4 (List.mem_of_getElem? (i := 68) rfl) rfl), rfl⟩
theorem fl_M_16 : gF "LineRulesModel" 16 9 7 := ⟨"LineRulesModel", TX9, 54, rfl, by decide, inX9, (gw_t4 (List.mem_of_getElem? (i := 69) rfl) rfl), rfl⟩
theorem fp_M_16 : gFp "LineRulesModel" 16 9 7 .int := ⟨"LineRulesModel", TX9, 54, tyX9, rfl, by decide, inX9, (gw_t4 (List.mem_of_getElem? (i := 69) rfl) rfl), rfl, tyX9_ok, nmX9, rfl, by decide +kernel⟩
theorem fl_M_20 : gF "LineRulesModel" 20 9 8 := ⟨"LineRulesModel", TX9, 54, rfl, by decide, inX9, (gw_t4 (List.mem_of_getElem? (i := 70) rfl) rfl), rfl⟩
theorem fl_M_23 : gF "LineRulesModel" 23 9 9 := ⟨"LineRulesModel", TX9, 54, rfl, by decide, inX9, (gw_t4 (List.mem_of_getElem? (i := 71) rfl) rfl), rfl⟩
theorem fl_M_26 : gF "LineRulesModel" 26 9 14 := ⟨"LineRulesModel", TX9, 54, rfl, by decide, inX9, (gw_t4 (List.mem_of_getElem? (i := 76) rfl) rfl), rfl⟩
theorem fl_M_29 : gF "LineRulesModel" 29 9 15 := ⟨"LineRulesModel", TX9, 54, rfl, by decide, inX9, (gw_t4 (List.mem_of_getElem? (i := 77) rfl) rfl), rfl⟩
theorem fl_M_32 : gF "LineRulesModel" 32 9 16 := ⟨"LineRulesModel", TX9, 54, rfl, by decide, inX9, (gw_t4 (List.mem_of_getElem? (i := 78) rfl) rfl), rfl⟩
theorem fl_M_35 : gF "LineRulesModel" 35 9 17 := ⟨"LineRulesModel", TX9, 54, rfl, by decide, inX9, (gw_t4 (List.mem_of_getElem? (i := 79) rfl) rfl), rfl⟩
theorem fl_M_38 : gF "LineRulesModel" 38 9 18 := ⟨"LineRulesModel", TX9, 54, rfl, by decide, inX9, (gw_t4 (List.mem_of_getElem? (i := 80) rfl) rfl), rfl⟩
theorem fl_M_41 : gF "LineRulesModel" 41 9 19 := ⟨"LineRulesModel", TX9, 54, rfl, by decide, inX9, (gw_t4 (List.mem_of_getElem? (i := 81) rfl) rfl), rfl⟩
theorem fl_M_45 : gF "LineRulesModel" 45 9 20 := ⟨"LineRulesModel", TX9, 54, rfl, by decide, inX9, (gw_t4 (List.mem_of_getElem? (i := 82) rfl) rfl), rfl⟩
theorem fl_M_48 : gF "LineRulesModel" 48 9 21 := ⟨"LineRulesModel", TX9, 54, rfl, by decide, inX9, (gw_t4 (List.mem_of_getElem? (i := 83) rfl) rfl), rfl⟩
theorem fl_M_51 : gF "LineRulesModel" 51 9 22 := ⟨"LineRulesModel", TX9, 54, rfl, by decide, inX9, (gw_t4 (List.mem_of_getElem? (i := 84) rfl) rfl), rfl⟩
theorem fl_M_54 : gF "LineRulesModel" 54 9 23 := ⟨"LineRulesModel", TX9, 54, rfl, by decide, inX9, (gw_t4 (List.mem_of_getElem? (i := 85) rfl) rfl), rfl⟩
theorem fl_M_57 : gF "LineRulesModel" 57 9 24 := ⟨"LineRulesModel", TX9, 54, rfl, by decide, inX9, (gw_t4 (List.mem_of_getElem? (i := 86) rfl) rfl), rfl⟩
theorem fl_M_60 : gF "LineRulesModel" 60 9 25 := ⟨"LineRulesModel", TX9, 54, rfl, by decide, inX9, (gw_t4 (List.mem_of_getElem? (i := 87) rfl) rfl), rfl⟩
theorem fl_M_63 : gF "LineRulesModel" 63 9 26 := ⟨"LineRulesModel", TX9, 54, rfl, by decide, inX9, (gw_t4 (List.mem_of_getElem? (i := 88) rfl) rfl), rfl⟩
theorem fl_M_66 : gF "LineRulesModel" 66 9 27 := ⟨"LineRulesModel", TX9, 54, rfl, by decide, inX9, (gw_t4 (List.mem_of_getElem? (i := 89) rfl) rfl), rfl⟩
theorem fl_M_69 : gF "LineRulesModel" 69 9 30 := ⟨"LineRulesModel", TX9, 54, rfl, by decide, inX9, (gw_t4 (List.mem_of_getElem? (i := 92) rfl) rfl), rfl⟩
theorem fl_M_72 : gF "LineRulesModel" 72 9 34 := ⟨"LineRulesModel", TX9, 54, rfl, by decide, inX9, (gw_t4 (List.mem_of_getElem? (i := 96) rfl) rfl), rfl⟩
theorem fl_M_75 : gF "LineRulesModel" 75 9 37 := ⟨"LineRulesModel", TX9, 54, rfl, by decide, inX9, (gw_t4 (List.mem_of_getElem? (i := 99) rfl) rfl), rfl⟩
theorem fl_M_78 : gF "LineRulesModel" 78 9 38 := ⟨"LineRulesModel", TX9, 54, rfl, by decide, inX9, (gw_t4 (List.mem_of_getElem? (i := 100) rfl) rfl), rfl⟩
theorem fl_M_81 : gF "LineRulesModel" 81 9 39 := ⟨"LineRulesModel", TX9, 54, rfl, by decide, inX9, (gw_t4 (List.mem_of_getElem? (i := 101) rfl) rfl), rfl⟩
theorem fl_M_85 : gF "LineRulesModel" 85 9 40 := ⟨"LineRulesModel", TX9, 54, rfl, by decide, inX9, (gw_t4 (List.mem_of_getElem? (i := 102) rfl) rfl), rfl⟩
theorem fl_M_88 : gF "LineRulesModel" 88 9 43 := ⟨"LineRulesModel", TX9, 54, rfl, by decide, inX9, (gw_t4 (List.mem_of_getElem? (i := 105) rfl) rfl), rfl⟩
theorem fl_M_91 : gF "LineRulesModel" 91 9 44 := ⟨"LineRulesModel", TX9, 54, rfl, by decide, inX9, (gw_t4 (List.mem_of_getElem? (i := 106) rfl) rfl), rfl⟩
theorem fl_M_94 : gF "LineRulesModel" 94 9 45 := ⟨"LineRulesModel", TX9, 54, rfl, by decide, inX9, (gw_t4 (List.mem_of_getElem? (i := 107) rfl) rfl), rfl⟩
theorem fl_M_97 : gF "LineRulesModel" 97 9 46 := ⟨"LineRulesModel", TX9, 54, rfl, by decide, inX9, (gw_t4 (List.mem_of_getElem? (i := 108) rfl) rfl), rfl⟩
theorem fl_M_100 : gF "LineRulesModel" 100 9 50 := ⟨"LineRulesModel", TX9, 54, rfl, by decide, inX9, (gw_t4 (List.mem_of_getElem? (i := 112) rfl) rfl), rfl⟩
theorem fl_M_103 : gF "LineRulesModel" 103 9 51 := ⟨"LineRulesModel", TX9, 54, rfl, by decide, inX9, (gw_t4 (List.mem_of_getElem? (i := 113) rfl) rfl), rfl⟩
theorem fl_M_106 : gF "LineRulesModel" 106 9 52 := ⟨"LineRulesModel", TX9, 54, rfl, by decide, inX9, (gw_t4 (List.mem_of_getElem? (i := 114) rfl) rfl), rfl⟩
theorem fl_M_109 : gF "LineRulesModel" 109 9 53 := ⟨"LineRulesModel", TX9, 54, rfl, by decide, inX9, (gw_t4 (List.mem_of_getElem? (i := 115) rfl) rfl), rfl⟩
theorem fl_M_112 : gF "LineRulesModel" 112 9 0 := ⟨"LineRulesModel", TX9, 54, rfl, by decide, inX9, (gw_t4 (List.mem_of_getElem? (i := 62) rfl) rfl), rfl⟩
theorem fp_M_112 : gFp "LineRulesModel" 112 9 0 .int := ⟨"LineRulesModel", TX9, 54, tyX9, rfl, by decide, inX9, (gw_t4 (List.mem_of_getElem? (i := 62) rfl) rfl), rfl, tyX9_ok, nmX9, rfl, by decide +kernel⟩
theorem fl_M_122 : gF "LineRulesModel" 122 9 10 := ⟨"LineRulesModel", TX9, 54, rfl, by decide, inX9, (gw_t4 (List.mem_of_getElem? (i := 72) rfl) rfl), rfl⟩
theorem fp_M_122 : gFp "LineRulesModel" 122 9 10 .int := ⟨"LineRulesModel", TX9, 54, tyX9, rfl, by decide, inX9, (gw_t4 (List.mem_of_getElem? (i := 72) rfl) rfl), rfl, tyX9_ok, nmX9, rfl, by decide +kernel⟩
theorem fl_M_179 : gF "LineRulesModel" 179 9 2 := ⟨"LineRulesModel", TX9, 54, rfl, by decide, inX9, (gw_t4 (List.mem_of_getElem? (i := 64) rfl) rfl), rfl⟩
theorem fp_M_179 : gFp "LineRulesModel" 179 9 2 .int := ⟨"LineRulesModel", TX9, 54, tyX9, rfl, by decide, inX9, (gw_t4 (List.mem_of_getElem? (i := 64) rfl) rfl), rfl, tyX9_ok, nmX9, rfl, by decide +kernel⟩
theorem fl_M_144 : gF "LineRulesModel" 144 9 11 := ⟨"LineRulesModel", TX9, 54, rfl, by decide, inX9, (gw_t4 (List.mem_of_getElem? (i := 73) rfl) rfl), rfl⟩
theorem fp_M_144 : gFp "LineRulesModel" 144 9 11 .int := ⟨"LineRulesModel", TX9, 54, tyX9, rfl, by decide, inX9, (gw_t4 (List.mem_of_getElem? (i := 73) rfl) rfl), rfl, tyX9_ok, nmX9, rfl, by decide +kernel⟩
theorem fl_M_182 : gF "LineRulesModel" 182 9 3 := ⟨"LineRulesModel", TX9, 54, rfl, by decide, inX9, (gw_t4 (List.mem_of_getElem? (i := 65) rfl) rfl), rfl⟩
theorem fp_M_182 : gFp "LineRulesModel" 182 9 3 .int := ⟨"LineRulesModel", TX9, 54, tyX9, rfl, by decide, inX9, (gw_t4 (List.mem_of_getElem? (i := 65) rfl) rfl), rfl, tyX9_ok, nmX9, rfl, by decide +kernel⟩
theorem fl_M_185 : gF "LineRulesModel" 185 9 5 := ⟨"LineRulesModel", TX9, 54, rfl, by decide, inX9, (gw_t4 (List.mem_of_getElem? (i := 67) rfl) rfl), rfl⟩
theorem fp_M_185 : gFp "LineRulesModel" 185 9 5 .int := ⟨"LineRulesModel", TX9, 54, tyX9, rfl, by decide, inX9, (gw_t4 (List.mem_of_getElem? (i := 67) rfl) rfl), rfl, tyX9_ok, nmX9, rfl, by decide +kernel⟩
theorem fl_M_188 : gF "LineRulesModel" 188 9 4 := ⟨"LineRulesModel", TX9, 54, rfl, by decide, inX9, (gw_t4 (List.mem_of_getElem? (i := 66) rfl) rfl), rfl⟩
theorem fp_M_188 : gFp "LineRulesModel" 188 9 4 .int := ⟨"LineRulesModel", TX9, 54, tyX9, rfl, by decide, inX9, (gw_t4 (List.mem_of_getElem? (i := 66) rfl) rfl), rfl, tyX9_ok, nmX9, rfl, by decide +kernel⟩
theorem fl_M_194 : gF "LineRulesModel" 194 9 28 := ⟨"LineRulesModel", TX9, 54, rfl, by decide, inX9, (gw_t4 (List.mem_of_getElem? (i := 90) rfl) rfl), rfl⟩
theorem fp_M_194 : gFp "LineRulesModel" 194 9 28 .int := ⟨"LineRulesModel", TX9, 54, tyX9, rfl, by decide, inX9, (gw_t4 (List.mem_of_getElem? (i := 90) rfl) rfl), rfl, tyX9_ok, nmX9, rfl, by decide +kernel⟩
theorem fl_M_197 : gF "LineRulesModel" 197 9 29 := ⟨"LineRulesModel", TX9, 54, rfl, by decide, inX9, (gw_t4 (List.mem_of_getElem? (i := 91) rfl) rfl), rfl⟩
theorem fp_M_197 : gFp "LineRulesModel" 197 9 29 .int := ⟨"LineRulesModel", TX9, 54, tyX9, rfl, by decide, inX9, (gw_t4 (List.mem_of_getElem? (i := 91) rfl) rfl), rfl, tyX9_ok, nmX9, rfl, by decide +kernel⟩
theorem fl_M_200 : gF "LineRulesModel" 200 9 31 := ⟨"LineRulesModel", TX9, 54, rfl, by decide, inX9, (gw_t4 (List.mem_of_getElem? (i := 93) rfl) rfl), rfl⟩
theorem fp_M_200 : gFp "LineRulesModel" 200 9 31 .boolean := ⟨"LineRulesModel", TX9, 54, tyX9, rfl, by decide, inX9, (gw_t4 (List.mem_of_getElem? (i := 93) rfl) rfl), rfl, tyX9_ok, nmX9, rfl, by decide +kernel⟩
theorem fl_M_204 : gF "LineRulesModel" 204 9 35 := ⟨"LineRulesModel", TX9, 54, rfl, by decide, inX9, (gw_t4 (List.mem_of_getElem? (i := 97) rfl) rfl), rfl⟩
theorem fp_M_204 : gFp "LineRulesModel" 204 9 35 .boolean := ⟨"LineRulesModel", TX9, 54, tyX9, rfl, by decide, inX9, (gw_t4 (List.mem_of_getElem? (i := 97) rfl) rfl), rfl, tyX9_ok, nmX9, rfl, by decide +kernel⟩
theorem fl_M_207 : gF "LineRulesModel" 207 9 41 := ⟨"LineRulesModel", TX9, 54, rfl, by decide, inX9, (gw_t4 (List.mem_of_getElem? (i := 103) rfl) rfl), rfl⟩
theorem fp_M_207 : gFp "LineRulesModel" 207 9 41 .boolean := ⟨"LineRulesModel", TX9, 54, tyX9, rfl, by decide, inX9, (gw_t4 (List.mem_of_getElem? (i := 103) rfl) rfl), rfl, tyX9_ok, nmX9, rfl, by decide +kernel⟩
theorem fl_M_210 : gF "LineRulesModel" 210 9 47 := ⟨"LineRulesModel", TX9, 54, rfl, by decide, inX9, (gw_t4 (List.mem_of_getElem? (i := 109) rfl) rfl), rfl⟩
theorem fp_M_210 : gFp "LineRulesModel" 210 9 47 .boolean := ⟨"LineRulesModel", TX9, 54, tyX9, rfl, by decide, inX9, (gw_t4 (List.mem_of_getElem? (i := 109) rfl) rfl), rfl, tyX9_ok, nmX9, rfl, by decide +kernel⟩
theorem fl_M_158 : gF "LineRulesModel" 158 9 12 := ⟨"LineRulesModel", TX9, 54, rfl, by decide, inX9, (gw_t4 (List.mem_of_getElem? (i := 74) rfl) rfl), rfl⟩
theorem fp_M_158 : gFp "LineRulesModel" 158 9 12 .int := ⟨"LineRulesModel", TX9, 54, tyX9, rfl, by decide, inX9, (gw_t4 (List.mem_of_getElem? (i := 74) rfl) rfl), rfl, tyX9_ok, nmX9, rfl, by decide +kernel⟩
theorem fl_M_115 : gF "LineRulesModel" 115 9 13 := ⟨"LineRulesModel", TX9, 54, rfl, by decide, inX9, (gw_t4 (List.mem_of_getElem? (i := 75) rfl) rfl), rfl⟩
theorem fp_M_115 : gFp "LineRulesModel" 115 9 13 .int := ⟨"LineRulesModel", TX9, 54, tyX9, rfl, by decide, inX9, (gw_t4 (List.mem_of_getElem? (i := 75) rfl) rfl), rfl, tyX9_ok, nmX9, rfl, by decide +kernel⟩
theorem fl_M_236 : gF "LineRulesModel" 236 9 32 := ⟨"LineRulesModel", TX9, 54, rfl, by decide, inX9, (gw_t4 (List.mem_of_getElem? (i := 94) rfl) rfl), rfl⟩
theorem fp_M_236 : gFp "LineRulesModel" 236 9 32 .int := ⟨"LineRulesModel", TX9, 54, tyX9, rfl, by decide, inX9, (gw_t4 (List.mem_of_getElem? (i := 94) rfl) rfl), rfl, tyX9_ok, nmX9, rfl, by decide +kernel⟩
theorem fl_M_239 : gF "LineRulesModel" 239 9 33 := ⟨"LineRulesModel", TX9, 54, rfl, by decide, inX9, (gw_t4 (List.mem_of_getElem? (i := 95) rfl) rfl), rfl⟩
theorem fp_M_239 : gFp "LineRulesModel" 239 9 33 .int := ⟨"LineRulesModel", TX9, 54, tyX9, rfl, by decide, inX9, (gw_t4 (List.mem_of_getElem? (i := 95) rfl) rfl), rfl, tyX9_ok, nmX9, rfl, by decide +kernel⟩
theorem fl_M_255 : gF "LineRulesModel" 255 9 36 := ⟨"LineRulesModel", TX9, 54, rfl, by decide, inX9, (gw_t4 (List.mem_of_getElem? (i := 98) rfl) rfl), rfl⟩
theorem fp_M_255 : gFp "LineRulesModel" 255 9 36 .int := ⟨"LineRulesModel", TX9, 54, tyX9, rfl, by decide, inX9, (gw_t4 (List.mem_of_getElem? (i := 98) rfl) rfl), rfl, tyX9_ok, nmX9, rfl, by decide +kernel⟩
theorem fl_M_270 : gF "LineRulesModel" 270 9 42 := ⟨"LineRulesModel", TX9, 54, rfl, by decide, inX9, (gw_t4 (List.mem_of_getElem? (i := 104) rfl) rfl), rfl⟩
theorem fp_M_270 : gFp "LineRulesModel" 270 9 42 .int := ⟨"LineRulesModel", TX9, 54, tyX9, rfl, by decide, inX9, (gw_t4 (List.mem_of_getElem? (i := 104) rfl) rfl), rfl, tyX9_ok, nmX9, rfl, by decide +kernel⟩
theorem fl_M_291 : gF "LineRulesModel" 291 9 48 := ⟨"LineRulesModel", TX9, 54, rfl, by decide, inX9, (gw_t4 (List.mem_of_getElem? (i := 110) rfl) rfl), rfl⟩
theorem fp_M_291 : gFp "LineRulesModel" 291 9 48 .boolean := ⟨"LineRulesModel", TX9, 54, tyX9, rfl, by decide, inX9, (gw_t4 (List.mem_of_getElem? (i := 110) rfl) rfl), rfl, tyX9_ok, nmX9, rfl, by decide +kernel⟩
theorem fl_M_294 : gF "LineRulesModel" 294 9 49 := ⟨"LineRulesModel", TX9, 54, rfl, by decide, inX9, (gw_t4 (List.mem_of_getElem? (i := 111) rfl) rfl), rfl⟩
theorem fp_M_294 : gFp "LineRulesModel" 294 9 49 .long := ⟨"LineRulesModel", TX9, 54, tyX9, rfl, by decide, inX9, (gw_t4 (List.mem_of_getElem? (i := 111) rfl) rfl), rfl, tyX9_ok, nmX9, rfl, by decide +kernel⟩
def lyC : gs_L := fun k => match k with
  | 0 => .inr (0, [4, 7, 13, 17, 20, 22, 34, 40])
  | 1 => .inr (1, [5, 6, 0, 0, 0, 0, 0, 0, 0])
  | 2 => .inl (3, 64, 0)
  | 3 => .inl (0, 4, 0)
  | 4 => .inr (2, [8, 9, 10, 11, 12, 0, 0, 0, 0, 0])
  | 5 => .inl (0, 256, 0)
  | 6 => .inl (1, 256, 0)
  | 7 => .inl (0, 256, 0)
  | 8 => .inl (0, 256, 0)
  | 9 => .inl (0, 5, 0)
  | 10 => .inr (3, [14, 0, 7, 15, 16])
  | 11 => .inl (0, 64, 0)
  | 12 => .inl (0, 64, 0)
  | 13 => .inl (0, 64, 0)
  | 14 => .inr (4, [7, 18, 19, 0, 0, 0, 0])
  | 15 => .inl (1, 64, 0)
  | 16 => .inl (1, 64, 0)
  | 17 => .inr (5, [7, 17, 21, 0, 0, 0])
  | 18 => .inl (0, 1024, 0)
  | 19 => .inr (6, [7, 23, 28, 33, 0, 0])
  | 20 => .inl (4, 4, 21)
  | 21 => .inl (1, 4, 0)
  | 22 => .inl (1, 4, 0)
  | 23 => .inl (1, 4, 0)
  | 24 => .inl (1, 4, 0)
  | 25 => .inl (4, 4, 26)
  | 26 => .inl (1, 4, 0)
  | 27 => .inl (1, 4, 0)
  | 28 => .inl (1, 4, 0)
  | 29 => .inl (1, 4, 0)
  | 30 => .inl (1, 4, 0)
  | 31 => .inr (7, [7, 17, 35, 36, 37, 38, 39, 0, 0, 0])
  | 32 => .inl (1, 500, 0)
  | 33 => .inl (0, 500, 0)
  | 34 => .inl (0, 500, 0)
  | 35 => .inl (1, 4, 0)
  | 36 => .inl (0, 500, 0)
  | 37 => .inr (8, [7, 13, 41, 42, 2, 2, 0, 0, 0, 1])
  | 38 => .inl (1, 65, 0)
  | 39 => .inl (0, 64, 0)
  | 40 => .inl (1, 64, 0)
  | _ => .inl (1, 64, 0)
def lyM : gs_L := fun k => match k with
  | 0 => .inr (9, [0, 4, 0, 0, 0, 0, 5, 0, 6, 7, 0, 0, 0, 0, 8, 9, 10, 11, 12, 13, 14, 15, 16, 17, 18, 19, 20, 21, 0, 0, 22, 0, 0, 0, 23, 0, 0, 24, 25, 26, 27, 0, 0, 28, 29, 30, 31, 0, 0, 1, 32, 33, 34, 35])
  | 1 => .inl (0, 64, 0)
  | 2 => .inl (0, 256, 0)
  | 3 => .inl (0, 64, 0)
  | 4 => .inl (0, 64, 0)
  | 5 => .inl (0, 6, 0)
  | 6 => .inl (0, 6, 0)
  | 7 => .inl (0, 6, 0)
  | 8 => .inl (0, 6, 0)
  | 9 => .inl (0, 6, 0)
  | 10 => .inl (2, 6, 0)
  | 11 => .inl (0, 6, 0)
  | 12 => .inl (0, 6, 0)
  | 13 => .inl (0, 6, 0)
  | 14 => .inl (0, 6, 0)
  | 15 => .inl (0, 6, 0)
  | 16 => .inl (2, 6, 0)
  | 17 => .inl (0, 6, 0)
  | 18 => .inl (2, 6, 0)
  | 19 => .inl (2, 4096, 0)
  | 20 => .inl (0, 1024, 0)
  | 21 => .inl (0, 16, 0)
  | 22 => .inl (2, 4, 0)
  | 23 => .inl (1, 16, 0)
  | 24 => .inl (1, 4, 0)
  | 25 => .inl (0, 512, 0)
  | 26 => .inl (1, 500, 0)
  | 27 => .inl (0, 500, 0)
  | 28 => .inl (0, 500, 0)
  | 29 => .inl (0, 68, 0)
  | 30 => .inl (1, 64, 0)
  | 31 => .inl (1, 64, 0)
  | _ => .inl (1, 65, 0)
theorem ly_ties {i : Int32} (h : vp_in i 4) : 21 + i.toNatClampNeg < 42 ∧ lyC (21 + i.toNatClampNeg) = .inl (1, 4, 0) := by
  obtain ⟨j, hj, rfl⟩ := vp_in_of h (by decide)
  rw [nI_clamp (by omega)]
  rcases (show j = 0 ∨ j = 1 ∨ j = 2 ∨ j = 3 by omega) with h | h | h | h <;> subst h <;> exact ⟨by decide, rfl⟩
theorem ly_basis {i : Int32} (h : vp_in i 4) : 26 + i.toNatClampNeg < 42 ∧ lyC (26 + i.toNatClampNeg) = .inl (1, 4, 0) := by
  obtain ⟨j, hj, rfl⟩ := vp_in_of h (by decide)
  rw [nI_clamp (by omega)]
  rcases (show j = 0 ∨ j = 1 ∨ j = 2 ∨ j = 3 by omega) with h | h | h | h <;> subst h <;> exact ⟨by decide, rfl⟩
end
section
/-! java/lang/Math.abs -/
theorem d_J_abs_0 : decode me_J_abs.2.1 0 = .ok (.lload_n 0, 1) := by decide +kernel
theorem d_J_abs_1 : decode me_J_abs.2.1 1 = .ok (.lconst 0, 1) := by decide +kernel
theorem d_J_abs_2 : decode me_J_abs.2.1 2 = .ok (.lcmp, 1) := by decide +kernel
theorem d_J_abs_3 : decode me_J_abs.2.1 3 = .ok (.ifCond .ge 8, 3) := by decide +kernel
theorem d_J_abs_6 : decode me_J_abs.2.1 6 = .ok (.lload_n 0, 1) := by decide +kernel
theorem d_J_abs_7 : decode me_J_abs.2.1 7 = .ok (.lneg, 1) := by decide +kernel
theorem d_J_abs_8 : decode me_J_abs.2.1 8 = .ok (.goto 4, 3) := by decide +kernel
theorem d_J_abs_11 : decode me_J_abs.2.1 11 = .ok (.lload_n 0, 1) := by decide +kernel
theorem d_J_abs_12 : decode me_J_abs.2.1 12 = .ok (.lreturn, 1) := by decide +kernel
abbrev G_J_abs_0 (l : Launch) (v : gs_V) (n : Nat) (post : Int64 → gs_S → Prop) (σ : gs_S) (x0 : Int64) : Prop := gG l v lyC 42 me_J_abs n (qL v lyC 42 post) 0 [(0, .long x0)] [] σ
abbrev G_J_abs_12 (l : Launch) (v : gs_V) (n : Nat) (post : Int64 → gs_S → Prop) (σ : gs_S) (s0 : Int64) : Prop := gG l v lyC 42 me_J_abs n (qL v lyC 42 post) 12 [] [.long s0] σ
set_option maxRecDepth 20000 in
set_option maxHeartbeats 1000000 in
theorem T_J_abs_0 {l : Launch} {v : gs_V} {n : Nat} {post : Int64 → gs_S → Prop} {σ : gs_S} {x0 : Int64} (h : ((0 ≤ x0 → G_J_abs_12 l v n post σ x0) ∧ (¬ 0 ≤ x0 → G_J_abs_12 l v n post σ (-x0)))) : G_J_abs_0 l v n post σ x0 := by
  refine g_lload_n d_J_abs_0 0 rfl rfl ?_
  refine g_lconst d_J_abs_1 (x := 0) (by decide) ?_
  refine g_lcmp_ge (tgt := 11) d_J_abs_2 d_J_abs_3 rfl (fun hc => ?_) (fun hc => ?_)
  · have h := h.1 hc
    refine g_lload_n d_J_abs_11 0 rfl rfl ?_
    exact g_sub [] rfl h
  · have h := h.2 hc
    refine g_lload_n d_J_abs_6 0 rfl rfl ?_
    refine g_lneg d_J_abs_7 ?_
    refine g_goto (tgt := 12) d_J_abs_8 rfl ?_
    exact g_sub [] rfl h
set_option maxRecDepth 20000 in
set_option maxHeartbeats 1000000 in
theorem T_J_abs_12 {l : Launch} {v : gs_V} {n : Nat} {post : Int64 → gs_S → Prop} {σ : gs_S} {s0 : Int64} (h : post s0 σ) : G_J_abs_12 l v n post σ s0 := by
  exact g_lret d_J_abs_12 rfl h
theorem E_J_abs {l : Launch} {v : gs_V} {n : Nat} {post : Int64 → gs_S → Prop} {σ : gs_S} {x0 : Int64} (h : G_J_abs_0 l v n post σ x0) : gM l v lyC 42 me_J_abs (n + 1) [.long x0] σ (qL v lyC 42 post) := gM_of (by decide +kernel) (Nat.le_of_ble_eq_true rfl) h
/-! java/lang/Math.floorMod -/
theorem d_J_floorMod_0 : decode me_J_floorMod.2.1 0 = .ok (.iload_n 0, 1) := by decide +kernel
theorem d_J_floorMod_1 : decode me_J_floorMod.2.1 1 = .ok (.iload_n 1, 1) := by decide +kernel
theorem d_J_floorMod_2 : decode me_J_floorMod.2.1 2 = .ok (.irem, 1) := by decide +kernel
theorem d_J_floorMod_3 : decode me_J_floorMod.2.1 3 = .ok (.istore_n 2, 1) := by decide +kernel
theorem d_J_floorMod_4 : decode me_J_floorMod.2.1 4 = .ok (.iload_n 0, 1) := by decide +kernel
theorem d_J_floorMod_5 : decode me_J_floorMod.2.1 5 = .ok (.iload_n 1, 1) := by decide +kernel
theorem d_J_floorMod_6 : decode me_J_floorMod.2.1 6 = .ok (.ixor, 1) := by decide +kernel
theorem d_J_floorMod_7 : decode me_J_floorMod.2.1 7 = .ok (.ifCond .ge 11, 3) := by decide +kernel
theorem d_J_floorMod_10 : decode me_J_floorMod.2.1 10 = .ok (.iload_n 2, 1) := by decide +kernel
theorem d_J_floorMod_11 : decode me_J_floorMod.2.1 11 = .ok (.ifCond .eq 7, 3) := by decide +kernel
theorem d_J_floorMod_14 : decode me_J_floorMod.2.1 14 = .ok (.iload_n 2, 1) := by decide +kernel
theorem d_J_floorMod_15 : decode me_J_floorMod.2.1 15 = .ok (.iload_n 1, 1) := by decide +kernel
theorem d_J_floorMod_16 : decode me_J_floorMod.2.1 16 = .ok (.iadd, 1) := by decide +kernel
theorem d_J_floorMod_17 : decode me_J_floorMod.2.1 17 = .ok (.ireturn, 1) := by decide +kernel
theorem d_J_floorMod_18 : decode me_J_floorMod.2.1 18 = .ok (.iload_n 2, 1) := by decide +kernel
theorem d_J_floorMod_19 : decode me_J_floorMod.2.1 19 = .ok (.ireturn, 1) := by decide +kernel
abbrev G_J_floorMod_0 (l : Launch) (v : gs_V) (n : Nat) (post : Int32 → gs_S → Prop) (σ : gs_S) (x0 : Int32) (x1 : Int32) : Prop := gG l v lyC 42 me_J_floorMod n (qI v lyC 42 post) 0 [(0, .int x0), (1, .int x1)] [] σ
abbrev G_J_floorMod_18 (l : Launch) (v : gs_V) (n : Nat) (post : Int32 → gs_S → Prop) (σ : gs_S) (x2 : Int32) : Prop := gG l v lyC 42 me_J_floorMod n (qI v lyC 42 post) 18 [(2, .int x2)] [] σ
set_option maxRecDepth 20000 in
set_option maxHeartbeats 1000000 in
theorem T_J_floorMod_0 {l : Launch} {v : gs_V} {n : Nat} {post : Int32 → gs_S → Prop} {σ : gs_S} {x0 : Int32} {x1 : Int32} (h : ¬ x1 = 0 ∧ ((0 ≤ (x0 ^^^ x1) → G_J_floorMod_18 l v n post σ (jR x0 x1)) ∧ (¬ 0 ≤ (x0 ^^^ x1) → (((jR x0 x1) = 0 → G_J_floorMod_18 l v n post σ (jR x0 x1)) ∧ (¬ (jR x0 x1) = 0 → post ((jR x0 x1) + x1) σ))))) : G_J_floorMod_0 l v n post σ x0 x1 := by
  refine g_iload_n d_J_floorMod_0 0 rfl rfl ?_
  refine g_iload_n d_J_floorMod_1 1 rfl rfl ?_
  refine g_irem d_J_floorMod_2 h.1 ?_
  have h := h.2
  refine g_istore_n (L' := [(2, .int (jR x0 x1)), (0, .int x0), (1, .int x1)]) d_J_floorMod_3 rfl (by decide) rfl ?_
  refine g_iload_n d_J_floorMod_4 1 rfl rfl ?_
  refine g_iload_n d_J_floorMod_5 2 rfl rfl ?_
  refine g_ixor d_J_floorMod_6 ?_
  refine g_if_ge (tgt := 18) d_J_floorMod_7 rfl (fun hc => ?_) (fun hc => ?_)
  · have h := h.1 hc
    exact g_sub [0] rfl h
  · have h := h.2 hc
    refine g_iload_n d_J_floorMod_10 0 rfl rfl ?_
    refine g_if_eq (tgt := 18) d_J_floorMod_11 rfl (fun hc => ?_) (fun hc => ?_)
    · have h := h.1 hc
      exact g_sub [0] rfl h
    · have h := h.2 hc
      refine g_iload_n d_J_floorMod_14 0 rfl rfl ?_
      refine g_iload_n d_J_floorMod_15 2 rfl rfl ?_
      refine g_iadd d_J_floorMod_16 ?_
      exact g_iret d_J_floorMod_17 rfl h
set_option maxRecDepth 20000 in
set_option maxHeartbeats 1000000 in
theorem T_J_floorMod_18 {l : Launch} {v : gs_V} {n : Nat} {post : Int32 → gs_S → Prop} {σ : gs_S} {x2 : Int32} (h : post x2 σ) : G_J_floorMod_18 l v n post σ x2 := by
  refine g_iload_n d_J_floorMod_18 0 rfl rfl ?_
  exact g_iret d_J_floorMod_19 rfl h
theorem E_J_floorMod {l : Launch} {v : gs_V} {n : Nat} {post : Int32 → gs_S → Prop} {σ : gs_S} {x0 : Int32} {x1 : Int32} (h : G_J_floorMod_0 l v n post σ x0 x1) : gM l v lyC 42 me_J_floorMod (n + 1) [.int x0, .int x1] σ (qI v lyC 42 post) := gM_of (by decide +kernel) (Nat.le_of_ble_eq_true rfl) h
/-! java/lang/Math.max -/
theorem d_J_max_0 : decode me_J_max.2.1 0 = .ok (.iload_n 0, 1) := by decide +kernel
theorem d_J_max_1 : decode me_J_max.2.1 1 = .ok (.iload_n 1, 1) := by decide +kernel
theorem d_J_max_2 : decode me_J_max.2.1 2 = .ok (.if_icmp .lt 7, 3) := by decide +kernel
theorem d_J_max_5 : decode me_J_max.2.1 5 = .ok (.iload_n 0, 1) := by decide +kernel
theorem d_J_max_6 : decode me_J_max.2.1 6 = .ok (.goto 4, 3) := by decide +kernel
theorem d_J_max_9 : decode me_J_max.2.1 9 = .ok (.iload_n 1, 1) := by decide +kernel
theorem d_J_max_10 : decode me_J_max.2.1 10 = .ok (.ireturn, 1) := by decide +kernel
abbrev G_J_max_0 (l : Launch) (v : gs_V) (n : Nat) (post : Int32 → gs_S → Prop) (σ : gs_S) (x0 : Int32) (x1 : Int32) : Prop := gG l v lyC 42 me_J_max n (qI v lyC 42 post) 0 [(0, .int x0), (1, .int x1)] [] σ
abbrev G_J_max_10 (l : Launch) (v : gs_V) (n : Nat) (post : Int32 → gs_S → Prop) (σ : gs_S) (s0 : Int32) : Prop := gG l v lyC 42 me_J_max n (qI v lyC 42 post) 10 [] [.int s0] σ
set_option maxRecDepth 20000 in
set_option maxHeartbeats 1000000 in
theorem T_J_max_0 {l : Launch} {v : gs_V} {n : Nat} {post : Int32 → gs_S → Prop} {σ : gs_S} {x0 : Int32} {x1 : Int32} (h : ((x0 < x1 → G_J_max_10 l v n post σ x1) ∧ (¬ x0 < x1 → G_J_max_10 l v n post σ x0))) : G_J_max_0 l v n post σ x0 x1 := by
  refine g_iload_n d_J_max_0 0 rfl rfl ?_
  refine g_iload_n d_J_max_1 1 rfl rfl ?_
  refine g_icmp_lt (tgt := 9) d_J_max_2 rfl (fun hc => ?_) (fun hc => ?_)
  · have h := h.1 hc
    refine g_iload_n d_J_max_9 1 rfl rfl ?_
    exact g_sub [] rfl h
  · have h := h.2 hc
    refine g_iload_n d_J_max_5 0 rfl rfl ?_
    refine g_goto (tgt := 10) d_J_max_6 rfl ?_
    exact g_sub [] rfl h
set_option maxRecDepth 20000 in
set_option maxHeartbeats 1000000 in
theorem T_J_max_10 {l : Launch} {v : gs_V} {n : Nat} {post : Int32 → gs_S → Prop} {σ : gs_S} {s0 : Int32} (h : post s0 σ) : G_J_max_10 l v n post σ s0 := by
  exact g_iret d_J_max_10 rfl h
theorem E_J_max {l : Launch} {v : gs_V} {n : Nat} {post : Int32 → gs_S → Prop} {σ : gs_S} {x0 : Int32} {x1 : Int32} (h : G_J_max_0 l v n post σ x0 x1) : gM l v lyC 42 me_J_max (n + 1) [.int x0, .int x1] σ (qI v lyC 42 post) := gM_of (by decide +kernel) (Nat.le_of_ble_eq_true rfl) h
/-! java/lang/Math.min -/
theorem d_J_min_0 : decode me_J_min.2.1 0 = .ok (.iload_n 0, 1) := by decide +kernel
theorem d_J_min_1 : decode me_J_min.2.1 1 = .ok (.iload_n 1, 1) := by decide +kernel
theorem d_J_min_2 : decode me_J_min.2.1 2 = .ok (.if_icmp .gt 7, 3) := by decide +kernel
theorem d_J_min_5 : decode me_J_min.2.1 5 = .ok (.iload_n 0, 1) := by decide +kernel
theorem d_J_min_6 : decode me_J_min.2.1 6 = .ok (.goto 4, 3) := by decide +kernel
theorem d_J_min_9 : decode me_J_min.2.1 9 = .ok (.iload_n 1, 1) := by decide +kernel
theorem d_J_min_10 : decode me_J_min.2.1 10 = .ok (.ireturn, 1) := by decide +kernel
abbrev G_J_min_0 (l : Launch) (v : gs_V) (n : Nat) (post : Int32 → gs_S → Prop) (σ : gs_S) (x0 : Int32) (x1 : Int32) : Prop := gG l v lyC 42 me_J_min n (qI v lyC 42 post) 0 [(0, .int x0), (1, .int x1)] [] σ
abbrev G_J_min_10 (l : Launch) (v : gs_V) (n : Nat) (post : Int32 → gs_S → Prop) (σ : gs_S) (s0 : Int32) : Prop := gG l v lyC 42 me_J_min n (qI v lyC 42 post) 10 [] [.int s0] σ
set_option maxRecDepth 20000 in
set_option maxHeartbeats 1000000 in
theorem T_J_min_0 {l : Launch} {v : gs_V} {n : Nat} {post : Int32 → gs_S → Prop} {σ : gs_S} {x0 : Int32} {x1 : Int32} (h : ((x1 < x0 → G_J_min_10 l v n post σ x1) ∧ (¬ x1 < x0 → G_J_min_10 l v n post σ x0))) : G_J_min_0 l v n post σ x0 x1 := by
  refine g_iload_n d_J_min_0 0 rfl rfl ?_
  refine g_iload_n d_J_min_1 1 rfl rfl ?_
  refine g_icmp_gt (tgt := 9) d_J_min_2 rfl (fun hc => ?_) (fun hc => ?_)
  · have h := h.1 hc
    refine g_iload_n d_J_min_9 1 rfl rfl ?_
    exact g_sub [] rfl h
  · have h := h.2 hc
    refine g_iload_n d_J_min_5 0 rfl rfl ?_
    refine g_goto (tgt := 10) d_J_min_6 rfl ?_
    exact g_sub [] rfl h
set_option maxRecDepth 20000 in
set_option maxHeartbeats 1000000 in
theorem T_J_min_10 {l : Launch} {v : gs_V} {n : Nat} {post : Int32 → gs_S → Prop} {σ : gs_S} {s0 : Int32} (h : post s0 σ) : G_J_min_10 l v n post σ s0 := by
  exact g_iret d_J_min_10 rfl h
theorem E_J_min {l : Launch} {v : gs_V} {n : Nat} {post : Int32 → gs_S → Prop} {σ : gs_S} {x0 : Int32} {x1 : Int32} (h : G_J_min_0 l v n post σ x0 x1) : gM l v lyC 42 me_J_min (n + 1) [.int x0, .int x1] σ (qI v lyC 42 post) := gM_of (by decide +kernel) (Nat.le_of_ble_eq_true rfl) h
/-! java/util/Arrays.fill -/
theorem d_Y_fillI_0 : decode me_Y_fillI.2.1 0 = .ok (.iconst 0, 1) := by decide +kernel
theorem d_Y_fillI_1 : decode me_Y_fillI.2.1 1 = .ok (.istore_n 2, 1) := by decide +kernel
theorem d_Y_fillI_2 : decode me_Y_fillI.2.1 2 = .ok (.aload_n 0, 1) := by decide +kernel
theorem d_Y_fillI_3 : decode me_Y_fillI.2.1 3 = .ok (.arraylength, 1) := by decide +kernel
theorem d_Y_fillI_4 : decode me_Y_fillI.2.1 4 = .ok (.istore_n 3, 1) := by decide +kernel
theorem d_Y_fillI_5 : decode me_Y_fillI.2.1 5 = .ok (.iload_n 2, 1) := by decide +kernel
theorem d_Y_fillI_6 : decode me_Y_fillI.2.1 6 = .ok (.iload_n 3, 1) := by decide +kernel
theorem d_Y_fillI_7 : decode me_Y_fillI.2.1 7 = .ok (.if_icmp .ge 13, 3) := by decide +kernel
theorem d_Y_fillI_10 : decode me_Y_fillI.2.1 10 = .ok (.aload_n 0, 1) := by decide +kernel
theorem d_Y_fillI_11 : decode me_Y_fillI.2.1 11 = .ok (.iload_n 2, 1) := by decide +kernel
theorem d_Y_fillI_12 : decode me_Y_fillI.2.1 12 = .ok (.iload_n 1, 1) := by decide +kernel
theorem d_Y_fillI_13 : decode me_Y_fillI.2.1 13 = .ok (.iastore, 1) := by decide +kernel
theorem d_Y_fillI_14 : decode me_Y_fillI.2.1 14 = .ok (.iinc 2 1, 3) := by decide +kernel
theorem d_Y_fillI_17 : decode me_Y_fillI.2.1 17 = .ok (.goto (-12), 3) := by decide +kernel
theorem d_Y_fillI_20 : decode me_Y_fillI.2.1 20 = .ok (.return_, 1) := by decide +kernel
abbrev G_Y_fillI_0 (l : Launch) (v : gs_V) (n : Nat) (post : gs_S → Prop) (σ : gs_S) (x0 : Nat) (x1 : Int32) : Prop := gG l v lyC 42 me_Y_fillI n (qV v lyC 42 post) 0 [(0, .ref (v.2.2 x0)), (1, .int x1)] [] σ
abbrev G_Y_fillI_5 (l : Launch) (v : gs_V) (n : Nat) (post : gs_S → Prop) (σ : gs_S) (x0 : Nat) (x1 : Int32) (x2 : Int32) (x3 : Int32) : Prop := gG l v lyC 42 me_Y_fillI n (qV v lyC 42 post) 5 [(0, .ref (v.2.2 x0)), (1, .int x1), (2, .int x2), (3, .int x3)] [] σ
set_option maxRecDepth 20000 in
set_option maxHeartbeats 1000000 in
theorem T_Y_fillI_0 {l : Launch} {v : gs_V} {n : Nat} {post : gs_S → Prop} {σ : gs_S} {x0 : Nat} {x1 : Int32} {len : Nat} (hx0 : x0 < 42 ∧ lyC x0 = .inl (0, len, 0)) (h : G_Y_fillI_5 l v n post σ x0 x1 0 (Int32.ofNat len)) : G_Y_fillI_0 l v n post σ x0 x1 := by
  refine g_iconst d_Y_fillI_0 (x := 0) (by decide) ?_
  refine g_istore_n (L' := [(2, .int 0), (0, .ref (v.2.2 x0)), (1, .int x1)]) d_Y_fillI_1 rfl (by decide) rfl ?_
  refine g_aload_n d_Y_fillI_2 1 rfl rfl ?_
  refine g_alen (x := Int32.ofNat len) d_Y_fillI_3 hx0.1 hx0.2 (by decide) (by rfl) ?_
  refine g_istore_n (L' := [(3, .int (Int32.ofNat len)), (2, .int 0), (0, .ref (v.2.2 x0)), (1, .int x1)]) d_Y_fillI_4 rfl (by decide) rfl ?_
  exact g_sub [2, 3, 1, 0] rfl h
set_option maxRecDepth 20000 in
set_option maxHeartbeats 1000000 in
theorem T_Y_fillI_5 {l : Launch} {v : gs_V} {n : Nat} {post : gs_S → Prop} {σ : gs_S} {x0 : Nat} {x1 : Int32} {x2 : Int32} {x3 : Int32} {len : Nat} (hx0 : x0 < 42 ∧ lyC x0 = .inl (0, len, 0)) (h : ((x3 ≤ x2 → post σ) ∧ (¬ x3 ≤ x2 → vp_in x2 len ∧ G_Y_fillI_5 l v n post (gs_pI σ x0 x2.toNatClampNeg x1) x0 x1 (x2 + 1) x3))) : G_Y_fillI_5 l v n post σ x0 x1 x2 x3 := by
  refine g_iload_n d_Y_fillI_5 2 rfl rfl ?_
  refine g_iload_n d_Y_fillI_6 3 rfl rfl ?_
  refine g_icmp_ge (tgt := 20) d_Y_fillI_7 rfl (fun hc => ?_) (fun hc => ?_)
  · have h := h.1 hc
    exact g_vret d_Y_fillI_20 rfl h
  · have h := h.2 hc
    refine g_aload_n d_Y_fillI_10 0 rfl rfl ?_
    refine g_iload_n d_Y_fillI_11 2 rfl rfl ?_
    refine g_iload_n d_Y_fillI_12 1 rfl rfl ?_
    have hi1 := h.1
    have h := h.2
    refine g_iast d_Y_fillI_13 hx0.1 hx0.2 hi1 ?_
    refine g_iinc (L' := [(2, .int (x2 + 1)), (0, .ref (v.2.2 x0)), (1, .int x1), (3, .int x3)]) d_Y_fillI_14 2 rfl (by rfl) (by decide) rfl ?_
    refine g_goto (tgt := 5) d_Y_fillI_17 rfl ?_
    exact g_sub [1, 2, 0, 3] rfl h
theorem E_Y_fillI {l : Launch} {v : gs_V} {n : Nat} {post : gs_S → Prop} {σ : gs_S} {x0 : Nat} {x1 : Int32} (h : G_Y_fillI_0 l v n post σ x0 x1) : gM l v lyC 42 me_Y_fillI (n + 1) [.ref (v.2.2 x0), .int x1] σ (qV v lyC 42 post) := gM_of (by decide +kernel) (Nat.le_of_ble_eq_true rfl) h
/-! java/util/Arrays.fill -/
theorem d_Y_fillJ_0 : decode me_Y_fillJ.2.1 0 = .ok (.iconst 0, 1) := by decide +kernel
theorem d_Y_fillJ_1 : decode me_Y_fillJ.2.1 1 = .ok (.istore_n 3, 1) := by decide +kernel
theorem d_Y_fillJ_2 : decode me_Y_fillJ.2.1 2 = .ok (.aload_n 0, 1) := by decide +kernel
theorem d_Y_fillJ_3 : decode me_Y_fillJ.2.1 3 = .ok (.arraylength, 1) := by decide +kernel
theorem d_Y_fillJ_4 : decode me_Y_fillJ.2.1 4 = .ok (.istore 4, 2) := by decide +kernel
theorem d_Y_fillJ_6 : decode me_Y_fillJ.2.1 6 = .ok (.iload_n 3, 1) := by decide +kernel
theorem d_Y_fillJ_7 : decode me_Y_fillJ.2.1 7 = .ok (.iload 4, 2) := by decide +kernel
theorem d_Y_fillJ_9 : decode me_Y_fillJ.2.1 9 = .ok (.if_icmp .ge 13, 3) := by decide +kernel
theorem d_Y_fillJ_12 : decode me_Y_fillJ.2.1 12 = .ok (.aload_n 0, 1) := by decide +kernel
theorem d_Y_fillJ_13 : decode me_Y_fillJ.2.1 13 = .ok (.iload_n 3, 1) := by decide +kernel
theorem d_Y_fillJ_14 : decode me_Y_fillJ.2.1 14 = .ok (.lload_n 1, 1) := by decide +kernel
theorem d_Y_fillJ_15 : decode me_Y_fillJ.2.1 15 = .ok (.lastore, 1) := by decide +kernel
theorem d_Y_fillJ_16 : decode me_Y_fillJ.2.1 16 = .ok (.iinc 3 1, 3) := by decide +kernel
theorem d_Y_fillJ_19 : decode me_Y_fillJ.2.1 19 = .ok (.goto (-13), 3) := by decide +kernel
theorem d_Y_fillJ_22 : decode me_Y_fillJ.2.1 22 = .ok (.return_, 1) := by decide +kernel
abbrev G_Y_fillJ_0 (l : Launch) (v : gs_V) (n : Nat) (post : gs_S → Prop) (σ : gs_S) (x0 : Nat) (x1 : Int64) : Prop := gG l v lyC 42 me_Y_fillJ n (qV v lyC 42 post) 0 [(0, .ref (v.2.2 x0)), (1, .long x1)] [] σ
abbrev G_Y_fillJ_6 (l : Launch) (v : gs_V) (n : Nat) (post : gs_S → Prop) (σ : gs_S) (x0 : Nat) (x1 : Int64) (x3 : Int32) (x4 : Int32) : Prop := gG l v lyC 42 me_Y_fillJ n (qV v lyC 42 post) 6 [(0, .ref (v.2.2 x0)), (1, .long x1), (3, .int x3), (4, .int x4)] [] σ
set_option maxRecDepth 20000 in
set_option maxHeartbeats 1000000 in
theorem T_Y_fillJ_0 {l : Launch} {v : gs_V} {n : Nat} {post : gs_S → Prop} {σ : gs_S} {x0 : Nat} {x1 : Int64} {len : Nat} (hx0 : x0 < 42 ∧ lyC x0 = .inl (1, len, 0)) (h : G_Y_fillJ_6 l v n post σ x0 x1 0 (Int32.ofNat len)) : G_Y_fillJ_0 l v n post σ x0 x1 := by
  refine g_iconst d_Y_fillJ_0 (x := 0) (by decide) ?_
  refine g_istore_n (L' := [(3, .int 0), (0, .ref (v.2.2 x0)), (1, .long x1)]) d_Y_fillJ_1 rfl (by decide) rfl ?_
  refine g_aload_n d_Y_fillJ_2 1 rfl rfl ?_
  refine g_alen (x := Int32.ofNat len) d_Y_fillJ_3 hx0.1 hx0.2 (by decide) (by rfl) ?_
  refine g_istore (L' := [(4, .int (Int32.ofNat len)), (3, .int 0), (0, .ref (v.2.2 x0)), (1, .long x1)]) d_Y_fillJ_4 (by decide) rfl ?_
  exact g_sub [2, 3, 1, 0] rfl h
set_option maxRecDepth 20000 in
set_option maxHeartbeats 1000000 in
theorem T_Y_fillJ_6 {l : Launch} {v : gs_V} {n : Nat} {post : gs_S → Prop} {σ : gs_S} {x0 : Nat} {x1 : Int64} {x3 : Int32} {x4 : Int32} {len : Nat} (hx0 : x0 < 42 ∧ lyC x0 = .inl (1, len, 0)) (h : ((x4 ≤ x3 → post σ) ∧ (¬ x4 ≤ x3 → vp_in x3 len ∧ G_Y_fillJ_6 l v n post (gs_pL σ x0 x3.toNatClampNeg x1) x0 x1 (x3 + 1) x4))) : G_Y_fillJ_6 l v n post σ x0 x1 x3 x4 := by
  refine g_iload_n d_Y_fillJ_6 2 rfl rfl ?_
  refine g_iload d_Y_fillJ_7 3 rfl ?_
  refine g_icmp_ge (tgt := 22) d_Y_fillJ_9 rfl (fun hc => ?_) (fun hc => ?_)
  · have h := h.1 hc
    exact g_vret d_Y_fillJ_22 rfl h
  · have h := h.2 hc
    refine g_aload_n d_Y_fillJ_12 0 rfl rfl ?_
    refine g_iload_n d_Y_fillJ_13 2 rfl rfl ?_
    refine g_lload_n d_Y_fillJ_14 1 rfl rfl ?_
    have hi1 := h.1
    have h := h.2
    refine g_last d_Y_fillJ_15 hx0.1 hx0.2 hi1 ?_
    refine g_iinc (L' := [(3, .int (x3 + 1)), (0, .ref (v.2.2 x0)), (1, .long x1), (4, .int x4)]) d_Y_fillJ_16 2 rfl (by rfl) (by decide) rfl ?_
    refine g_goto (tgt := 6) d_Y_fillJ_19 rfl ?_
    exact g_sub [1, 2, 0, 3] rfl h
theorem E_Y_fillJ {l : Launch} {v : gs_V} {n : Nat} {post : gs_S → Prop} {σ : gs_S} {x0 : Nat} {x1 : Int64} (h : G_Y_fillJ_0 l v n post σ x0 x1) : gM l v lyC 42 me_Y_fillJ (n + 1) [.ref (v.2.2 x0), .long x1] σ (qV v lyC 42 post) := gM_of (by decide +kernel) (Nat.le_of_ble_eq_true rfl) h
/-! java/util/Arrays.fill -/
theorem d_Y_fillR_0 : decode me_Y_fillR.2.1 0 = .ok (.aload_n 0, 1) := by decide +kernel
theorem d_Y_fillR_1 : decode me_Y_fillR.2.1 1 = .ok (.arraylength, 1) := by decide +kernel
theorem d_Y_fillR_2 : decode me_Y_fillR.2.1 2 = .ok (.iload_n 1, 1) := by decide +kernel
theorem d_Y_fillR_3 : decode me_Y_fillR.2.1 3 = .ok (.iload_n 2, 1) := by decide +kernel
theorem d_Y_fillR_4 : decode me_Y_fillR.2.1 4 = .ok (.invokestatic 13, 3) := by decide +kernel
theorem d_Y_fillR_7 : decode me_Y_fillR.2.1 7 = .ok (.iload_n 1, 1) := by decide +kernel
theorem d_Y_fillR_8 : decode me_Y_fillR.2.1 8 = .ok (.istore 5, 2) := by decide +kernel
theorem d_Y_fillR_10 : decode me_Y_fillR.2.1 10 = .ok (.iload 5, 2) := by decide +kernel
theorem d_Y_fillR_12 : decode me_Y_fillR.2.1 12 = .ok (.iload_n 2, 1) := by decide +kernel
theorem d_Y_fillR_13 : decode me_Y_fillR.2.1 13 = .ok (.if_icmp .ge 14, 3) := by decide +kernel
theorem d_Y_fillR_16 : decode me_Y_fillR.2.1 16 = .ok (.aload_n 0, 1) := by decide +kernel
theorem d_Y_fillR_17 : decode me_Y_fillR.2.1 17 = .ok (.iload 5, 2) := by decide +kernel
theorem d_Y_fillR_19 : decode me_Y_fillR.2.1 19 = .ok (.lload_n 3, 1) := by decide +kernel
theorem d_Y_fillR_20 : decode me_Y_fillR.2.1 20 = .ok (.lastore, 1) := by decide +kernel
theorem d_Y_fillR_21 : decode me_Y_fillR.2.1 21 = .ok (.iinc 5 1, 3) := by decide +kernel
theorem d_Y_fillR_24 : decode me_Y_fillR.2.1 24 = .ok (.goto (-14), 3) := by decide +kernel
theorem d_Y_fillR_27 : decode me_Y_fillR.2.1 27 = .ok (.return_, 1) := by decide +kernel
abbrev G_Y_fillR_0 (l : Launch) (v : gs_V) (n : Nat) (post : gs_S → Prop) (σ : gs_S) (x0 : Nat) (x1 : Int32) (x2 : Int32) (x3 : Int64) : Prop := gG l v lyC 42 me_Y_fillR n (qV v lyC 42 post) 0 [(0, .ref (v.2.2 x0)), (1, .int x1), (2, .int x2), (3, .long x3)] [] σ
abbrev G_Y_fillR_10 (l : Launch) (v : gs_V) (n : Nat) (post : gs_S → Prop) (σ : gs_S) (x0 : Nat) (x2 : Int32) (x3 : Int64) (x5 : Int32) : Prop := gG l v lyC 42 me_Y_fillR n (qV v lyC 42 post) 10 [(0, .ref (v.2.2 x0)), (2, .int x2), (3, .long x3), (5, .int x5)] [] σ
set_option maxRecDepth 20000 in
set_option maxHeartbeats 1000000 in
theorem T_Y_fillR_0 {l : Launch} {v : gs_V} {n : Nat} {post : gs_S → Prop} {σ : gs_S} {x0 : Nat} {x1 : Int32} {x2 : Int32} {x3 : Int64} {len : Nat} (hx0 : x0 < 42 ∧ lyC x0 = .inl (1, len, 0)) (h : gM l v lyC 42 me_Y_rangeCheck n [.int (Int32.ofNat len), .int x1, .int x2] σ (qV v lyC 42 (fun σ1 => G_Y_fillR_10 l v n post σ1 x0 x2 x3 x1))) : G_Y_fillR_0 l v n post σ x0 x1 x2 x3 := by
  refine g_aload_n d_Y_fillR_0 0 rfl rfl ?_
  refine g_alen (x := Int32.ofNat len) d_Y_fillR_1 hx0.1 hx0.2 (by decide) (by rfl) ?_
  refine g_iload_n d_Y_fillR_2 1 rfl rfl ?_
  refine g_iload_n d_Y_fillR_3 2 rfl rfl ?_
  refine g_callSv (av := [.int (Int32.ofNat len), .int x1, .int x2]) (rest := []) d_Y_fillR_4 Y_Y_rangeCheck lk_Y_13 I_Y_rangeCheck rfl (Nat.le_of_ble_eq_true rfl) rfl h (fun σ1 h => ?_)
  refine g_iload_n d_Y_fillR_7 1 rfl rfl ?_
  refine g_istore (L' := [(5, .int x1), (0, .ref (v.2.2 x0)), (1, .int x1), (2, .int x2), (3, .long x3)]) d_Y_fillR_8 (by decide) rfl ?_
  exact g_sub [1, 3, 4, 0] rfl h
set_option maxRecDepth 20000 in
set_option maxHeartbeats 1000000 in
theorem T_Y_fillR_10 {l : Launch} {v : gs_V} {n : Nat} {post : gs_S → Prop} {σ : gs_S} {x0 : Nat} {x2 : Int32} {x3 : Int64} {x5 : Int32} {len : Nat} (hx0 : x0 < 42 ∧ lyC x0 = .inl (1, len, 0)) (h : ((x2 ≤ x5 → post σ) ∧ (¬ x2 ≤ x5 → vp_in x5 len ∧ G_Y_fillR_10 l v n post (gs_pL σ x0 x5.toNatClampNeg x3) x0 x2 x3 (x5 + 1)))) : G_Y_fillR_10 l v n post σ x0 x2 x3 x5 := by
  refine g_iload d_Y_fillR_10 3 rfl ?_
  refine g_iload_n d_Y_fillR_12 1 rfl rfl ?_
  refine g_icmp_ge (tgt := 27) d_Y_fillR_13 rfl (fun hc => ?_) (fun hc => ?_)
  · have h := h.1 hc
    exact g_vret d_Y_fillR_27 rfl h
  · have h := h.2 hc
    refine g_aload_n d_Y_fillR_16 0 rfl rfl ?_
    refine g_iload d_Y_fillR_17 3 rfl ?_
    refine g_lload_n d_Y_fillR_19 2 rfl rfl ?_
    have hi1 := h.1
    have h := h.2
    refine g_last d_Y_fillR_20 hx0.1 hx0.2 hi1 ?_
    refine g_iinc (L' := [(5, .int (x5 + 1)), (0, .ref (v.2.2 x0)), (2, .int x2), (3, .long x3)]) d_Y_fillR_21 3 rfl (by rfl) (by decide) rfl ?_
    refine g_goto (tgt := 10) d_Y_fillR_24 rfl ?_
    exact g_sub [1, 2, 3, 0] rfl h
theorem E_Y_fillR {l : Launch} {v : gs_V} {n : Nat} {post : gs_S → Prop} {σ : gs_S} {x0 : Nat} {x1 : Int32} {x2 : Int32} {x3 : Int64} (h : G_Y_fillR_0 l v n post σ x0 x1 x2 x3) : gM l v lyC 42 me_Y_fillR (n + 1) [.ref (v.2.2 x0), .int x1, .int x2, .long x3] σ (qV v lyC 42 post) := gM_of (by decide +kernel) (Nat.le_of_ble_eq_true rfl) h
/-! java/util/Arrays.rangeCheck -/
theorem d_Y_rangeCheck_0 : decode me_Y_rangeCheck.2.1 0 = .ok (.iload_n 1, 1) := by decide +kernel
theorem d_Y_rangeCheck_1 : decode me_Y_rangeCheck.2.1 1 = .ok (.iload_n 2, 1) := by decide +kernel
theorem d_Y_rangeCheck_2 : decode me_Y_rangeCheck.2.1 2 = .ok (.if_icmp .le 44, 3) := by decide +kernel
theorem d_Y_rangeCheck_46 : decode me_Y_rangeCheck.2.1 46 = .ok (.iload_n 1, 1) := by decide +kernel
theorem d_Y_rangeCheck_47 : decode me_Y_rangeCheck.2.1 47 = .ok (.ifCond .ge 12, 3) := by decide +kernel
theorem d_Y_rangeCheck_59 : decode me_Y_rangeCheck.2.1 59 = .ok (.iload_n 2, 1) := by decide +kernel
theorem d_Y_rangeCheck_60 : decode me_Y_rangeCheck.2.1 60 = .ok (.iload_n 0, 1) := by decide +kernel
theorem d_Y_rangeCheck_61 : decode me_Y_rangeCheck.2.1 61 = .ok (.if_icmp .le 12, 3) := by decide +kernel
theorem d_Y_rangeCheck_73 : decode me_Y_rangeCheck.2.1 73 = .ok (.return_, 1) := by decide +kernel
abbrev G_Y_rangeCheck_0 (l : Launch) (v : gs_V) (n : Nat) (post : gs_S → Prop) (σ : gs_S) (x0 : Int32) (x1 : Int32) (x2 : Int32) : Prop := gG l v lyC 42 me_Y_rangeCheck n (qV v lyC 42 post) 0 [(0, .int x0), (1, .int x1), (2, .int x2)] [] σ
set_option maxRecDepth 20000 in
set_option maxHeartbeats 1000000 in
theorem T_Y_rangeCheck_0 {l : Launch} {v : gs_V} {n : Nat} {post : gs_S → Prop} {σ : gs_S} {x0 : Int32} {x1 : Int32} {x2 : Int32} (h : ((x1 ≤ x2 → ((0 ≤ x1 → ((x2 ≤ x0 → post σ) ∧ (¬ x2 ≤ x0 → False))) ∧ (¬ 0 ≤ x1 → False))) ∧ (¬ x1 ≤ x2 → False))) : G_Y_rangeCheck_0 l v n post σ x0 x1 x2 := by
  refine g_iload_n d_Y_rangeCheck_0 1 rfl rfl ?_
  refine g_iload_n d_Y_rangeCheck_1 2 rfl rfl ?_
  refine g_icmp_le (tgt := 46) d_Y_rangeCheck_2 rfl (fun hc => ?_) (fun hc => ?_)
  · have h := h.1 hc
    refine g_iload_n d_Y_rangeCheck_46 1 rfl rfl ?_
    refine g_if_ge (tgt := 59) d_Y_rangeCheck_47 rfl (fun hc => ?_) (fun hc => ?_)
    · have h := h.1 hc
      refine g_iload_n d_Y_rangeCheck_59 2 rfl rfl ?_
      refine g_iload_n d_Y_rangeCheck_60 0 rfl rfl ?_
      refine g_icmp_le (tgt := 73) d_Y_rangeCheck_61 rfl (fun hc => ?_) (fun hc => ?_)
      · have h := h.1 hc
        exact g_vret d_Y_rangeCheck_73 rfl h
      · have h := h.2 hc
        exact h.elim
    · have h := h.2 hc
      exact h.elim
  · have h := h.2 hc
    exact h.elim
theorem E_Y_rangeCheck {l : Launch} {v : gs_V} {n : Nat} {post : gs_S → Prop} {σ : gs_S} {x0 : Int32} {x1 : Int32} {x2 : Int32} (h : G_Y_rangeCheck_0 l v n post σ x0 x1 x2) : gM l v lyC 42 me_Y_rangeCheck (n + 1) [.int x0, .int x1, .int x2] σ (qV v lyC 42 post) := gM_of (by decide +kernel) (Nat.le_of_ble_eq_true rfl) h
/-! LineRules$Rule.allNodes -/
theorem d_R_allNodes_0 : decode me_R_allNodes.2.1 0 = .ok (.aload_n 0, 1) := by decide +kernel
theorem d_R_allNodes_1 : decode me_R_allNodes.2.1 1 = .ok (.getfield 42, 3) := by decide +kernel
theorem d_R_allNodes_4 : decode me_R_allNodes.2.1 4 = .ok (.bipush 64, 2) := by decide +kernel
theorem d_R_allNodes_6 : decode me_R_allNodes.2.1 6 = .ok (.if_icmp .ne 9, 3) := by decide +kernel
theorem d_R_allNodes_9 : decode me_R_allNodes.2.1 9 = .ok (.ldc2_w 63, 3) := by decide +kernel
theorem d_R_allNodes_12 : decode me_R_allNodes.2.1 12 = .ok (.goto 11, 3) := by decide +kernel
theorem d_R_allNodes_15 : decode me_R_allNodes.2.1 15 = .ok (.lconst 1, 1) := by decide +kernel
theorem d_R_allNodes_16 : decode me_R_allNodes.2.1 16 = .ok (.aload_n 0, 1) := by decide +kernel
theorem d_R_allNodes_17 : decode me_R_allNodes.2.1 17 = .ok (.getfield 42, 3) := by decide +kernel
theorem d_R_allNodes_20 : decode me_R_allNodes.2.1 20 = .ok (.lshl, 1) := by decide +kernel
theorem d_R_allNodes_21 : decode me_R_allNodes.2.1 21 = .ok (.lconst 1, 1) := by decide +kernel
theorem d_R_allNodes_22 : decode me_R_allNodes.2.1 22 = .ok (.lsub, 1) := by decide +kernel
theorem d_R_allNodes_23 : decode me_R_allNodes.2.1 23 = .ok (.lreturn, 1) := by decide +kernel
abbrev G_R_allNodes_0 (l : Launch) (v : gs_V) (n : Nat) (post : Int64 → gs_S → Prop) (σ : gs_S) : Prop := gG l v lyC 42 me_R_allNodes n (qL v lyC 42 post) 0 [(0, .ref (v.2.2 4))] [] σ
abbrev G_R_allNodes_23 (l : Launch) (v : gs_V) (n : Nat) (post : Int64 → gs_S → Prop) (σ : gs_S) (s0 : Int64) : Prop := gG l v lyC 42 me_R_allNodes n (qL v lyC 42 post) 23 [] [.long s0] σ
set_option maxRecDepth 20000 in
set_option maxHeartbeats 1000000 in
theorem T_R_allNodes_0 {l : Launch} {v : gs_V} {n : Nat} {post : Int64 → gs_S → Prop} {σ : gs_S} (h : ((¬ (σ.1 4 9) = 64 → G_R_allNodes_23 l v n post σ ((jS 1 (σ.1 4 9)) - 1)) ∧ ((σ.1 4 9) = 64 → G_R_allNodes_23 l v n post σ ((-1))))) : G_R_allNodes_0 l v n post σ := by
  refine g_aload_n d_R_allNodes_0 0 rfl rfl ?_
  refine g_getV (x := .int (σ.1 4 9)) d_R_allNodes_1 fl_R_42 (by decide) rfl rfl rfl ?_
  refine g_bipush d_R_allNodes_4 (x := 64) (by decide) ?_
  refine g_icmp_ne (tgt := 15) d_R_allNodes_6 rfl (fun hc => ?_) (fun hc => ?_)
  · have h := h.1 hc
    refine g_lconst d_R_allNodes_15 (x := 1) (by decide) ?_
    refine g_aload_n d_R_allNodes_16 0 rfl rfl ?_
    refine g_getV (x := .int (σ.1 4 9)) d_R_allNodes_17 fl_R_42 (by decide) rfl rfl rfl ?_
    refine g_lshl d_R_allNodes_20 ?_
    refine g_lconst d_R_allNodes_21 (x := 1) (by decide) ?_
    refine g_lsub d_R_allNodes_22 ?_
    exact g_sub [] rfl h
  · have h := h.2 hc
    refine g_ldc2 d_R_allNodes_9 (x := (-1)) (gw_t3 (List.mem_of_getElem? (i := 90) rfl) rfl) ?_
    refine g_goto (tgt := 23) d_R_allNodes_12 rfl ?_
    exact g_sub [] rfl h
set_option maxRecDepth 20000 in
set_option maxHeartbeats 1000000 in
theorem T_R_allNodes_23 {l : Launch} {v : gs_V} {n : Nat} {post : Int64 → gs_S → Prop} {σ : gs_S} {s0 : Int64} (h : post s0 σ) : G_R_allNodes_23 l v n post σ s0 := by
  exact g_lret d_R_allNodes_23 rfl h
theorem E_R_allNodes {l : Launch} {v : gs_V} {n : Nat} {post : Int64 → gs_S → Prop} {σ : gs_S} (h : G_R_allNodes_0 l v n post σ) : gM l v lyC 42 me_R_allNodes (n + 1) [.ref (v.2.2 4)] σ (qL v lyC 42 post) := gM_of (by decide +kernel) (Nat.le_of_ble_eq_true rfl) h
/-! LineRules$Rule.behind -/
theorem d_R_behind_0 : decode me_R_behind.2.1 0 = .ok (.aload_n 0, 1) := by decide +kernel
theorem d_R_behind_1 : decode me_R_behind.2.1 1 = .ok (.getfield 15, 3) := by decide +kernel
theorem d_R_behind_4 : decode me_R_behind.2.1 4 = .ok (.iload_n 1, 1) := by decide +kernel
theorem d_R_behind_5 : decode me_R_behind.2.1 5 = .ok (.iconst 4, 1) := by decide +kernel
theorem d_R_behind_6 : decode me_R_behind.2.1 6 = .ok (.imul, 1) := by decide +kernel
theorem d_R_behind_7 : decode me_R_behind.2.1 7 = .ok (.iload_n 2, 1) := by decide +kernel
theorem d_R_behind_8 : decode me_R_behind.2.1 8 = .ok (.iadd, 1) := by decide +kernel
theorem d_R_behind_9 : decode me_R_behind.2.1 9 = .ok (.laload, 1) := by decide +kernel
theorem d_R_behind_10 : decode me_R_behind.2.1 10 = .ok (.lreturn, 1) := by decide +kernel
abbrev G_R_behind_0 (l : Launch) (v : gs_V) (n : Nat) (post : Int64 → gs_S → Prop) (σ : gs_S) (x1 : Int32) (x2 : Int32) : Prop := gG l v lyC 42 me_R_behind n (qL v lyC 42 post) 0 [(0, .ref (v.2.2 4)), (1, .int x1), (2, .int x2)] [] σ
set_option maxRecDepth 20000 in
set_option maxHeartbeats 1000000 in
theorem T_R_behind_0 {l : Launch} {v : gs_V} {n : Nat} {post : Int64 → gs_S → Prop} {σ : gs_S} {x1 : Int32} {x2 : Int32} (h : vp_in ((x1 * 4) + x2) 256 ∧ post (σ.2.1 6 (((x1 * 4) + x2).toNatClampNeg)) σ) : G_R_behind_0 l v n post σ x1 x2 := by
  refine g_aload_n d_R_behind_0 0 rfl rfl ?_
  refine g_getV (x := .ref (v.2.2 6)) d_R_behind_1 fl_R_15 (by decide) rfl rfl rfl ?_
  refine g_iload_n d_R_behind_4 1 rfl rfl ?_
  refine g_iconst d_R_behind_5 (x := 4) (by decide) ?_
  refine g_imul d_R_behind_6 ?_
  refine g_iload_n d_R_behind_7 2 rfl rfl ?_
  refine g_iadd d_R_behind_8 ?_
  have hi1 := h.1
  have h := h.2
  refine g_lald (x := σ.2.1 6 (((x1 * 4) + x2).toNatClampNeg)) d_R_behind_9 (by decide) rfl hi1 rfl ?_
  exact g_lret d_R_behind_10 rfl h
theorem E_R_behind {l : Launch} {v : gs_V} {n : Nat} {post : Int64 → gs_S → Prop} {σ : gs_S} {x1 : Int32} {x2 : Int32} (h : G_R_behind_0 l v n post σ x1 x2) : gM l v lyC 42 me_R_behind (n + 1) [.ref (v.2.2 4), .int x1, .int x2] σ (qL v lyC 42 post) := gM_of (by decide +kernel) (Nat.le_of_ble_eq_true rfl) h
/-! LineRules$Rule.complete -/
theorem d_R_complete_0 : decode me_R_complete.2.1 0 = .ok (.aload_n 0, 1) := by decide +kernel
theorem d_R_complete_1 : decode me_R_complete.2.1 1 = .ok (.getfield 15, 3) := by decide +kernel
theorem d_R_complete_4 : decode me_R_complete.2.1 4 = .ok (.lconst 0, 1) := by decide +kernel
theorem d_R_complete_5 : decode me_R_complete.2.1 5 = .ok (.invokestatic 49, 3) := by decide +kernel
theorem d_R_complete_8 : decode me_R_complete.2.1 8 = .ok (.iconst 0, 1) := by decide +kernel
theorem d_R_complete_9 : decode me_R_complete.2.1 9 = .ok (.istore_n 1, 1) := by decide +kernel
theorem d_R_complete_10 : decode me_R_complete.2.1 10 = .ok (.iconst 0, 1) := by decide +kernel
theorem d_R_complete_11 : decode me_R_complete.2.1 11 = .ok (.istore_n 2, 1) := by decide +kernel
theorem d_R_complete_12 : decode me_R_complete.2.1 12 = .ok (.iload_n 2, 1) := by decide +kernel
theorem d_R_complete_13 : decode me_R_complete.2.1 13 = .ok (.aload_n 0, 1) := by decide +kernel
theorem d_R_complete_14 : decode me_R_complete.2.1 14 = .ok (.getfield 32, 3) := by decide +kernel
theorem d_R_complete_17 : decode me_R_complete.2.1 17 = .ok (.if_icmp .ge 51, 3) := by decide +kernel
theorem d_R_complete_20 : decode me_R_complete.2.1 20 = .ok (.aload_n 0, 1) := by decide +kernel
theorem d_R_complete_21 : decode me_R_complete.2.1 21 = .ok (.getfield 25, 3) := by decide +kernel
theorem d_R_complete_24 : decode me_R_complete.2.1 24 = .ok (.iload_n 2, 1) := by decide +kernel
theorem d_R_complete_25 : decode me_R_complete.2.1 25 = .ok (.iload_n 1, 1) := by decide +kernel
theorem d_R_complete_26 : decode me_R_complete.2.1 26 = .ok (.iastore, 1) := by decide +kernel
theorem d_R_complete_27 : decode me_R_complete.2.1 27 = .ok (.iconst 0, 1) := by decide +kernel
theorem d_R_complete_28 : decode me_R_complete.2.1 28 = .ok (.istore_n 3, 1) := by decide +kernel
theorem d_R_complete_29 : decode me_R_complete.2.1 29 = .ok (.iload_n 3, 1) := by decide +kernel
theorem d_R_complete_30 : decode me_R_complete.2.1 30 = .ok (.aload_n 0, 1) := by decide +kernel
theorem d_R_complete_31 : decode me_R_complete.2.1 31 = .ok (.getfield 39, 3) := by decide +kernel
theorem d_R_complete_34 : decode me_R_complete.2.1 34 = .ok (.if_icmp .ge 28, 3) := by decide +kernel
theorem d_R_complete_37 : decode me_R_complete.2.1 37 = .ok (.aload_n 0, 1) := by decide +kernel
theorem d_R_complete_38 : decode me_R_complete.2.1 38 = .ok (.getfield 9, 3) := by decide +kernel
theorem d_R_complete_41 : decode me_R_complete.2.1 41 = .ok (.iload_n 3, 1) := by decide +kernel
theorem d_R_complete_42 : decode me_R_complete.2.1 42 = .ok (.iaload, 1) := by decide +kernel
theorem d_R_complete_43 : decode me_R_complete.2.1 43 = .ok (.iload_n 2, 1) := by decide +kernel
theorem d_R_complete_44 : decode me_R_complete.2.1 44 = .ok (.if_icmp .ne 12, 3) := by decide +kernel
theorem d_R_complete_47 : decode me_R_complete.2.1 47 = .ok (.aload_n 0, 1) := by decide +kernel
theorem d_R_complete_48 : decode me_R_complete.2.1 48 = .ok (.iload_n 3, 1) := by decide +kernel
theorem d_R_complete_49 : decode me_R_complete.2.1 49 = .ok (.iload_n 1, 1) := by decide +kernel
theorem d_R_complete_50 : decode me_R_complete.2.1 50 = .ok (.invokevirtual 55, 3) := by decide +kernel
theorem d_R_complete_53 : decode me_R_complete.2.1 53 = .ok (.iinc 1 1, 3) := by decide +kernel
theorem d_R_complete_56 : decode me_R_complete.2.1 56 = .ok (.iinc 3 1, 3) := by decide +kernel
theorem d_R_complete_59 : decode me_R_complete.2.1 59 = .ok (.goto (-30), 3) := by decide +kernel
theorem d_R_complete_62 : decode me_R_complete.2.1 62 = .ok (.iinc 2 1, 3) := by decide +kernel
theorem d_R_complete_65 : decode me_R_complete.2.1 65 = .ok (.goto (-53), 3) := by decide +kernel
theorem d_R_complete_68 : decode me_R_complete.2.1 68 = .ok (.aload_n 0, 1) := by decide +kernel
theorem d_R_complete_69 : decode me_R_complete.2.1 69 = .ok (.getfield 25, 3) := by decide +kernel
theorem d_R_complete_72 : decode me_R_complete.2.1 72 = .ok (.aload_n 0, 1) := by decide +kernel
theorem d_R_complete_73 : decode me_R_complete.2.1 73 = .ok (.getfield 32, 3) := by decide +kernel
theorem d_R_complete_76 : decode me_R_complete.2.1 76 = .ok (.iload_n 1, 1) := by decide +kernel
theorem d_R_complete_77 : decode me_R_complete.2.1 77 = .ok (.iastore, 1) := by decide +kernel
theorem d_R_complete_78 : decode me_R_complete.2.1 78 = .ok (.aload_n 0, 1) := by decide +kernel
theorem d_R_complete_79 : decode me_R_complete.2.1 79 = .ok (.iconst 1, 1) := by decide +kernel
theorem d_R_complete_80 : decode me_R_complete.2.1 80 = .ok (.putfield 28, 3) := by decide +kernel
theorem d_R_complete_83 : decode me_R_complete.2.1 83 = .ok (.return_, 1) := by decide +kernel
abbrev G_R_complete_0 (l : Launch) (v : gs_V) (n : Nat) (post : gs_S → Prop) (σ : gs_S) : Prop := gG l v lyC 42 me_R_complete n (qV v lyC 42 post) 0 [(0, .ref (v.2.2 4))] [] σ
abbrev G_R_complete_12 (l : Launch) (v : gs_V) (n : Nat) (post : gs_S → Prop) (σ : gs_S) (x1 : Int32) (x2 : Int32) : Prop := gG l v lyC 42 me_R_complete n (qV v lyC 42 post) 12 [(0, .ref (v.2.2 4)), (1, .int x1), (2, .int x2)] [] σ
abbrev G_R_complete_29 (l : Launch) (v : gs_V) (n : Nat) (post : gs_S → Prop) (σ : gs_S) (x1 : Int32) (x2 : Int32) (x3 : Int32) : Prop := gG l v lyC 42 me_R_complete n (qV v lyC 42 post) 29 [(0, .ref (v.2.2 4)), (1, .int x1), (2, .int x2), (3, .int x3)] [] σ
abbrev G_R_complete_56 (l : Launch) (v : gs_V) (n : Nat) (post : gs_S → Prop) (σ : gs_S) (x1 : Int32) (x2 : Int32) (x3 : Int32) : Prop := gG l v lyC 42 me_R_complete n (qV v lyC 42 post) 56 [(0, .ref (v.2.2 4)), (1, .int x1), (2, .int x2), (3, .int x3)] [] σ
set_option maxRecDepth 20000 in
set_option maxHeartbeats 1000000 in
theorem T_R_complete_0 {l : Launch} {v : gs_V} {n : Nat} {post : gs_S → Prop} {σ : gs_S} (h : gM l v lyC 42 me_Y_fillJ n [.ref (v.2.2 6), .long 0] σ (qV v lyC 42 (fun σ1 => G_R_complete_12 l v n post σ1 0 0))) : G_R_complete_0 l v n post σ := by
  refine g_aload_n d_R_complete_0 0 rfl rfl ?_
  refine g_getV (x := .ref (v.2.2 6)) d_R_complete_1 fl_R_15 (by decide) rfl rfl rfl ?_
  refine g_lconst d_R_complete_4 (x := 0) (by decide) ?_
  refine g_callSv (av := [.ref (v.2.2 6), .long 0]) (rest := []) d_R_complete_5 Y_Y_fillJ lk_R_49 I_Y_fillJ rfl (Nat.le_of_ble_eq_true rfl) rfl h (fun σ1 h => ?_)
  refine g_iconst d_R_complete_8 (x := 0) (by decide) ?_
  refine g_istore_n (L' := [(1, .int 0), (0, .ref (v.2.2 4))]) d_R_complete_9 rfl (by decide) rfl ?_
  refine g_iconst d_R_complete_10 (x := 0) (by decide) ?_
  refine g_istore_n (L' := [(2, .int 0), (1, .int 0), (0, .ref (v.2.2 4))]) d_R_complete_11 rfl (by decide) rfl ?_
  exact g_sub [2, 1, 0] rfl h
set_option maxRecDepth 20000 in
set_option maxHeartbeats 1000000 in
theorem T_R_complete_12 {l : Launch} {v : gs_V} {n : Nat} {post : gs_S → Prop} {σ : gs_S} {x1 : Int32} {x2 : Int32} (h : (((σ.1 4 6) ≤ x2 → vp_in (σ.1 4 6) 5 ∧ post (gs_pI (gs_pI σ 9 ((σ.1 4 6).toNatClampNeg) x1) 4 5 1)) ∧ (¬ (σ.1 4 6) ≤ x2 → vp_in x2 5 ∧ G_R_complete_29 l v n post (gs_pI σ 9 x2.toNatClampNeg x1) x1 x2 0))) : G_R_complete_12 l v n post σ x1 x2 := by
  refine g_iload_n d_R_complete_12 2 rfl rfl ?_
  refine g_aload_n d_R_complete_13 0 rfl rfl ?_
  refine g_getV (x := .int (σ.1 4 6)) d_R_complete_14 fl_R_32 (by decide) rfl rfl rfl ?_
  refine g_icmp_ge (tgt := 68) d_R_complete_17 rfl (fun hc => ?_) (fun hc => ?_)
  · have h := h.1 hc
    refine g_aload_n d_R_complete_68 0 rfl rfl ?_
    refine g_getV (x := .ref (v.2.2 9)) d_R_complete_69 fl_R_25 (by decide) rfl rfl rfl ?_
    refine g_aload_n d_R_complete_72 0 rfl rfl ?_
    refine g_getV (x := .int (σ.1 4 6)) d_R_complete_73 fl_R_32 (by decide) rfl rfl rfl ?_
    refine g_iload_n d_R_complete_76 1 rfl rfl ?_
    have hi1 := h.1
    have h := h.2
    refine g_iast d_R_complete_77 (by decide) rfl hi1 ?_
    refine g_aload_n d_R_complete_78 0 rfl rfl ?_
    refine g_iconst d_R_complete_79 (x := 1) (by decide) ?_
    refine g_putI d_R_complete_80 fp_R_28 (by decide) rfl rfl ⟨rfl, rfl⟩ ?_
    exact g_vret d_R_complete_83 rfl h
  · have h := h.2 hc
    refine g_aload_n d_R_complete_20 0 rfl rfl ?_
    refine g_getV (x := .ref (v.2.2 9)) d_R_complete_21 fl_R_25 (by decide) rfl rfl rfl ?_
    refine g_iload_n d_R_complete_24 2 rfl rfl ?_
    refine g_iload_n d_R_complete_25 1 rfl rfl ?_
    have hi2 := h.1
    have h := h.2
    refine g_iast d_R_complete_26 (by decide) rfl hi2 ?_
    refine g_iconst d_R_complete_27 (x := 0) (by decide) ?_
    refine g_istore_n (L' := [(3, .int 0), (0, .ref (v.2.2 4)), (1, .int x1), (2, .int x2)]) d_R_complete_28 rfl (by decide) rfl ?_
    exact g_sub [1, 2, 3, 0] rfl h
set_option maxRecDepth 20000 in
set_option maxHeartbeats 1000000 in
theorem T_R_complete_29 {l : Launch} {v : gs_V} {n : Nat} {post : gs_S → Prop} {σ : gs_S} {x1 : Int32} {x2 : Int32} {x3 : Int32} (h : (((σ.1 4 8) ≤ x3 → G_R_complete_12 l v n post σ x1 (x2 + 1)) ∧ (¬ (σ.1 4 8) ≤ x3 → vp_in x3 256 ∧ ((¬ (σ.1 5 x3.toNatClampNeg) = x2 → G_R_complete_56 l v n post σ x1 x2 x3) ∧ ((σ.1 5 x3.toNatClampNeg) = x2 → gM l v lyC 42 me_R_enter n [.ref (v.2.2 4), .int x3, .int x1] σ (qV v lyC 42 (fun σ2 => G_R_complete_56 l v n post σ2 (x1 + 1) x2 x3))))))) : G_R_complete_29 l v n post σ x1 x2 x3 := by
  refine g_iload_n d_R_complete_29 3 rfl rfl ?_
  refine g_aload_n d_R_complete_30 0 rfl rfl ?_
  refine g_getV (x := .int (σ.1 4 8)) d_R_complete_31 fl_R_39 (by decide) rfl rfl rfl ?_
  refine g_icmp_ge (tgt := 62) d_R_complete_34 rfl (fun hc => ?_) (fun hc => ?_)
  · have h := h.1 hc
    refine g_iinc (L' := [(2, .int (x2 + 1)), (0, .ref (v.2.2 4)), (1, .int x1), (3, .int x3)]) d_R_complete_62 2 rfl (by rfl) (by decide) rfl ?_
    refine g_goto (tgt := 12) d_R_complete_65 rfl ?_
    exact g_sub [1, 2, 0] rfl h
  · have h := h.2 hc
    refine g_aload_n d_R_complete_37 0 rfl rfl ?_
    refine g_getV (x := .ref (v.2.2 5)) d_R_complete_38 fl_R_9 (by decide) rfl rfl rfl ?_
    refine g_iload_n d_R_complete_41 3 rfl rfl ?_
    have hi1 := h.1
    have h := h.2
    refine g_iald (x := σ.1 5 x3.toNatClampNeg) d_R_complete_42 (by decide) rfl hi1 rfl ?_
    refine g_iload_n d_R_complete_43 2 rfl rfl ?_
    refine g_icmp_ne (tgt := 56) d_R_complete_44 rfl (fun hc => ?_) (fun hc => ?_)
    · have h := h.1 hc
      exact h
    · have h := h.2 hc
      refine g_aload_n d_R_complete_47 0 rfl rfl ?_
      refine g_iload_n d_R_complete_48 3 rfl rfl ?_
      refine g_iload_n d_R_complete_49 1 rfl rfl ?_
      refine g_callVv (av := [.int x3, .int x1]) (rest := []) d_R_complete_50 Y_R_enter lk_R_55 (by decide) rfl rfl I_R_enter rfl (Nat.le_of_ble_eq_true rfl) rfl h (fun σ2 h => ?_)
      refine g_iinc (L' := [(1, .int (x1 + 1)), (0, .ref (v.2.2 4)), (2, .int x2), (3, .int x3)]) d_R_complete_53 1 rfl (by rfl) (by decide) rfl ?_
      exact g_sub [1, 0, 2, 3] rfl h
set_option maxRecDepth 20000 in
set_option maxHeartbeats 1000000 in
theorem T_R_complete_56 {l : Launch} {v : gs_V} {n : Nat} {post : gs_S → Prop} {σ : gs_S} {x1 : Int32} {x2 : Int32} {x3 : Int32} (h : G_R_complete_29 l v n post σ x1 x2 (x3 + 1)) : G_R_complete_56 l v n post σ x1 x2 x3 := by
  refine g_iinc (L' := [(3, .int (x3 + 1)), (0, .ref (v.2.2 4)), (1, .int x1), (2, .int x2)]) d_R_complete_56 3 rfl (by rfl) (by decide) rfl ?_
  refine g_goto (tgt := 29) d_R_complete_59 rfl ?_
  exact g_sub [1, 2, 3, 0] rfl h
theorem E_R_complete {l : Launch} {v : gs_V} {n : Nat} {post : gs_S → Prop} {σ : gs_S} (h : G_R_complete_0 l v n post σ) : gM l v lyC 42 me_R_complete (n + 1) [.ref (v.2.2 4)] σ (qV v lyC 42 post) := gM_of (by decide +kernel) (Nat.le_of_ble_eq_true rfl) h
/-! LineRules$Rule.end -/
theorem d_R_end_0 : decode me_R_end.2.1 0 = .ok (.iload_n 1, 1) := by decide +kernel
theorem d_R_end_1 : decode me_R_end.2.1 1 = .ok (.aload_n 0, 1) := by decide +kernel
theorem d_R_end_2 : decode me_R_end.2.1 2 = .ok (.getfield 42, 3) := by decide +kernel
theorem d_R_end_5 : decode me_R_end.2.1 5 = .ok (.irem, 1) := by decide +kernel
theorem d_R_end_6 : decode me_R_end.2.1 6 = .ok (.ireturn, 1) := by decide +kernel
abbrev G_R_end_0 (l : Launch) (v : gs_V) (n : Nat) (post : Int32 → gs_S → Prop) (σ : gs_S) (x1 : Int32) : Prop := gG l v lyC 42 me_R_end n (qI v lyC 42 post) 0 [(0, .ref (v.2.2 4)), (1, .int x1)] [] σ
set_option maxRecDepth 20000 in
set_option maxHeartbeats 1000000 in
theorem T_R_end_0 {l : Launch} {v : gs_V} {n : Nat} {post : Int32 → gs_S → Prop} {σ : gs_S} {x1 : Int32} (h : ¬ (σ.1 4 9) = 0 ∧ post (jR x1 (σ.1 4 9)) σ) : G_R_end_0 l v n post σ x1 := by
  refine g_iload_n d_R_end_0 1 rfl rfl ?_
  refine g_aload_n d_R_end_1 0 rfl rfl ?_
  refine g_getV (x := .int (σ.1 4 9)) d_R_end_2 fl_R_42 (by decide) rfl rfl rfl ?_
  refine g_irem d_R_end_5 h.1 ?_
  have h := h.2
  exact g_iret d_R_end_6 rfl h
theorem E_R_end {l : Launch} {v : gs_V} {n : Nat} {post : Int32 → gs_S → Prop} {σ : gs_S} {x1 : Int32} (h : G_R_end_0 l v n post σ x1) : gM l v lyC 42 me_R_end (n + 1) [.ref (v.2.2 4), .int x1] σ (qI v lyC 42 post) := gM_of (by decide +kernel) (Nat.le_of_ble_eq_true rfl) h
/-! LineRules$Rule.enter -/
theorem d_R_enter_0 : decode me_R_enter.2.1 0 = .ok (.aload_n 0, 1) := by decide +kernel
theorem d_R_enter_1 : decode me_R_enter.2.1 1 = .ok (.getfield 19, 3) := by decide +kernel
theorem d_R_enter_4 : decode me_R_enter.2.1 4 = .ok (.iload_n 2, 1) := by decide +kernel
theorem d_R_enter_5 : decode me_R_enter.2.1 5 = .ok (.iload_n 1, 1) := by decide +kernel
theorem d_R_enter_6 : decode me_R_enter.2.1 6 = .ok (.aload_n 0, 1) := by decide +kernel
theorem d_R_enter_7 : decode me_R_enter.2.1 7 = .ok (.getfield 32, 3) := by decide +kernel
theorem d_R_enter_10 : decode me_R_enter.2.1 10 = .ok (.idiv, 1) := by decide +kernel
theorem d_R_enter_11 : decode me_R_enter.2.1 11 = .ok (.iastore, 1) := by decide +kernel
theorem d_R_enter_12 : decode me_R_enter.2.1 12 = .ok (.aload_n 0, 1) := by decide +kernel
theorem d_R_enter_13 : decode me_R_enter.2.1 13 = .ok (.getfield 22, 3) := by decide +kernel
theorem d_R_enter_16 : decode me_R_enter.2.1 16 = .ok (.iload_n 2, 1) := by decide +kernel
theorem d_R_enter_17 : decode me_R_enter.2.1 17 = .ok (.aload_n 0, 1) := by decide +kernel
theorem d_R_enter_18 : decode me_R_enter.2.1 18 = .ok (.iload_n 1, 1) := by decide +kernel
theorem d_R_enter_19 : decode me_R_enter.2.1 19 = .ok (.invokevirtual 59, 3) := by decide +kernel
theorem d_R_enter_22 : decode me_R_enter.2.1 22 = .ok (.iastore, 1) := by decide +kernel
theorem d_R_enter_23 : decode me_R_enter.2.1 23 = .ok (.aload_n 0, 1) := by decide +kernel
theorem d_R_enter_24 : decode me_R_enter.2.1 24 = .ok (.getfield 15, 3) := by decide +kernel
theorem d_R_enter_27 : decode me_R_enter.2.1 27 = .ok (.aload_n 0, 1) := by decide +kernel
theorem d_R_enter_28 : decode me_R_enter.2.1 28 = .ok (.getfield 19, 3) := by decide +kernel
theorem d_R_enter_31 : decode me_R_enter.2.1 31 = .ok (.iload_n 2, 1) := by decide +kernel
theorem d_R_enter_32 : decode me_R_enter.2.1 32 = .ok (.iaload, 1) := by decide +kernel
theorem d_R_enter_33 : decode me_R_enter.2.1 33 = .ok (.iconst 4, 1) := by decide +kernel
theorem d_R_enter_34 : decode me_R_enter.2.1 34 = .ok (.imul, 1) := by decide +kernel
theorem d_R_enter_35 : decode me_R_enter.2.1 35 = .ok (.aload_n 0, 1) := by decide +kernel
theorem d_R_enter_36 : decode me_R_enter.2.1 36 = .ok (.getfield 9, 3) := by decide +kernel
theorem d_R_enter_39 : decode me_R_enter.2.1 39 = .ok (.iload_n 1, 1) := by decide +kernel
theorem d_R_enter_40 : decode me_R_enter.2.1 40 = .ok (.iaload, 1) := by decide +kernel
theorem d_R_enter_41 : decode me_R_enter.2.1 41 = .ok (.iadd, 1) := by decide +kernel
theorem d_R_enter_42 : decode me_R_enter.2.1 42 = .ok (.dup2, 1) := by decide +kernel
theorem d_R_enter_43 : decode me_R_enter.2.1 43 = .ok (.laload, 1) := by decide +kernel
theorem d_R_enter_44 : decode me_R_enter.2.1 44 = .ok (.lconst 1, 1) := by decide +kernel
theorem d_R_enter_45 : decode me_R_enter.2.1 45 = .ok (.aload_n 0, 1) := by decide +kernel
theorem d_R_enter_46 : decode me_R_enter.2.1 46 = .ok (.getfield 22, 3) := by decide +kernel
theorem d_R_enter_49 : decode me_R_enter.2.1 49 = .ok (.iload_n 2, 1) := by decide +kernel
theorem d_R_enter_50 : decode me_R_enter.2.1 50 = .ok (.iaload, 1) := by decide +kernel
theorem d_R_enter_51 : decode me_R_enter.2.1 51 = .ok (.lshl, 1) := by decide +kernel
theorem d_R_enter_52 : decode me_R_enter.2.1 52 = .ok (.lor, 1) := by decide +kernel
theorem d_R_enter_53 : decode me_R_enter.2.1 53 = .ok (.lastore, 1) := by decide +kernel
theorem d_R_enter_54 : decode me_R_enter.2.1 54 = .ok (.return_, 1) := by decide +kernel
abbrev G_R_enter_0 (l : Launch) (v : gs_V) (n : Nat) (post : gs_S → Prop) (σ : gs_S) (x1 : Int32) (x2 : Int32) : Prop := gG l v lyC 42 me_R_enter n (qV v lyC 42 post) 0 [(0, .ref (v.2.2 4)), (1, .int x1), (2, .int x2)] [] σ
set_option maxRecDepth 20000 in
set_option maxHeartbeats 1000000 in
theorem T_R_enter_0 {l : Launch} {v : gs_V} {n : Nat} {post : gs_S → Prop} {σ : gs_S} {x1 : Int32} {x2 : Int32} (h : ¬ (σ.1 4 6) = 0 ∧ vp_in x2 256 ∧ gM l v lyC 42 me_R_end n [.ref (v.2.2 4), .int x1] (gs_pI σ 7 x2.toNatClampNeg (x1 / (σ.1 4 6))) (qI v lyC 42 (fun r2 σ2 => vp_in x2 256 ∧ vp_in x2 256 ∧ vp_in x1 256 ∧ vp_in (((σ2.1 7 x2.toNatClampNeg) * 4) + (σ2.1 5 x1.toNatClampNeg)) 256 ∧ vp_in x2 256 ∧ vp_in (((σ2.1 7 x2.toNatClampNeg) * 4) + (σ2.1 5 x1.toNatClampNeg)) 256 ∧ post (gs_pL (gs_pI σ2 8 x2.toNatClampNeg r2) 6 ((((σ2.1 7 x2.toNatClampNeg) * 4) + (σ2.1 5 x1.toNatClampNeg)).toNatClampNeg) ((σ2.2.1 6 ((((σ2.1 7 x2.toNatClampNeg) * 4) + (σ2.1 5 x1.toNatClampNeg)).toNatClampNeg)) ||| (jS 1 ((gs_pI σ2 8 x2.toNatClampNeg r2).1 8 x2.toNatClampNeg))))))) : G_R_enter_0 l v n post σ x1 x2 := by
  refine g_aload_n d_R_enter_0 0 rfl rfl ?_
  refine g_getV (x := .ref (v.2.2 7)) d_R_enter_1 fl_R_19 (by decide) rfl rfl rfl ?_
  refine g_iload_n d_R_enter_4 2 rfl rfl ?_
  refine g_iload_n d_R_enter_5 1 rfl rfl ?_
  refine g_aload_n d_R_enter_6 0 rfl rfl ?_
  refine g_getV (x := .int (σ.1 4 6)) d_R_enter_7 fl_R_32 (by decide) rfl rfl rfl ?_
  refine g_idiv d_R_enter_10 h.1 ?_
  have h := h.2
  have hi1 := h.1
  have h := h.2
  refine g_iast d_R_enter_11 (by decide) rfl hi1 ?_
  refine g_aload_n d_R_enter_12 0 rfl rfl ?_
  refine g_getV (x := .ref (v.2.2 8)) d_R_enter_13 fl_R_22 (by decide) rfl rfl rfl ?_
  refine g_iload_n d_R_enter_16 2 rfl rfl ?_
  refine g_aload_n d_R_enter_17 0 rfl rfl ?_
  refine g_iload_n d_R_enter_18 1 rfl rfl ?_
  refine g_callVi (av := [.int x1]) (rest := [.int x2, .ref (v.2.2 8)]) d_R_enter_19 Y_R_end lk_R_59 (by decide) rfl rfl I_R_end rfl (Nat.le_of_ble_eq_true rfl) rfl h (fun r2 σ2 h => ?_)
  have hi3 := h.1
  have h := h.2
  refine g_iast d_R_enter_22 (by decide) rfl hi3 ?_
  refine g_aload_n d_R_enter_23 0 rfl rfl ?_
  refine g_getV (x := .ref (v.2.2 6)) d_R_enter_24 fl_R_15 (by decide) rfl rfl rfl ?_
  refine g_aload_n d_R_enter_27 0 rfl rfl ?_
  refine g_getV (x := .ref (v.2.2 7)) d_R_enter_28 fl_R_19 (by decide) rfl rfl rfl ?_
  refine g_iload_n d_R_enter_31 2 rfl rfl ?_
  have hi4 := h.1
  have h := h.2
  refine g_iald (x := σ2.1 7 x2.toNatClampNeg) d_R_enter_32 (by decide) rfl hi4 rfl ?_
  refine g_iconst d_R_enter_33 (x := 4) (by decide) ?_
  refine g_imul d_R_enter_34 ?_
  refine g_aload_n d_R_enter_35 0 rfl rfl ?_
  refine g_getV (x := .ref (v.2.2 5)) d_R_enter_36 fl_R_9 (by decide) rfl rfl rfl ?_
  refine g_iload_n d_R_enter_39 1 rfl rfl ?_
  have hi5 := h.1
  have h := h.2
  refine g_iald (x := σ2.1 5 x1.toNatClampNeg) d_R_enter_40 (by decide) rfl hi5 rfl ?_
  refine g_iadd d_R_enter_41 ?_
  refine g_dup2_11 d_R_enter_42 rfl rfl ?_
  have hi6 := h.1
  have h := h.2
  refine g_lald (x := σ2.2.1 6 ((((σ2.1 7 x2.toNatClampNeg) * 4) + (σ2.1 5 x1.toNatClampNeg)).toNatClampNeg)) d_R_enter_43 (by decide) rfl hi6 rfl ?_
  refine g_lconst d_R_enter_44 (x := 1) (by decide) ?_
  refine g_aload_n d_R_enter_45 0 rfl rfl ?_
  refine g_getV (x := .ref (v.2.2 8)) d_R_enter_46 fl_R_22 (by decide) rfl rfl rfl ?_
  refine g_iload_n d_R_enter_49 2 rfl rfl ?_
  have hi7 := h.1
  have h := h.2
  refine g_iald (x := (gs_pI σ2 8 x2.toNatClampNeg r2).1 8 x2.toNatClampNeg) d_R_enter_50 (by decide) rfl hi7 rfl ?_
  refine g_lshl d_R_enter_51 ?_
  refine g_lor d_R_enter_52 ?_
  have hi8 := h.1
  have h := h.2
  refine g_last d_R_enter_53 (by decide) rfl hi8 ?_
  exact g_vret d_R_enter_54 rfl h
theorem E_R_enter {l : Launch} {v : gs_V} {n : Nat} {post : gs_S → Prop} {σ : gs_S} {x1 : Int32} {x2 : Int32} (h : G_R_enter_0 l v n post σ x1 x2) : gM l v lyC 42 me_R_enter (n + 1) [.ref (v.2.2 4), .int x1, .int x2] σ (qV v lyC 42 post) := gM_of (by decide +kernel) (Nat.le_of_ble_eq_true rfl) h
/-! LineRules$Rule.hasState -/
theorem d_R_hasState_0 : decode me_R_hasState.2.1 0 = .ok (.iload_n 1, 1) := by decide +kernel
theorem d_R_hasState_1 : decode me_R_hasState.2.1 1 = .ok (.ifCond .lt 15, 3) := by decide +kernel
theorem d_R_hasState_4 : decode me_R_hasState.2.1 4 = .ok (.iload_n 1, 1) := by decide +kernel
theorem d_R_hasState_5 : decode me_R_hasState.2.1 5 = .ok (.aload_n 0, 1) := by decide +kernel
theorem d_R_hasState_6 : decode me_R_hasState.2.1 6 = .ok (.getfield 32, 3) := by decide +kernel
theorem d_R_hasState_9 : decode me_R_hasState.2.1 9 = .ok (.if_icmp .ge 7, 3) := by decide +kernel
theorem d_R_hasState_12 : decode me_R_hasState.2.1 12 = .ok (.iconst 1, 1) := by decide +kernel
theorem d_R_hasState_13 : decode me_R_hasState.2.1 13 = .ok (.goto 4, 3) := by decide +kernel
theorem d_R_hasState_16 : decode me_R_hasState.2.1 16 = .ok (.iconst 0, 1) := by decide +kernel
theorem d_R_hasState_17 : decode me_R_hasState.2.1 17 = .ok (.ireturn, 1) := by decide +kernel
abbrev G_R_hasState_0 (l : Launch) (v : gs_V) (n : Nat) (post : Int32 → gs_S → Prop) (σ : gs_S) (x1 : Int32) : Prop := gG l v lyC 42 me_R_hasState n (qI v lyC 42 post) 0 [(0, .ref (v.2.2 4)), (1, .int x1)] [] σ
abbrev G_R_hasState_16 (l : Launch) (v : gs_V) (n : Nat) (post : Int32 → gs_S → Prop) (σ : gs_S) : Prop := gG l v lyC 42 me_R_hasState n (qI v lyC 42 post) 16 [] [] σ
abbrev G_R_hasState_17 (l : Launch) (v : gs_V) (n : Nat) (post : Int32 → gs_S → Prop) (σ : gs_S) (s0 : Int32) : Prop := gG l v lyC 42 me_R_hasState n (qI v lyC 42 post) 17 [] [.int s0] σ
set_option maxRecDepth 20000 in
set_option maxHeartbeats 1000000 in
theorem T_R_hasState_0 {l : Launch} {v : gs_V} {n : Nat} {post : Int32 → gs_S → Prop} {σ : gs_S} {x1 : Int32} (h : ((x1 < 0 → G_R_hasState_16 l v n post σ) ∧ (¬ x1 < 0 → (((σ.1 4 6) ≤ x1 → G_R_hasState_16 l v n post σ) ∧ (¬ (σ.1 4 6) ≤ x1 → G_R_hasState_17 l v n post σ 1))))) : G_R_hasState_0 l v n post σ x1 := by
  refine g_iload_n d_R_hasState_0 1 rfl rfl ?_
  refine g_if_lt (tgt := 16) d_R_hasState_1 rfl (fun hc => ?_) (fun hc => ?_)
  · have h := h.1 hc
    exact g_sub [] rfl h
  · have h := h.2 hc
    refine g_iload_n d_R_hasState_4 1 rfl rfl ?_
    refine g_aload_n d_R_hasState_5 0 rfl rfl ?_
    refine g_getV (x := .int (σ.1 4 6)) d_R_hasState_6 fl_R_32 (by decide) rfl rfl rfl ?_
    refine g_icmp_ge (tgt := 16) d_R_hasState_9 rfl (fun hc => ?_) (fun hc => ?_)
    · have h := h.1 hc
      exact g_sub [] rfl h
    · have h := h.2 hc
      refine g_iconst d_R_hasState_12 (x := 1) (by decide) ?_
      refine g_goto (tgt := 17) d_R_hasState_13 rfl ?_
      exact g_sub [] rfl h
set_option maxRecDepth 20000 in
set_option maxHeartbeats 1000000 in
theorem T_R_hasState_16 {l : Launch} {v : gs_V} {n : Nat} {post : Int32 → gs_S → Prop} {σ : gs_S} (h : G_R_hasState_17 l v n post σ 0) : G_R_hasState_16 l v n post σ := by
  refine g_iconst d_R_hasState_16 (x := 0) (by decide) ?_
  exact h
set_option maxRecDepth 20000 in
set_option maxHeartbeats 1000000 in
theorem T_R_hasState_17 {l : Launch} {v : gs_V} {n : Nat} {post : Int32 → gs_S → Prop} {σ : gs_S} {s0 : Int32} (h : narrow .boolean (.int s0) = .int s0 ∧ post s0 σ) : G_R_hasState_17 l v n post σ s0 := by
  exact g_zret d_R_hasState_17 rfl h.1 h.2
theorem E_R_hasState {l : Launch} {v : gs_V} {n : Nat} {post : Int32 → gs_S → Prop} {σ : gs_S} {x1 : Int32} (h : G_R_hasState_0 l v n post σ x1) : gM l v lyC 42 me_R_hasState (n + 1) [.ref (v.2.2 4), .int x1] σ (qI v lyC 42 post) := gM_of (by decide +kernel) (Nat.le_of_ble_eq_true rfl) h
/-! LineRules$Rule.left -/
theorem d_R_left_0 : decode me_R_left.2.1 0 = .ok (.aload_n 0, 1) := by decide +kernel
theorem d_R_left_1 : decode me_R_left.2.1 1 = .ok (.getfield 36, 3) := by decide +kernel
theorem d_R_left_4 : decode me_R_left.2.1 4 = .ok (.iconst 1, 1) := by decide +kernel
theorem d_R_left_5 : decode me_R_left.2.1 5 = .ok (.isub, 1) := by decide +kernel
theorem d_R_left_6 : decode me_R_left.2.1 6 = .ok (.iconst 2, 1) := by decide +kernel
theorem d_R_left_7 : decode me_R_left.2.1 7 = .ok (.idiv, 1) := by decide +kernel
theorem d_R_left_8 : decode me_R_left.2.1 8 = .ok (.ireturn, 1) := by decide +kernel
abbrev G_R_left_0 (l : Launch) (v : gs_V) (n : Nat) (post : Int32 → gs_S → Prop) (σ : gs_S) : Prop := gG l v lyC 42 me_R_left n (qI v lyC 42 post) 0 [(0, .ref (v.2.2 4))] [] σ
set_option maxRecDepth 20000 in
set_option maxHeartbeats 1000000 in
theorem T_R_left_0 {l : Launch} {v : gs_V} {n : Nat} {post : Int32 → gs_S → Prop} {σ : gs_S} (h : post (((σ.1 4 7) - 1) / 2) σ) : G_R_left_0 l v n post σ := by
  refine g_aload_n d_R_left_0 0 rfl rfl ?_
  refine g_getV (x := .int (σ.1 4 7)) d_R_left_1 fl_R_36 (by decide) rfl rfl rfl ?_
  refine g_iconst d_R_left_4 (x := 1) (by decide) ?_
  refine g_isub d_R_left_5 ?_
  refine g_iconst d_R_left_6 (x := 2) (by decide) ?_
  refine g_idiv d_R_left_7 (by decide) ?_
  exact g_iret d_R_left_8 rfl h
theorem E_R_left {l : Launch} {v : gs_V} {n : Nat} {post : Int32 → gs_S → Prop} {σ : gs_S} (h : G_R_left_0 l v n post σ) : gM l v lyC 42 me_R_left (n + 1) [.ref (v.2.2 4)] σ (qI v lyC 42 post) := gM_of (by decide +kernel) (Nat.le_of_ble_eq_true rfl) h
/-! LineRules$Rule.shape -/
theorem d_R_shape_0 : decode me_R_shape.2.1 0 = .ok (.aload_n 0, 1) := by decide +kernel
theorem d_R_shape_1 : decode me_R_shape.2.1 1 = .ok (.iload_n 1, 1) := by decide +kernel
theorem d_R_shape_2 : decode me_R_shape.2.1 2 = .ok (.putfield 32, 3) := by decide +kernel
theorem d_R_shape_5 : decode me_R_shape.2.1 5 = .ok (.aload_n 0, 1) := by decide +kernel
theorem d_R_shape_6 : decode me_R_shape.2.1 6 = .ok (.iload_n 2, 1) := by decide +kernel
theorem d_R_shape_7 : decode me_R_shape.2.1 7 = .ok (.putfield 36, 3) := by decide +kernel
theorem d_R_shape_10 : decode me_R_shape.2.1 10 = .ok (.aload_n 0, 1) := by decide +kernel
theorem d_R_shape_11 : decode me_R_shape.2.1 11 = .ok (.iload_n 1, 1) := by decide +kernel
theorem d_R_shape_12 : decode me_R_shape.2.1 12 = .ok (.iload_n 2, 1) := by decide +kernel
theorem d_R_shape_13 : decode me_R_shape.2.1 13 = .ok (.iconst 1, 1) := by decide +kernel
theorem d_R_shape_14 : decode me_R_shape.2.1 14 = .ok (.isub, 1) := by decide +kernel
theorem d_R_shape_15 : decode me_R_shape.2.1 15 = .ok (.invokestatic 45, 3) := by decide +kernel
theorem d_R_shape_18 : decode me_R_shape.2.1 18 = .ok (.putfield 42, 3) := by decide +kernel
theorem d_R_shape_21 : decode me_R_shape.2.1 21 = .ok (.aload_n 0, 1) := by decide +kernel
theorem d_R_shape_22 : decode me_R_shape.2.1 22 = .ok (.aload_n 0, 1) := by decide +kernel
theorem d_R_shape_23 : decode me_R_shape.2.1 23 = .ok (.getfield 42, 3) := by decide +kernel
theorem d_R_shape_26 : decode me_R_shape.2.1 26 = .ok (.iload_n 1, 1) := by decide +kernel
theorem d_R_shape_27 : decode me_R_shape.2.1 27 = .ok (.imul, 1) := by decide +kernel
theorem d_R_shape_28 : decode me_R_shape.2.1 28 = .ok (.putfield 39, 3) := by decide +kernel
theorem d_R_shape_31 : decode me_R_shape.2.1 31 = .ok (.return_, 1) := by decide +kernel
abbrev G_R_shape_0 (l : Launch) (v : gs_V) (n : Nat) (post : gs_S → Prop) (σ : gs_S) (x1 : Int32) (x2 : Int32) : Prop := gG l v lyC 42 me_R_shape n (qV v lyC 42 post) 0 [(0, .ref (v.2.2 4)), (1, .int x1), (2, .int x2)] [] σ
set_option maxRecDepth 20000 in
set_option maxHeartbeats 1000000 in
theorem T_R_shape_0 {l : Launch} {v : gs_V} {n : Nat} {post : gs_S → Prop} {σ : gs_S} {x1 : Int32} {x2 : Int32} (h : gM l v lyC 42 me_A_power n [.int x1, .int (x2 - 1)] (gs_pI (gs_pI σ 4 6 x1) 4 7 x2) (qI v lyC 42 (fun r1 σ1 => post (gs_pI (gs_pI σ1 4 9 r1) 4 8 (r1 * x1))))) : G_R_shape_0 l v n post σ x1 x2 := by
  refine g_aload_n d_R_shape_0 0 rfl rfl ?_
  refine g_iload_n d_R_shape_1 1 rfl rfl ?_
  refine g_putI d_R_shape_2 fp_R_32 (by decide) rfl rfl ⟨rfl, rfl⟩ ?_
  refine g_aload_n d_R_shape_5 0 rfl rfl ?_
  refine g_iload_n d_R_shape_6 2 rfl rfl ?_
  refine g_putI d_R_shape_7 fp_R_36 (by decide) rfl rfl ⟨rfl, rfl⟩ ?_
  refine g_aload_n d_R_shape_10 0 rfl rfl ?_
  refine g_iload_n d_R_shape_11 1 rfl rfl ?_
  refine g_iload_n d_R_shape_12 2 rfl rfl ?_
  refine g_iconst d_R_shape_13 (x := 1) (by decide) ?_
  refine g_isub d_R_shape_14 ?_
  refine g_callSNi (av := [.int x1, .int (x2 - 1)]) (rest := [.ref (v.2.2 4)]) d_R_shape_15 Y_A_power lk_R_45 I_A_power rfl (Nat.le_of_ble_eq_true rfl) rfl h (fun r1 σ1 h => ?_)
  refine g_putI d_R_shape_18 fp_R_42 (by decide) rfl rfl ⟨rfl, rfl⟩ ?_
  refine g_aload_n d_R_shape_21 0 rfl rfl ?_
  refine g_aload_n d_R_shape_22 0 rfl rfl ?_
  refine g_getV (x := .int r1) d_R_shape_23 fl_R_42 (by decide) rfl rfl rfl ?_
  refine g_iload_n d_R_shape_26 1 rfl rfl ?_
  refine g_imul d_R_shape_27 ?_
  refine g_putI d_R_shape_28 fp_R_39 (by decide) rfl rfl ⟨rfl, rfl⟩ ?_
  exact g_vret d_R_shape_31 rfl h
theorem E_R_shape {l : Launch} {v : gs_V} {n : Nat} {post : gs_S → Prop} {σ : gs_S} {x1 : Int32} {x2 : Int32} (h : G_R_shape_0 l v n post σ x1 x2) : gM l v lyC 42 me_R_shape (n + 1) [.ref (v.2.2 4), .int x1, .int x2] σ (qV v lyC 42 post) := gM_of (by decide +kernel) (Nat.le_of_ble_eq_true rfl) h
/-! LineRules$Ring.clear -/
theorem d_C_clear_0 : decode me_C_clear.2.1 0 = .ok (.aload_n 0, 1) := by decide +kernel
theorem d_C_clear_1 : decode me_C_clear.2.1 1 = .ok (.getfield 9, 3) := by decide +kernel
theorem d_C_clear_4 : decode me_C_clear.2.1 4 = .ok (.iconst 0, 1) := by decide +kernel
theorem d_C_clear_5 : decode me_C_clear.2.1 5 = .ok (.invokestatic 32, 3) := by decide +kernel
theorem d_C_clear_8 : decode me_C_clear.2.1 8 = .ok (.return_, 1) := by decide +kernel
abbrev G_C_clear_0 (l : Launch) (v : gs_V) (n : Nat) (post : gs_S → Prop) (σ : gs_S) : Prop := gG l v lyC 42 me_C_clear n (qV v lyC 42 post) 0 [(0, .ref (v.2.2 10))] [] σ
set_option maxRecDepth 20000 in
set_option maxHeartbeats 1000000 in
theorem T_C_clear_0 {l : Launch} {v : gs_V} {n : Nat} {post : gs_S → Prop} {σ : gs_S} (h : gM l v lyC 42 me_Y_fillI n [.ref (v.2.2 11), .int 0] σ (qV v lyC 42 (fun σ1 => post σ1))) : G_C_clear_0 l v n post σ := by
  refine g_aload_n d_C_clear_0 0 rfl rfl ?_
  refine g_getV (x := .ref (v.2.2 11)) d_C_clear_1 fl_C_9 (by decide) rfl rfl rfl ?_
  refine g_iconst d_C_clear_4 (x := 0) (by decide) ?_
  refine g_callSv (av := [.ref (v.2.2 11), .int 0]) (rest := []) d_C_clear_5 Y_Y_fillI lk_C_32 I_Y_fillI rfl (Nat.le_of_ble_eq_true rfl) rfl h (fun σ1 h => ?_)
  exact g_vret d_C_clear_8 rfl h
theorem E_C_clear {l : Launch} {v : gs_V} {n : Nat} {post : gs_S → Prop} {σ : gs_S} (h : G_C_clear_0 l v n post σ) : gM l v lyC 42 me_C_clear (n + 1) [.ref (v.2.2 10)] σ (qV v lyC 42 post) := gM_of (by decide +kernel) (Nat.le_of_ble_eq_true rfl) h
/-! LineRules$Ring.countOf -/
theorem d_C_countOf_0 : decode me_C_countOf.2.1 0 = .ok (.iconst 0, 1) := by decide +kernel
theorem d_C_countOf_1 : decode me_C_countOf.2.1 1 = .ok (.istore_n 2, 1) := by decide +kernel
theorem d_C_countOf_2 : decode me_C_countOf.2.1 2 = .ok (.iconst 0, 1) := by decide +kernel
theorem d_C_countOf_3 : decode me_C_countOf.2.1 3 = .ok (.istore_n 3, 1) := by decide +kernel
theorem d_C_countOf_4 : decode me_C_countOf.2.1 4 = .ok (.iload_n 3, 1) := by decide +kernel
theorem d_C_countOf_5 : decode me_C_countOf.2.1 5 = .ok (.aload_n 0, 1) := by decide +kernel
theorem d_C_countOf_6 : decode me_C_countOf.2.1 6 = .ok (.getfield 15, 3) := by decide +kernel
theorem d_C_countOf_9 : decode me_C_countOf.2.1 9 = .ok (.if_icmp .ge 22, 3) := by decide +kernel
theorem d_C_countOf_12 : decode me_C_countOf.2.1 12 = .ok (.aload_n 0, 1) := by decide +kernel
theorem d_C_countOf_13 : decode me_C_countOf.2.1 13 = .ok (.getfield 9, 3) := by decide +kernel
theorem d_C_countOf_16 : decode me_C_countOf.2.1 16 = .ok (.iload_n 3, 1) := by decide +kernel
theorem d_C_countOf_17 : decode me_C_countOf.2.1 17 = .ok (.iaload, 1) := by decide +kernel
theorem d_C_countOf_18 : decode me_C_countOf.2.1 18 = .ok (.iload_n 1, 1) := by decide +kernel
theorem d_C_countOf_19 : decode me_C_countOf.2.1 19 = .ok (.if_icmp .ne 6, 3) := by decide +kernel
theorem d_C_countOf_22 : decode me_C_countOf.2.1 22 = .ok (.iinc 2 1, 3) := by decide +kernel
theorem d_C_countOf_25 : decode me_C_countOf.2.1 25 = .ok (.iinc 3 1, 3) := by decide +kernel
theorem d_C_countOf_28 : decode me_C_countOf.2.1 28 = .ok (.goto (-24), 3) := by decide +kernel
theorem d_C_countOf_31 : decode me_C_countOf.2.1 31 = .ok (.iload_n 2, 1) := by decide +kernel
theorem d_C_countOf_32 : decode me_C_countOf.2.1 32 = .ok (.ireturn, 1) := by decide +kernel
abbrev G_C_countOf_0 (l : Launch) (v : gs_V) (n : Nat) (post : Int32 → gs_S → Prop) (σ : gs_S) (x1 : Int32) : Prop := gG l v lyC 42 me_C_countOf n (qI v lyC 42 post) 0 [(0, .ref (v.2.2 10)), (1, .int x1)] [] σ
abbrev G_C_countOf_4 (l : Launch) (v : gs_V) (n : Nat) (post : Int32 → gs_S → Prop) (σ : gs_S) (x1 : Int32) (x2 : Int32) (x3 : Int32) : Prop := gG l v lyC 42 me_C_countOf n (qI v lyC 42 post) 4 [(0, .ref (v.2.2 10)), (1, .int x1), (2, .int x2), (3, .int x3)] [] σ
abbrev G_C_countOf_25 (l : Launch) (v : gs_V) (n : Nat) (post : Int32 → gs_S → Prop) (σ : gs_S) (x1 : Int32) (x2 : Int32) (x3 : Int32) : Prop := gG l v lyC 42 me_C_countOf n (qI v lyC 42 post) 25 [(0, .ref (v.2.2 10)), (1, .int x1), (2, .int x2), (3, .int x3)] [] σ
set_option maxRecDepth 20000 in
set_option maxHeartbeats 1000000 in
theorem T_C_countOf_0 {l : Launch} {v : gs_V} {n : Nat} {post : Int32 → gs_S → Prop} {σ : gs_S} {x1 : Int32} (h : G_C_countOf_4 l v n post σ x1 0 0) : G_C_countOf_0 l v n post σ x1 := by
  refine g_iconst d_C_countOf_0 (x := 0) (by decide) ?_
  refine g_istore_n (L' := [(2, .int 0), (0, .ref (v.2.2 10)), (1, .int x1)]) d_C_countOf_1 rfl (by decide) rfl ?_
  refine g_iconst d_C_countOf_2 (x := 0) (by decide) ?_
  refine g_istore_n (L' := [(3, .int 0), (2, .int 0), (0, .ref (v.2.2 10)), (1, .int x1)]) d_C_countOf_3 rfl (by decide) rfl ?_
  exact g_sub [2, 3, 1, 0] rfl h
set_option maxRecDepth 20000 in
set_option maxHeartbeats 1000000 in
theorem T_C_countOf_4 {l : Launch} {v : gs_V} {n : Nat} {post : Int32 → gs_S → Prop} {σ : gs_S} {x1 : Int32} {x2 : Int32} {x3 : Int32} (h : (((σ.1 10 1) ≤ x3 → post x2 σ) ∧ (¬ (σ.1 10 1) ≤ x3 → vp_in x3 64 ∧ ((¬ (σ.1 11 x3.toNatClampNeg) = x1 → G_C_countOf_25 l v n post σ x1 x2 x3) ∧ ((σ.1 11 x3.toNatClampNeg) = x1 → G_C_countOf_25 l v n post σ x1 (x2 + 1) x3))))) : G_C_countOf_4 l v n post σ x1 x2 x3 := by
  refine g_iload_n d_C_countOf_4 3 rfl rfl ?_
  refine g_aload_n d_C_countOf_5 0 rfl rfl ?_
  refine g_getV (x := .int (σ.1 10 1)) d_C_countOf_6 fl_C_15 (by decide) rfl rfl rfl ?_
  refine g_icmp_ge (tgt := 31) d_C_countOf_9 rfl (fun hc => ?_) (fun hc => ?_)
  · have h := h.1 hc
    refine g_iload_n d_C_countOf_31 2 rfl rfl ?_
    exact g_iret d_C_countOf_32 rfl h
  · have h := h.2 hc
    refine g_aload_n d_C_countOf_12 0 rfl rfl ?_
    refine g_getV (x := .ref (v.2.2 11)) d_C_countOf_13 fl_C_9 (by decide) rfl rfl rfl ?_
    refine g_iload_n d_C_countOf_16 3 rfl rfl ?_
    have hi1 := h.1
    have h := h.2
    refine g_iald (x := σ.1 11 x3.toNatClampNeg) d_C_countOf_17 (by decide) rfl hi1 rfl ?_
    refine g_iload_n d_C_countOf_18 1 rfl rfl ?_
    refine g_icmp_ne (tgt := 25) d_C_countOf_19 rfl (fun hc => ?_) (fun hc => ?_)
    · have h := h.1 hc
      exact h
    · have h := h.2 hc
      refine g_iinc (L' := [(2, .int (x2 + 1)), (0, .ref (v.2.2 10)), (1, .int x1), (3, .int x3)]) d_C_countOf_22 2 rfl (by rfl) (by decide) rfl ?_
      exact g_sub [1, 2, 0, 3] rfl h
set_option maxRecDepth 20000 in
set_option maxHeartbeats 1000000 in
theorem T_C_countOf_25 {l : Launch} {v : gs_V} {n : Nat} {post : Int32 → gs_S → Prop} {σ : gs_S} {x1 : Int32} {x2 : Int32} {x3 : Int32} (h : G_C_countOf_4 l v n post σ x1 x2 (x3 + 1)) : G_C_countOf_25 l v n post σ x1 x2 x3 := by
  refine g_iinc (L' := [(3, .int (x3 + 1)), (0, .ref (v.2.2 10)), (1, .int x1), (2, .int x2)]) d_C_countOf_25 3 rfl (by rfl) (by decide) rfl ?_
  refine g_goto (tgt := 4) d_C_countOf_28 rfl ?_
  exact g_sub [1, 2, 3, 0] rfl h
theorem E_C_countOf {l : Launch} {v : gs_V} {n : Nat} {post : Int32 → gs_S → Prop} {σ : gs_S} {x1 : Int32} (h : G_C_countOf_0 l v n post σ x1) : gM l v lyC 42 me_C_countOf (n + 1) [.ref (v.2.2 10), .int x1] σ (qI v lyC 42 post) := gM_of (by decide +kernel) (Nat.le_of_ble_eq_true rfl) h
/-! LineRules$Ring.has -/
theorem d_C_has_0 : decode me_C_has.2.1 0 = .ok (.iload_n 1, 1) := by decide +kernel
theorem d_C_has_1 : decode me_C_has.2.1 1 = .ok (.ifCond .lt 15, 3) := by decide +kernel
theorem d_C_has_4 : decode me_C_has.2.1 4 = .ok (.iload_n 1, 1) := by decide +kernel
theorem d_C_has_5 : decode me_C_has.2.1 5 = .ok (.aload_n 0, 1) := by decide +kernel
theorem d_C_has_6 : decode me_C_has.2.1 6 = .ok (.getfield 15, 3) := by decide +kernel
theorem d_C_has_9 : decode me_C_has.2.1 9 = .ok (.if_icmp .ge 7, 3) := by decide +kernel
theorem d_C_has_12 : decode me_C_has.2.1 12 = .ok (.iconst 1, 1) := by decide +kernel
theorem d_C_has_13 : decode me_C_has.2.1 13 = .ok (.goto 4, 3) := by decide +kernel
theorem d_C_has_16 : decode me_C_has.2.1 16 = .ok (.iconst 0, 1) := by decide +kernel
theorem d_C_has_17 : decode me_C_has.2.1 17 = .ok (.ireturn, 1) := by decide +kernel
abbrev G_C_has_0 (l : Launch) (v : gs_V) (n : Nat) (post : Int32 → gs_S → Prop) (σ : gs_S) (x1 : Int32) : Prop := gG l v lyC 42 me_C_has n (qI v lyC 42 post) 0 [(0, .ref (v.2.2 10)), (1, .int x1)] [] σ
abbrev G_C_has_16 (l : Launch) (v : gs_V) (n : Nat) (post : Int32 → gs_S → Prop) (σ : gs_S) : Prop := gG l v lyC 42 me_C_has n (qI v lyC 42 post) 16 [] [] σ
abbrev G_C_has_17 (l : Launch) (v : gs_V) (n : Nat) (post : Int32 → gs_S → Prop) (σ : gs_S) (s0 : Int32) : Prop := gG l v lyC 42 me_C_has n (qI v lyC 42 post) 17 [] [.int s0] σ
set_option maxRecDepth 20000 in
set_option maxHeartbeats 1000000 in
theorem T_C_has_0 {l : Launch} {v : gs_V} {n : Nat} {post : Int32 → gs_S → Prop} {σ : gs_S} {x1 : Int32} (h : ((x1 < 0 → G_C_has_16 l v n post σ) ∧ (¬ x1 < 0 → (((σ.1 10 1) ≤ x1 → G_C_has_16 l v n post σ) ∧ (¬ (σ.1 10 1) ≤ x1 → G_C_has_17 l v n post σ 1))))) : G_C_has_0 l v n post σ x1 := by
  refine g_iload_n d_C_has_0 1 rfl rfl ?_
  refine g_if_lt (tgt := 16) d_C_has_1 rfl (fun hc => ?_) (fun hc => ?_)
  · have h := h.1 hc
    exact g_sub [] rfl h
  · have h := h.2 hc
    refine g_iload_n d_C_has_4 1 rfl rfl ?_
    refine g_aload_n d_C_has_5 0 rfl rfl ?_
    refine g_getV (x := .int (σ.1 10 1)) d_C_has_6 fl_C_15 (by decide) rfl rfl rfl ?_
    refine g_icmp_ge (tgt := 16) d_C_has_9 rfl (fun hc => ?_) (fun hc => ?_)
    · have h := h.1 hc
      exact g_sub [] rfl h
    · have h := h.2 hc
      refine g_iconst d_C_has_12 (x := 1) (by decide) ?_
      refine g_goto (tgt := 17) d_C_has_13 rfl ?_
      exact g_sub [] rfl h
set_option maxRecDepth 20000 in
set_option maxHeartbeats 1000000 in
theorem T_C_has_16 {l : Launch} {v : gs_V} {n : Nat} {post : Int32 → gs_S → Prop} {σ : gs_S} (h : G_C_has_17 l v n post σ 0) : G_C_has_16 l v n post σ := by
  refine g_iconst d_C_has_16 (x := 0) (by decide) ?_
  exact h
set_option maxRecDepth 20000 in
set_option maxHeartbeats 1000000 in
theorem T_C_has_17 {l : Launch} {v : gs_V} {n : Nat} {post : Int32 → gs_S → Prop} {σ : gs_S} {s0 : Int32} (h : narrow .boolean (.int s0) = .int s0 ∧ post s0 σ) : G_C_has_17 l v n post σ s0 := by
  exact g_zret d_C_has_17 rfl h.1 h.2
theorem E_C_has {l : Launch} {v : gs_V} {n : Nat} {post : Int32 → gs_S → Prop} {σ : gs_S} {x1 : Int32} (h : G_C_has_0 l v n post σ x1) : gM l v lyC 42 me_C_has (n + 1) [.ref (v.2.2 10), .int x1] σ (qI v lyC 42 post) := gM_of (by decide +kernel) (Nat.le_of_ble_eq_true rfl) h
/-! LineRules$Ring.resize -/
theorem d_C_resize_0 : decode me_C_resize.2.1 0 = .ok (.aload_n 0, 1) := by decide +kernel
theorem d_C_resize_1 : decode me_C_resize.2.1 1 = .ok (.iload_n 1, 1) := by decide +kernel
theorem d_C_resize_2 : decode me_C_resize.2.1 2 = .ok (.putfield 15, 3) := by decide +kernel
theorem d_C_resize_5 : decode me_C_resize.2.1 5 = .ok (.aload_n 0, 1) := by decide +kernel
theorem d_C_resize_6 : decode me_C_resize.2.1 6 = .ok (.invokevirtual 29, 3) := by decide +kernel
theorem d_C_resize_9 : decode me_C_resize.2.1 9 = .ok (.return_, 1) := by decide +kernel
abbrev G_C_resize_0 (l : Launch) (v : gs_V) (n : Nat) (post : gs_S → Prop) (σ : gs_S) (x1 : Int32) : Prop := gG l v lyC 42 me_C_resize n (qV v lyC 42 post) 0 [(0, .ref (v.2.2 10)), (1, .int x1)] [] σ
set_option maxRecDepth 20000 in
set_option maxHeartbeats 1000000 in
theorem T_C_resize_0 {l : Launch} {v : gs_V} {n : Nat} {post : gs_S → Prop} {σ : gs_S} {x1 : Int32} (h : gM l v lyC 42 me_C_clear n [.ref (v.2.2 10)] (gs_pI σ 10 1 x1) (qV v lyC 42 (fun σ1 => post σ1))) : G_C_resize_0 l v n post σ x1 := by
  refine g_aload_n d_C_resize_0 0 rfl rfl ?_
  refine g_iload_n d_C_resize_1 1 rfl rfl ?_
  refine g_putI d_C_resize_2 fp_C_15 (by decide) rfl rfl ⟨rfl, rfl⟩ ?_
  refine g_aload_n d_C_resize_5 0 rfl rfl ?_
  refine g_callVv (av := []) (rest := []) d_C_resize_6 Y_C_clear lk_C_29 (by decide) rfl rfl I_C_clear rfl (Nat.le_of_ble_eq_true rfl) rfl h (fun σ1 h => ?_)
  exact g_vret d_C_resize_9 rfl h
theorem E_C_resize {l : Launch} {v : gs_V} {n : Nat} {post : gs_S → Prop} {σ : gs_S} {x1 : Int32} (h : G_C_resize_0 l v n post σ x1) : gM l v lyC 42 me_C_resize (n + 1) [.ref (v.2.2 10), .int x1] σ (qV v lyC 42 post) := gM_of (by decide +kernel) (Nat.le_of_ble_eq_true rfl) h
/-! LineRules$Ring.run -/
theorem d_C_run_0 : decode me_C_run.2.1 0 = .ok (.aload_n 0, 1) := by decide +kernel
theorem d_C_run_1 : decode me_C_run.2.1 1 = .ok (.getfield 9, 3) := by decide +kernel
theorem d_C_run_4 : decode me_C_run.2.1 4 = .ok (.iconst 0, 1) := by decide +kernel
theorem d_C_run_5 : decode me_C_run.2.1 5 = .ok (.aload_n 0, 1) := by decide +kernel
theorem d_C_run_6 : decode me_C_run.2.1 6 = .ok (.getfield 22, 3) := by decide +kernel
theorem d_C_run_9 : decode me_C_run.2.1 9 = .ok (.iconst 0, 1) := by decide +kernel
theorem d_C_run_10 : decode me_C_run.2.1 10 = .ok (.aload_n 0, 1) := by decide +kernel
theorem d_C_run_11 : decode me_C_run.2.1 11 = .ok (.getfield 15, 3) := by decide +kernel
theorem d_C_run_14 : decode me_C_run.2.1 14 = .ok (.invokestatic 38, 3) := by decide +kernel
theorem d_C_run_17 : decode me_C_run.2.1 17 = .ok (.iconst 0, 1) := by decide +kernel
theorem d_C_run_18 : decode me_C_run.2.1 18 = .ok (.istore_n 2, 1) := by decide +kernel
theorem d_C_run_19 : decode me_C_run.2.1 19 = .ok (.iload_n 2, 1) := by decide +kernel
theorem d_C_run_20 : decode me_C_run.2.1 20 = .ok (.iload_n 1, 1) := by decide +kernel
theorem d_C_run_21 : decode me_C_run.2.1 21 = .ok (.if_icmp .ge 13, 3) := by decide +kernel
theorem d_C_run_24 : decode me_C_run.2.1 24 = .ok (.aload_n 0, 1) := by decide +kernel
theorem d_C_run_25 : decode me_C_run.2.1 25 = .ok (.invokevirtual 44, 3) := by decide +kernel
theorem d_C_run_28 : decode me_C_run.2.1 28 = .ok (.iinc 2 1, 3) := by decide +kernel
theorem d_C_run_31 : decode me_C_run.2.1 31 = .ok (.goto (-12), 3) := by decide +kernel
theorem d_C_run_34 : decode me_C_run.2.1 34 = .ok (.iconst 0, 1) := by decide +kernel
theorem d_C_run_35 : decode me_C_run.2.1 35 = .ok (.istore_n 2, 1) := by decide +kernel
theorem d_C_run_36 : decode me_C_run.2.1 36 = .ok (.iconst 0, 1) := by decide +kernel
theorem d_C_run_37 : decode me_C_run.2.1 37 = .ok (.istore_n 3, 1) := by decide +kernel
theorem d_C_run_38 : decode me_C_run.2.1 38 = .ok (.iload_n 3, 1) := by decide +kernel
theorem d_C_run_39 : decode me_C_run.2.1 39 = .ok (.aload_n 0, 1) := by decide +kernel
theorem d_C_run_40 : decode me_C_run.2.1 40 = .ok (.getfield 15, 3) := by decide +kernel
theorem d_C_run_43 : decode me_C_run.2.1 43 = .ok (.if_icmp .ge 27, 3) := by decide +kernel
theorem d_C_run_46 : decode me_C_run.2.1 46 = .ok (.aload_n 0, 1) := by decide +kernel
theorem d_C_run_47 : decode me_C_run.2.1 47 = .ok (.getfield 9, 3) := by decide +kernel
theorem d_C_run_50 : decode me_C_run.2.1 50 = .ok (.iload_n 3, 1) := by decide +kernel
theorem d_C_run_51 : decode me_C_run.2.1 51 = .ok (.iaload, 1) := by decide +kernel
theorem d_C_run_52 : decode me_C_run.2.1 52 = .ok (.aload_n 0, 1) := by decide +kernel
theorem d_C_run_53 : decode me_C_run.2.1 53 = .ok (.getfield 22, 3) := by decide +kernel
theorem d_C_run_56 : decode me_C_run.2.1 56 = .ok (.iload_n 3, 1) := by decide +kernel
theorem d_C_run_57 : decode me_C_run.2.1 57 = .ok (.iaload, 1) := by decide +kernel
theorem d_C_run_58 : decode me_C_run.2.1 58 = .ok (.if_icmp .eq 6, 3) := by decide +kernel
theorem d_C_run_61 : decode me_C_run.2.1 61 = .ok (.iinc 2 1, 3) := by decide +kernel
theorem d_C_run_64 : decode me_C_run.2.1 64 = .ok (.iinc 3 1, 3) := by decide +kernel
theorem d_C_run_67 : decode me_C_run.2.1 67 = .ok (.goto (-29), 3) := by decide +kernel
theorem d_C_run_70 : decode me_C_run.2.1 70 = .ok (.iload_n 2, 1) := by decide +kernel
theorem d_C_run_71 : decode me_C_run.2.1 71 = .ok (.ireturn, 1) := by decide +kernel
abbrev G_C_run_0 (l : Launch) (v : gs_V) (n : Nat) (post : Int32 → gs_S → Prop) (σ : gs_S) (x1 : Int32) : Prop := gG l v lyC 42 me_C_run n (qI v lyC 42 post) 0 [(0, .ref (v.2.2 10)), (1, .int x1)] [] σ
abbrev G_C_run_19 (l : Launch) (v : gs_V) (n : Nat) (post : Int32 → gs_S → Prop) (σ : gs_S) (x1 : Int32) (x2 : Int32) : Prop := gG l v lyC 42 me_C_run n (qI v lyC 42 post) 19 [(0, .ref (v.2.2 10)), (1, .int x1), (2, .int x2)] [] σ
abbrev G_C_run_38 (l : Launch) (v : gs_V) (n : Nat) (post : Int32 → gs_S → Prop) (σ : gs_S) (x2 : Int32) (x3 : Int32) : Prop := gG l v lyC 42 me_C_run n (qI v lyC 42 post) 38 [(0, .ref (v.2.2 10)), (2, .int x2), (3, .int x3)] [] σ
abbrev G_C_run_64 (l : Launch) (v : gs_V) (n : Nat) (post : Int32 → gs_S → Prop) (σ : gs_S) (x2 : Int32) (x3 : Int32) : Prop := gG l v lyC 42 me_C_run n (qI v lyC 42 post) 64 [(0, .ref (v.2.2 10)), (2, .int x2), (3, .int x3)] [] σ
set_option maxRecDepth 20000 in
set_option maxHeartbeats 1000000 in
theorem T_C_run_0 {l : Launch} {v : gs_V} {n : Nat} {post : Int32 → gs_S → Prop} {σ : gs_S} {x1 : Int32} (h : (¬ (σ.1 10 1) < 0 ∧ (σ.1 10 1).toNatClampNeg ≤ 64) ∧ G_C_run_19 l v n post (gs_pA σ 13 (va_cpy (σ.1 11) (σ.1 13) 0 0 (σ.1 10 1).toNatClampNeg)) x1 0) : G_C_run_0 l v n post σ x1 := by
  refine g_aload_n d_C_run_0 0 rfl rfl ?_
  refine g_getV (x := .ref (v.2.2 11)) d_C_run_1 fl_C_9 (by decide) rfl rfl rfl ?_
  refine g_iconst d_C_run_4 (x := 0) (by decide) ?_
  refine g_aload_n d_C_run_5 0 rfl rfl ?_
  refine g_getV (x := .ref (v.2.2 13)) d_C_run_6 fl_C_22 (by decide) rfl rfl rfl ?_
  refine g_iconst d_C_run_9 (x := 0) (by decide) ?_
  refine g_aload_n d_C_run_10 0 rfl rfl ?_
  refine g_getV (x := .int (σ.1 10 1)) d_C_run_11 fl_C_15 (by decide) rfl rfl rfl ?_
  have hcp := h.1
  have h := h.2
  refine g_copyi d_C_run_14 lk_C_38 (by decide) rfl (by decide) rfl hcp.1 (Nat.le_trans hcp.2 (by decide)) (Nat.le_trans hcp.2 (by decide)) (Nat.le_of_ble_eq_true rfl) ?_
  refine g_iconst d_C_run_17 (x := 0) (by decide) ?_
  refine g_istore_n (L' := [(2, .int 0), (0, .ref (v.2.2 10)), (1, .int x1)]) d_C_run_18 rfl (by decide) rfl ?_
  exact g_sub [1, 2, 0] rfl h
set_option maxRecDepth 20000 in
set_option maxHeartbeats 1000000 in
theorem T_C_run_19 {l : Launch} {v : gs_V} {n : Nat} {post : Int32 → gs_S → Prop} {σ : gs_S} {x1 : Int32} {x2 : Int32} (h : ((x1 ≤ x2 → G_C_run_38 l v n post σ 0 0) ∧ (¬ x1 ≤ x2 → gM l v lyC 42 me_C_stepOnce n [.ref (v.2.2 10)] σ (qV v lyC 42 (fun σ1 => G_C_run_19 l v n post σ1 x1 (x2 + 1)))))) : G_C_run_19 l v n post σ x1 x2 := by
  refine g_iload_n d_C_run_19 2 rfl rfl ?_
  refine g_iload_n d_C_run_20 1 rfl rfl ?_
  refine g_icmp_ge (tgt := 34) d_C_run_21 rfl (fun hc => ?_) (fun hc => ?_)
  · have h := h.1 hc
    refine g_iconst d_C_run_34 (x := 0) (by decide) ?_
    refine g_istore_n (L' := [(2, .int 0), (0, .ref (v.2.2 10)), (1, .int x1)]) d_C_run_35 rfl (by decide) rfl ?_
    refine g_iconst d_C_run_36 (x := 0) (by decide) ?_
    refine g_istore_n (L' := [(3, .int 0), (2, .int 0), (0, .ref (v.2.2 10)), (1, .int x1)]) d_C_run_37 rfl (by decide) rfl ?_
    exact g_sub [2, 1, 0] rfl h
  · have h := h.2 hc
    refine g_aload_n d_C_run_24 0 rfl rfl ?_
    refine g_callVv (av := []) (rest := []) d_C_run_25 Y_C_stepOnce lk_C_44 (by decide) rfl rfl I_C_stepOnce rfl (Nat.le_of_ble_eq_true rfl) rfl h (fun σ1 h => ?_)
    refine g_iinc (L' := [(2, .int (x2 + 1)), (0, .ref (v.2.2 10)), (1, .int x1)]) d_C_run_28 2 rfl (by rfl) (by decide) rfl ?_
    refine g_goto (tgt := 19) d_C_run_31 rfl ?_
    exact g_sub [1, 2, 0] rfl h
set_option maxRecDepth 20000 in
set_option maxHeartbeats 1000000 in
theorem T_C_run_38 {l : Launch} {v : gs_V} {n : Nat} {post : Int32 → gs_S → Prop} {σ : gs_S} {x2 : Int32} {x3 : Int32} (h : (((σ.1 10 1) ≤ x3 → post x2 σ) ∧ (¬ (σ.1 10 1) ≤ x3 → vp_in x3 64 ∧ vp_in x3 64 ∧ (((σ.1 11 x3.toNatClampNeg) = (σ.1 13 x3.toNatClampNeg) → G_C_run_64 l v n post σ x2 x3) ∧ (¬ (σ.1 11 x3.toNatClampNeg) = (σ.1 13 x3.toNatClampNeg) → G_C_run_64 l v n post σ (x2 + 1) x3))))) : G_C_run_38 l v n post σ x2 x3 := by
  refine g_iload_n d_C_run_38 2 rfl rfl ?_
  refine g_aload_n d_C_run_39 0 rfl rfl ?_
  refine g_getV (x := .int (σ.1 10 1)) d_C_run_40 fl_C_15 (by decide) rfl rfl rfl ?_
  refine g_icmp_ge (tgt := 70) d_C_run_43 rfl (fun hc => ?_) (fun hc => ?_)
  · have h := h.1 hc
    refine g_iload_n d_C_run_70 1 rfl rfl ?_
    exact g_iret d_C_run_71 rfl h
  · have h := h.2 hc
    refine g_aload_n d_C_run_46 0 rfl rfl ?_
    refine g_getV (x := .ref (v.2.2 11)) d_C_run_47 fl_C_9 (by decide) rfl rfl rfl ?_
    refine g_iload_n d_C_run_50 2 rfl rfl ?_
    have hi1 := h.1
    have h := h.2
    refine g_iald (x := σ.1 11 x3.toNatClampNeg) d_C_run_51 (by decide) rfl hi1 rfl ?_
    refine g_aload_n d_C_run_52 0 rfl rfl ?_
    refine g_getV (x := .ref (v.2.2 13)) d_C_run_53 fl_C_22 (by decide) rfl rfl rfl ?_
    refine g_iload_n d_C_run_56 2 rfl rfl ?_
    have hi2 := h.1
    have h := h.2
    refine g_iald (x := σ.1 13 x3.toNatClampNeg) d_C_run_57 (by decide) rfl hi2 rfl ?_
    refine g_icmp_eq (tgt := 64) d_C_run_58 rfl (fun hc => ?_) (fun hc => ?_)
    · have h := h.1 hc
      exact h
    · have h := h.2 hc
      refine g_iinc (L' := [(2, .int (x2 + 1)), (0, .ref (v.2.2 10)), (3, .int x3)]) d_C_run_61 1 rfl (by rfl) (by decide) rfl ?_
      exact g_sub [1, 0, 2] rfl h
set_option maxRecDepth 20000 in
set_option maxHeartbeats 1000000 in
theorem T_C_run_64 {l : Launch} {v : gs_V} {n : Nat} {post : Int32 → gs_S → Prop} {σ : gs_S} {x2 : Int32} {x3 : Int32} (h : G_C_run_38 l v n post σ x2 (x3 + 1)) : G_C_run_64 l v n post σ x2 x3 := by
  refine g_iinc (L' := [(3, .int (x3 + 1)), (0, .ref (v.2.2 10)), (2, .int x2)]) d_C_run_64 2 rfl (by rfl) (by decide) rfl ?_
  refine g_goto (tgt := 38) d_C_run_67 rfl ?_
  exact g_sub [1, 2, 0] rfl h
theorem E_C_run {l : Launch} {v : gs_V} {n : Nat} {post : Int32 → gs_S → Prop} {σ : gs_S} {x1 : Int32} (h : G_C_run_0 l v n post σ x1) : gM l v lyC 42 me_C_run (n + 1) [.ref (v.2.2 10), .int x1] σ (qI v lyC 42 post) := gM_of (by decide +kernel) (Nat.le_of_ble_eq_true rfl) h
/-! LineRules$Ring.stepOnce -/
theorem d_C_stepOnce_0 : decode me_C_stepOnce.2.1 0 = .ok (.iconst 0, 1) := by decide +kernel
theorem d_C_stepOnce_1 : decode me_C_stepOnce.2.1 1 = .ok (.istore_n 1, 1) := by decide +kernel
theorem d_C_stepOnce_2 : decode me_C_stepOnce.2.1 2 = .ok (.iconst 0, 1) := by decide +kernel
theorem d_C_stepOnce_3 : decode me_C_stepOnce.2.1 3 = .ok (.istore_n 2, 1) := by decide +kernel
theorem d_C_stepOnce_4 : decode me_C_stepOnce.2.1 4 = .ok (.iload_n 2, 1) := by decide +kernel
theorem d_C_stepOnce_5 : decode me_C_stepOnce.2.1 5 = .ok (.aload_n 0, 1) := by decide +kernel
theorem d_C_stepOnce_6 : decode me_C_stepOnce.2.1 6 = .ok (.getfield 25, 3) := by decide +kernel
theorem d_C_stepOnce_9 : decode me_C_stepOnce.2.1 9 = .ok (.getfield 47, 3) := by decide +kernel
theorem d_C_stepOnce_12 : decode me_C_stepOnce.2.1 12 = .ok (.if_icmp .ge 41, 3) := by decide +kernel
theorem d_C_stepOnce_15 : decode me_C_stepOnce.2.1 15 = .ok (.iload_n 1, 1) := by decide +kernel
theorem d_C_stepOnce_16 : decode me_C_stepOnce.2.1 16 = .ok (.aload_n 0, 1) := by decide +kernel
theorem d_C_stepOnce_17 : decode me_C_stepOnce.2.1 17 = .ok (.getfield 25, 3) := by decide +kernel
theorem d_C_stepOnce_20 : decode me_C_stepOnce.2.1 20 = .ok (.getfield 52, 3) := by decide +kernel
theorem d_C_stepOnce_23 : decode me_C_stepOnce.2.1 23 = .ok (.imul, 1) := by decide +kernel
theorem d_C_stepOnce_24 : decode me_C_stepOnce.2.1 24 = .ok (.aload_n 0, 1) := by decide +kernel
theorem d_C_stepOnce_25 : decode me_C_stepOnce.2.1 25 = .ok (.getfield 9, 3) := by decide +kernel
theorem d_C_stepOnce_28 : decode me_C_stepOnce.2.1 28 = .ok (.iload_n 2, 1) := by decide +kernel
theorem d_C_stepOnce_29 : decode me_C_stepOnce.2.1 29 = .ok (.aload_n 0, 1) := by decide +kernel
theorem d_C_stepOnce_30 : decode me_C_stepOnce.2.1 30 = .ok (.getfield 25, 3) := by decide +kernel
theorem d_C_stepOnce_33 : decode me_C_stepOnce.2.1 33 = .ok (.invokevirtual 55, 3) := by decide +kernel
theorem d_C_stepOnce_36 : decode me_C_stepOnce.2.1 36 = .ok (.isub, 1) := by decide +kernel
theorem d_C_stepOnce_37 : decode me_C_stepOnce.2.1 37 = .ok (.aload_n 0, 1) := by decide +kernel
theorem d_C_stepOnce_38 : decode me_C_stepOnce.2.1 38 = .ok (.getfield 15, 3) := by decide +kernel
theorem d_C_stepOnce_41 : decode me_C_stepOnce.2.1 41 = .ok (.invokestatic 59, 3) := by decide +kernel
theorem d_C_stepOnce_44 : decode me_C_stepOnce.2.1 44 = .ok (.iaload, 1) := by decide +kernel
theorem d_C_stepOnce_45 : decode me_C_stepOnce.2.1 45 = .ok (.iadd, 1) := by decide +kernel
theorem d_C_stepOnce_46 : decode me_C_stepOnce.2.1 46 = .ok (.istore_n 1, 1) := by decide +kernel
theorem d_C_stepOnce_47 : decode me_C_stepOnce.2.1 47 = .ok (.iinc 2 1, 3) := by decide +kernel
theorem d_C_stepOnce_50 : decode me_C_stepOnce.2.1 50 = .ok (.goto (-46), 3) := by decide +kernel
theorem d_C_stepOnce_53 : decode me_C_stepOnce.2.1 53 = .ok (.aload_n 0, 1) := by decide +kernel
theorem d_C_stepOnce_54 : decode me_C_stepOnce.2.1 54 = .ok (.getfield 25, 3) := by decide +kernel
theorem d_C_stepOnce_57 : decode me_C_stepOnce.2.1 57 = .ok (.getfield 47, 3) := by decide +kernel
theorem d_C_stepOnce_60 : decode me_C_stepOnce.2.1 60 = .ok (.aload_n 0, 1) := by decide +kernel
theorem d_C_stepOnce_61 : decode me_C_stepOnce.2.1 61 = .ok (.getfield 25, 3) := by decide +kernel
theorem d_C_stepOnce_64 : decode me_C_stepOnce.2.1 64 = .ok (.invokevirtual 55, 3) := by decide +kernel
theorem d_C_stepOnce_67 : decode me_C_stepOnce.2.1 67 = .ok (.isub, 1) := by decide +kernel
theorem d_C_stepOnce_68 : decode me_C_stepOnce.2.1 68 = .ok (.istore_n 2, 1) := by decide +kernel
theorem d_C_stepOnce_69 : decode me_C_stepOnce.2.1 69 = .ok (.iconst 0, 1) := by decide +kernel
theorem d_C_stepOnce_70 : decode me_C_stepOnce.2.1 70 = .ok (.istore_n 3, 1) := by decide +kernel
theorem d_C_stepOnce_71 : decode me_C_stepOnce.2.1 71 = .ok (.iload_n 3, 1) := by decide +kernel
theorem d_C_stepOnce_72 : decode me_C_stepOnce.2.1 72 = .ok (.aload_n 0, 1) := by decide +kernel
theorem d_C_stepOnce_73 : decode me_C_stepOnce.2.1 73 = .ok (.getfield 15, 3) := by decide +kernel
theorem d_C_stepOnce_76 : decode me_C_stepOnce.2.1 76 = .ok (.if_icmp .ge 55, 3) := by decide +kernel
theorem d_C_stepOnce_79 : decode me_C_stepOnce.2.1 79 = .ok (.aload_n 0, 1) := by decide +kernel
theorem d_C_stepOnce_80 : decode me_C_stepOnce.2.1 80 = .ok (.getfield 19, 3) := by decide +kernel
theorem d_C_stepOnce_83 : decode me_C_stepOnce.2.1 83 = .ok (.iload_n 3, 1) := by decide +kernel
theorem d_C_stepOnce_84 : decode me_C_stepOnce.2.1 84 = .ok (.aload_n 0, 1) := by decide +kernel
theorem d_C_stepOnce_85 : decode me_C_stepOnce.2.1 85 = .ok (.getfield 25, 3) := by decide +kernel
theorem d_C_stepOnce_88 : decode me_C_stepOnce.2.1 88 = .ok (.getfield 65, 3) := by decide +kernel
theorem d_C_stepOnce_91 : decode me_C_stepOnce.2.1 91 = .ok (.iload_n 1, 1) := by decide +kernel
theorem d_C_stepOnce_92 : decode me_C_stepOnce.2.1 92 = .ok (.iaload, 1) := by decide +kernel
theorem d_C_stepOnce_93 : decode me_C_stepOnce.2.1 93 = .ok (.iastore, 1) := by decide +kernel
theorem d_C_stepOnce_94 : decode me_C_stepOnce.2.1 94 = .ok (.aload_n 0, 1) := by decide +kernel
theorem d_C_stepOnce_95 : decode me_C_stepOnce.2.1 95 = .ok (.getfield 25, 3) := by decide +kernel
theorem d_C_stepOnce_98 : decode me_C_stepOnce.2.1 98 = .ok (.iload_n 1, 1) := by decide +kernel
theorem d_C_stepOnce_99 : decode me_C_stepOnce.2.1 99 = .ok (.invokevirtual 68, 3) := by decide +kernel
theorem d_C_stepOnce_102 : decode me_C_stepOnce.2.1 102 = .ok (.aload_n 0, 1) := by decide +kernel
theorem d_C_stepOnce_103 : decode me_C_stepOnce.2.1 103 = .ok (.getfield 25, 3) := by decide +kernel
theorem d_C_stepOnce_106 : decode me_C_stepOnce.2.1 106 = .ok (.getfield 52, 3) := by decide +kernel
theorem d_C_stepOnce_109 : decode me_C_stepOnce.2.1 109 = .ok (.imul, 1) := by decide +kernel
theorem d_C_stepOnce_110 : decode me_C_stepOnce.2.1 110 = .ok (.aload_n 0, 1) := by decide +kernel
theorem d_C_stepOnce_111 : decode me_C_stepOnce.2.1 111 = .ok (.getfield 9, 3) := by decide +kernel
theorem d_C_stepOnce_114 : decode me_C_stepOnce.2.1 114 = .ok (.iload_n 3, 1) := by decide +kernel
theorem d_C_stepOnce_115 : decode me_C_stepOnce.2.1 115 = .ok (.iload_n 2, 1) := by decide +kernel
theorem d_C_stepOnce_116 : decode me_C_stepOnce.2.1 116 = .ok (.iadd, 1) := by decide +kernel
theorem d_C_stepOnce_117 : decode me_C_stepOnce.2.1 117 = .ok (.aload_n 0, 1) := by decide +kernel
theorem d_C_stepOnce_118 : decode me_C_stepOnce.2.1 118 = .ok (.getfield 15, 3) := by decide +kernel
theorem d_C_stepOnce_121 : decode me_C_stepOnce.2.1 121 = .ok (.irem, 1) := by decide +kernel
theorem d_C_stepOnce_122 : decode me_C_stepOnce.2.1 122 = .ok (.iaload, 1) := by decide +kernel
theorem d_C_stepOnce_123 : decode me_C_stepOnce.2.1 123 = .ok (.iadd, 1) := by decide +kernel
theorem d_C_stepOnce_124 : decode me_C_stepOnce.2.1 124 = .ok (.istore_n 1, 1) := by decide +kernel
theorem d_C_stepOnce_125 : decode me_C_stepOnce.2.1 125 = .ok (.iinc 3 1, 3) := by decide +kernel
theorem d_C_stepOnce_128 : decode me_C_stepOnce.2.1 128 = .ok (.goto (-57), 3) := by decide +kernel
theorem d_C_stepOnce_131 : decode me_C_stepOnce.2.1 131 = .ok (.aload_n 0, 1) := by decide +kernel
theorem d_C_stepOnce_132 : decode me_C_stepOnce.2.1 132 = .ok (.getfield 19, 3) := by decide +kernel
theorem d_C_stepOnce_135 : decode me_C_stepOnce.2.1 135 = .ok (.iconst 0, 1) := by decide +kernel
theorem d_C_stepOnce_136 : decode me_C_stepOnce.2.1 136 = .ok (.aload_n 0, 1) := by decide +kernel
theorem d_C_stepOnce_137 : decode me_C_stepOnce.2.1 137 = .ok (.getfield 9, 3) := by decide +kernel
theorem d_C_stepOnce_140 : decode me_C_stepOnce.2.1 140 = .ok (.iconst 0, 1) := by decide +kernel
theorem d_C_stepOnce_141 : decode me_C_stepOnce.2.1 141 = .ok (.aload_n 0, 1) := by decide +kernel
theorem d_C_stepOnce_142 : decode me_C_stepOnce.2.1 142 = .ok (.getfield 15, 3) := by decide +kernel
theorem d_C_stepOnce_145 : decode me_C_stepOnce.2.1 145 = .ok (.invokestatic 38, 3) := by decide +kernel
theorem d_C_stepOnce_148 : decode me_C_stepOnce.2.1 148 = .ok (.return_, 1) := by decide +kernel
abbrev G_C_stepOnce_0 (l : Launch) (v : gs_V) (n : Nat) (post : gs_S → Prop) (σ : gs_S) : Prop := gG l v lyC 42 me_C_stepOnce n (qV v lyC 42 post) 0 [(0, .ref (v.2.2 10))] [] σ
abbrev G_C_stepOnce_4 (l : Launch) (v : gs_V) (n : Nat) (post : gs_S → Prop) (σ : gs_S) (x1 : Int32) (x2 : Int32) : Prop := gG l v lyC 42 me_C_stepOnce n (qV v lyC 42 post) 4 [(0, .ref (v.2.2 10)), (1, .int x1), (2, .int x2)] [] σ
abbrev G_C_stepOnce_71 (l : Launch) (v : gs_V) (n : Nat) (post : gs_S → Prop) (σ : gs_S) (x1 : Int32) (x2 : Int32) (x3 : Int32) : Prop := gG l v lyC 42 me_C_stepOnce n (qV v lyC 42 post) 71 [(0, .ref (v.2.2 10)), (1, .int x1), (2, .int x2), (3, .int x3)] [] σ
set_option maxRecDepth 20000 in
set_option maxHeartbeats 1000000 in
theorem T_C_stepOnce_0 {l : Launch} {v : gs_V} {n : Nat} {post : gs_S → Prop} {σ : gs_S} (h : G_C_stepOnce_4 l v n post σ 0 0) : G_C_stepOnce_0 l v n post σ := by
  refine g_iconst d_C_stepOnce_0 (x := 0) (by decide) ?_
  refine g_istore_n (L' := [(1, .int 0), (0, .ref (v.2.2 10))]) d_C_stepOnce_1 rfl (by decide) rfl ?_
  refine g_iconst d_C_stepOnce_2 (x := 0) (by decide) ?_
  refine g_istore_n (L' := [(2, .int 0), (1, .int 0), (0, .ref (v.2.2 10))]) d_C_stepOnce_3 rfl (by decide) rfl ?_
  exact g_sub [2, 1, 0] rfl h
set_option maxRecDepth 20000 in
set_option maxHeartbeats 1000000 in
theorem T_C_stepOnce_4 {l : Launch} {v : gs_V} {n : Nat} {post : gs_S → Prop} {σ : gs_S} {x1 : Int32} {x2 : Int32} (h : (((σ.1 4 7) ≤ x2 → gM l v lyC 42 me_R_left n [.ref (v.2.2 4)] σ (qI v lyC 42 (fun r1 σ1 => G_C_stepOnce_71 l v n post σ1 x1 ((σ.1 4 7) - r1) 0))) ∧ (¬ (σ.1 4 7) ≤ x2 → gM l v lyC 42 me_R_left n [.ref (v.2.2 4)] σ (qI v lyC 42 (fun r2 σ2 => gM l v lyC 42 me_J_floorMod n [.int (x2 - r2), .int (σ2.1 10 1)] σ2 (qI v lyC 42 (fun r3 σ3 => vp_in r3 64 ∧ G_C_stepOnce_4 l v n post σ3 ((x1 * (σ.1 4 6)) + (σ3.1 11 r3.toNatClampNeg)) (x2 + 1)))))))) : G_C_stepOnce_4 l v n post σ x1 x2 := by
  refine g_iload_n d_C_stepOnce_4 2 rfl rfl ?_
  refine g_aload_n d_C_stepOnce_5 0 rfl rfl ?_
  refine g_getV (x := .ref (v.2.2 4)) d_C_stepOnce_6 fl_C_25 (by decide) rfl rfl rfl ?_
  refine g_getV (x := .int (σ.1 4 7)) d_C_stepOnce_9 fl_C_47 (by decide) rfl rfl rfl ?_
  refine g_icmp_ge (tgt := 53) d_C_stepOnce_12 rfl (fun hc => ?_) (fun hc => ?_)
  · have h := h.1 hc
    refine g_aload_n d_C_stepOnce_53 0 rfl rfl ?_
    refine g_getV (x := .ref (v.2.2 4)) d_C_stepOnce_54 fl_C_25 (by decide) rfl rfl rfl ?_
    refine g_getV (x := .int (σ.1 4 7)) d_C_stepOnce_57 fl_C_47 (by decide) rfl rfl rfl ?_
    refine g_aload_n d_C_stepOnce_60 0 rfl rfl ?_
    refine g_getV (x := .ref (v.2.2 4)) d_C_stepOnce_61 fl_C_25 (by decide) rfl rfl rfl ?_
    refine g_callVi (av := []) (rest := [.int (σ.1 4 7)]) d_C_stepOnce_64 Y_R_left lk_C_55 (by decide) rfl rfl I_R_left rfl (Nat.le_of_ble_eq_true rfl) rfl h (fun r1 σ1 h => ?_)
    refine g_isub d_C_stepOnce_67 ?_
    refine g_istore_n (L' := [(2, .int ((σ.1 4 7) - r1)), (0, .ref (v.2.2 10)), (1, .int x1)]) d_C_stepOnce_68 rfl (by decide) rfl ?_
    refine g_iconst d_C_stepOnce_69 (x := 0) (by decide) ?_
    refine g_istore_n (L' := [(3, .int 0), (2, .int ((σ.1 4 7) - r1)), (0, .ref (v.2.2 10)), (1, .int x1)]) d_C_stepOnce_70 rfl (by decide) rfl ?_
    exact g_sub [2, 3, 1, 0] rfl h
  · have h := h.2 hc
    refine g_iload_n d_C_stepOnce_15 1 rfl rfl ?_
    refine g_aload_n d_C_stepOnce_16 0 rfl rfl ?_
    refine g_getV (x := .ref (v.2.2 4)) d_C_stepOnce_17 fl_C_25 (by decide) rfl rfl rfl ?_
    refine g_getV (x := .int (σ.1 4 6)) d_C_stepOnce_20 fl_C_52 (by decide) rfl rfl rfl ?_
    refine g_imul d_C_stepOnce_23 ?_
    refine g_aload_n d_C_stepOnce_24 0 rfl rfl ?_
    refine g_getV (x := .ref (v.2.2 11)) d_C_stepOnce_25 fl_C_9 (by decide) rfl rfl rfl ?_
    refine g_iload_n d_C_stepOnce_28 2 rfl rfl ?_
    refine g_aload_n d_C_stepOnce_29 0 rfl rfl ?_
    refine g_getV (x := .ref (v.2.2 4)) d_C_stepOnce_30 fl_C_25 (by decide) rfl rfl rfl ?_
    refine g_callVi (av := []) (rest := [.int x2, .ref (v.2.2 11), .int (x1 * (σ.1 4 6))]) d_C_stepOnce_33 Y_R_left lk_C_55 (by decide) rfl rfl I_R_left rfl (Nat.le_of_ble_eq_true rfl) rfl h (fun r2 σ2 h => ?_)
    refine g_isub d_C_stepOnce_36 ?_
    refine g_aload_n d_C_stepOnce_37 0 rfl rfl ?_
    refine g_getV (x := .int (σ2.1 10 1)) d_C_stepOnce_38 fl_C_15 (by decide) rfl rfl rfl ?_
    refine g_callSi (av := [.int (x2 - r2), .int (σ2.1 10 1)]) (rest := [.ref (v.2.2 11), .int (x1 * (σ.1 4 6))]) d_C_stepOnce_41 Y_J_floorMod lk_C_59 I_J_floorMod rfl (Nat.le_of_ble_eq_true rfl) rfl h (fun r3 σ3 h => ?_)
    have hi4 := h.1
    have h := h.2
    refine g_iald (x := σ3.1 11 r3.toNatClampNeg) d_C_stepOnce_44 (by decide) rfl hi4 rfl ?_
    refine g_iadd d_C_stepOnce_45 ?_
    refine g_istore_n (L' := [(1, .int ((x1 * (σ.1 4 6)) + (σ3.1 11 r3.toNatClampNeg))), (0, .ref (v.2.2 10)), (2, .int x2)]) d_C_stepOnce_46 rfl (by decide) rfl ?_
    refine g_iinc (L' := [(2, .int (x2 + 1)), (1, .int ((x1 * (σ.1 4 6)) + (σ3.1 11 r3.toNatClampNeg))), (0, .ref (v.2.2 10))]) d_C_stepOnce_47 2 rfl (by rfl) (by decide) rfl ?_
    refine g_goto (tgt := 4) d_C_stepOnce_50 rfl ?_
    exact g_sub [2, 1, 0] rfl h
set_option maxRecDepth 20000 in
set_option maxHeartbeats 1000000 in
theorem T_C_stepOnce_71 {l : Launch} {v : gs_V} {n : Nat} {post : gs_S → Prop} {σ : gs_S} {x1 : Int32} {x2 : Int32} {x3 : Int32} (h : (((σ.1 10 1) ≤ x3 → (¬ (σ.1 10 1) < 0 ∧ (σ.1 10 1).toNatClampNeg ≤ 64) ∧ post (gs_pA σ 11 (va_cpy (σ.1 12) (σ.1 11) 0 0 (σ.1 10 1).toNatClampNeg))) ∧ (¬ (σ.1 10 1) ≤ x3 → vp_in x1 256 ∧ vp_in x3 64 ∧ gM l v lyC 42 me_R_end n [.ref (v.2.2 4), .int x1] (gs_pI σ 12 x3.toNatClampNeg (σ.1 5 x1.toNatClampNeg)) (qI v lyC 42 (fun r3 σ3 => ¬ (σ3.1 10 1) = 0 ∧ vp_in (jR (x3 + x2) (σ3.1 10 1)) 64 ∧ G_C_stepOnce_71 l v n post σ3 ((r3 * (σ3.1 4 6)) + (σ3.1 11 ((jR (x3 + x2) (σ3.1 10 1)).toNatClampNeg))) x2 (x3 + 1)))))) : G_C_stepOnce_71 l v n post σ x1 x2 x3 := by
  refine g_iload_n d_C_stepOnce_71 3 rfl rfl ?_
  refine g_aload_n d_C_stepOnce_72 0 rfl rfl ?_
  refine g_getV (x := .int (σ.1 10 1)) d_C_stepOnce_73 fl_C_15 (by decide) rfl rfl rfl ?_
  refine g_icmp_ge (tgt := 131) d_C_stepOnce_76 rfl (fun hc => ?_) (fun hc => ?_)
  · have h := h.1 hc
    refine g_aload_n d_C_stepOnce_131 0 rfl rfl ?_
    refine g_getV (x := .ref (v.2.2 12)) d_C_stepOnce_132 fl_C_19 (by decide) rfl rfl rfl ?_
    refine g_iconst d_C_stepOnce_135 (x := 0) (by decide) ?_
    refine g_aload_n d_C_stepOnce_136 0 rfl rfl ?_
    refine g_getV (x := .ref (v.2.2 11)) d_C_stepOnce_137 fl_C_9 (by decide) rfl rfl rfl ?_
    refine g_iconst d_C_stepOnce_140 (x := 0) (by decide) ?_
    refine g_aload_n d_C_stepOnce_141 0 rfl rfl ?_
    refine g_getV (x := .int (σ.1 10 1)) d_C_stepOnce_142 fl_C_15 (by decide) rfl rfl rfl ?_
    have hcp := h.1
    have h := h.2
    refine g_copyi d_C_stepOnce_145 lk_C_38 (by decide) rfl (by decide) rfl hcp.1 (Nat.le_trans hcp.2 (by decide)) (Nat.le_trans hcp.2 (by decide)) (Nat.le_of_ble_eq_true rfl) ?_
    exact g_vret d_C_stepOnce_148 rfl h
  · have h := h.2 hc
    refine g_aload_n d_C_stepOnce_79 0 rfl rfl ?_
    refine g_getV (x := .ref (v.2.2 12)) d_C_stepOnce_80 fl_C_19 (by decide) rfl rfl rfl ?_
    refine g_iload_n d_C_stepOnce_83 3 rfl rfl ?_
    refine g_aload_n d_C_stepOnce_84 0 rfl rfl ?_
    refine g_getV (x := .ref (v.2.2 4)) d_C_stepOnce_85 fl_C_25 (by decide) rfl rfl rfl ?_
    refine g_getV (x := .ref (v.2.2 5)) d_C_stepOnce_88 fl_C_65 (by decide) rfl rfl rfl ?_
    refine g_iload_n d_C_stepOnce_91 1 rfl rfl ?_
    have hi1 := h.1
    have h := h.2
    refine g_iald (x := σ.1 5 x1.toNatClampNeg) d_C_stepOnce_92 (by decide) rfl hi1 rfl ?_
    have hi2 := h.1
    have h := h.2
    refine g_iast d_C_stepOnce_93 (by decide) rfl hi2 ?_
    refine g_aload_n d_C_stepOnce_94 0 rfl rfl ?_
    refine g_getV (x := .ref (v.2.2 4)) d_C_stepOnce_95 fl_C_25 (by decide) rfl rfl rfl ?_
    refine g_iload_n d_C_stepOnce_98 1 rfl rfl ?_
    refine g_callVi (av := [.int x1]) (rest := []) d_C_stepOnce_99 Y_R_end lk_C_68 (by decide) rfl rfl I_R_end rfl (Nat.le_of_ble_eq_true rfl) rfl h (fun r3 σ3 h => ?_)
    refine g_aload_n d_C_stepOnce_102 0 rfl rfl ?_
    refine g_getV (x := .ref (v.2.2 4)) d_C_stepOnce_103 fl_C_25 (by decide) rfl rfl rfl ?_
    refine g_getV (x := .int (σ3.1 4 6)) d_C_stepOnce_106 fl_C_52 (by decide) rfl rfl rfl ?_
    refine g_imul d_C_stepOnce_109 ?_
    refine g_aload_n d_C_stepOnce_110 0 rfl rfl ?_
    refine g_getV (x := .ref (v.2.2 11)) d_C_stepOnce_111 fl_C_9 (by decide) rfl rfl rfl ?_
    refine g_iload_n d_C_stepOnce_114 3 rfl rfl ?_
    refine g_iload_n d_C_stepOnce_115 2 rfl rfl ?_
    refine g_iadd d_C_stepOnce_116 ?_
    refine g_aload_n d_C_stepOnce_117 0 rfl rfl ?_
    refine g_getV (x := .int (σ3.1 10 1)) d_C_stepOnce_118 fl_C_15 (by decide) rfl rfl rfl ?_
    refine g_irem d_C_stepOnce_121 h.1 ?_
    have h := h.2
    have hi4 := h.1
    have h := h.2
    refine g_iald (x := σ3.1 11 ((jR (x3 + x2) (σ3.1 10 1)).toNatClampNeg)) d_C_stepOnce_122 (by decide) rfl hi4 rfl ?_
    refine g_iadd d_C_stepOnce_123 ?_
    refine g_istore_n (L' := [(1, .int ((r3 * (σ3.1 4 6)) + (σ3.1 11 ((jR (x3 + x2) (σ3.1 10 1)).toNatClampNeg)))), (0, .ref (v.2.2 10)), (2, .int x2), (3, .int x3)]) d_C_stepOnce_124 rfl (by decide) rfl ?_
    refine g_iinc (L' := [(3, .int (x3 + 1)), (1, .int ((r3 * (σ3.1 4 6)) + (σ3.1 11 ((jR (x3 + x2) (σ3.1 10 1)).toNatClampNeg)))), (0, .ref (v.2.2 10)), (2, .int x2)]) d_C_stepOnce_125 3 rfl (by rfl) (by decide) rfl ?_
    refine g_goto (tgt := 71) d_C_stepOnce_128 rfl ?_
    exact g_sub [2, 1, 3, 0] rfl h
theorem E_C_stepOnce {l : Launch} {v : gs_V} {n : Nat} {post : gs_S → Prop} {σ : gs_S} (h : G_C_stepOnce_0 l v n post σ) : gM l v lyC 42 me_C_stepOnce (n + 1) [.ref (v.2.2 10)] σ (qV v lyC 42 post) := gM_of (by decide +kernel) (Nat.le_of_ble_eq_true rfl) h
end
